/-! ===== shortest: both sides ===== -/
theorem gE_F {n d : Int} (h : gE n d) : gFr n d := by unfold gE at h; unfold gFr; omega
theorem chk2_n {k : Nat} {l1 l2 : Int32} (c : ¬ chk2 k l1 l2 = 0) : ¬ chk2 k l1 l2 ≤ 0 := by
  unfold chk2 at c ⊢
  split
  · split
    · decide
    · rename_i a b; rw [if_pos a, if_neg b] at c; exact absurd rfl c
  · decide
def shC (k : Nat) (l1 l2 l3 : Int32) : Int32 := if frb l3 0 2 = true then chk2 k l1 l2 else 1
def shoR (k : Nat) (W : Nat → WY) (F : Int × Int) (l1 l2 l3 : Int32) (r st : Int32) (F' : Int × Int) : Prop :=
  if shC k l1 l2 l3 = 0 then (r = 1 ∧ st = 0 ∧ ∃ n d, isSh l3 (W l1.toNatClampNeg) (W l2.toNatClampNeg) n d ∧ F' = (ft n d, fb n d)) else (r = 0 ∧ st = shC k l1 l2 l3 ∧ F' = F)
theorem shoR_u {k : Nat} {W : Nat → WY} {F : Int × Int} {l1 l2 l3 r st r' st' : Int32} {G G' : Int × Int} (h : shoR k W F l1 l2 l3 r st G) (h' : shoR k W F l1 l2 l3 r' st' G') : r = r' ∧ st = st' ∧ G = G' := by
  unfold shoR at h h'
  by_cases c : shC k l1 l2 l3 = 0
  · rw [if_pos c] at h h'
    obtain ⟨h1, h2, n, d, h3, h4⟩ := h
    obtain ⟨g1, g2, n', d', g3, g4⟩ := h'
    have e := isSh_f h3 g3
    exact ⟨h1.trans g1.symm, h2.trans g2.symm, by rw [h4, g4, e.1, e.2]⟩
  · rw [if_neg c] at h h'
    exact ⟨h.1.trans h'.1.symm, h.2.1.trans h'.2.1.symm, h.2.2.trans h'.2.2.symm⟩
theorem shC_0 {k : Nat} {l1 l2 l3 : Int32} (hk : k ≤ 4) (h : shC k l1 l2 l3 = 0) : (l3 = 0 ∨ l3 = 1 ∨ l3 = 2) ∧ frb l3 0 2 = true ∧ chk2 k l1 l2 = 0 ∧ ∃ w o : Nat, l1 = jI (w : Int) ∧ l2 = jI (o : Int) ∧ w < k ∧ o < k ∧ w ≠ o := by
  unfold shC at h
  by_cases c : frb l3 0 2 = true
  · rw [if_pos c] at h
    exact ⟨kind_c c, c, h, chk2_0 hk h⟩
  · rw [if_neg c] at h
    exact absurd h (by decide)
theorem sFi_F {x k : Nat} (h : sCF x k = false) : sFi x k = false := by
  refine sB_f (fun z => ?_) (fun z => ?_)
  · rw [show sCF x k = sB 0 10 10 54 190 x k from rfl, sB_t2 (by omega)] at h; cases h
  · rw [show sCF x k = sB 0 10 10 54 190 x k from rfl, sB_t2 (by omega)] at h; cases h
theorem w105_q {M : MM} {k : Nat} {W : Nat → WY} {F : Int × Int} {l1 l2 l3 : Int32} {P : Int32 → MM → Prop} (hL : Lay M) (hW : CWs M k W) (hF : CFr M F) (hX : ∀ M' r st F', Fr sCF M M' → mI M' 0 10 = st → CFr M' F' → shoR k W F l1 l2 l3 r st F' → P r M') : w105 0 l1 l2 l3 M P := by
  have hC := CWs_CW hL hW
  have k4 := hW.2.1
  refine w94_s ⟨kd_0 hL, w62_s hC ?_⟩
  have e : (if frb l3 0 2 = true then chk2 k l1 l2 else 1) = shC k l1 l2 l3 := rfl
  rw [e]
  have h1 : Fr sCF M (sI M 0 10 (shC k l1 l2 l3)) := Fr_s0F Fr_r
  have g1 : mI (sI M 0 10 (shC k l1 l2 l3)) 0 10 = shC k l1 l2 l3 := gI_y ⟨rfl, rfl⟩
  refine ⟨kd_0 hL, kd_0 hL, ?_⟩
  rw [g1]
  by_cases c : shC k l1 l2 l3 = 0
  · replace hX : ∀ M' r st F', Fr sCF M M' → mI M' 0 10 = st → CFr M' F' → (r = 1 ∧ st = 0 ∧ ∃ n d, isSh l3 (W l1.toNatClampNeg) (W l2.toNatClampNeg) n d ∧ F' = (ft n d, fb n d)) → P r M' := fun M' r st F' x y z w => hX M' r st F' x y z (by unfold shoR; rw [if_pos c]; exact w)
    refine br_t c ?_
    obtain ⟨hk, _, _, w, o, rfl, rfl, hw, ho, hne⟩ := shC_0 k4 c
    rw [jI_cn (by omega), jI_cn (by omega)] at hX ⊢
    have hL1 := h1.1 hL
    have hW1 := CWs_F h1 hW
    generalize sI M 0 10 (shC k (jI (w : Int)) (jI (o : Int)) l3) = M1 at *
    refine ⟨kd_0 hL1, kd_0 hL1, 19, rf_0_5 hL1, i19 hL1 (by omega), kd_0 hL1, 19, rf_0_5 hL1, i19 hL1 (by omega), kd_0 hL1, 58, rf_0_15 hL1, kd_58 hL1, ?_⟩
    rw [rf_19 hL1 (by omega), rf_19 hL1 (by omega), rf_0_12 hL1]
    refine w106_s hL1 (isT_way (by omega)) (isT_way (by omega)) (hW1.2.2 w hw).2 (hW1.2.2 o ho).2 (hW.2.2 w hw).1 (hW.2.2 o ho).1 hk (fun M2 n d h2 hs f0 f1 => ?_)
    have hL2 := h2.1 hL1
    refine ⟨kd_0 hL2, kd_0 hL2, ?_⟩
    rw [rf_0_12 hL2]
    exact w55_s hL2 (Or.inl rfl) f0 f1 (gE_F hs.1) (fun M3 h3 s3 t0 t1 => ⟨Or.inr rfl, hX _ _ _ (_, _) (Fr_t h1 (Fr_t (Fr_w h2 (fun x k h => sFi_F h)) h3)) s3 ⟨t0, t1⟩ ⟨rfl, rfl, n, d, hs, rfl⟩⟩)
  · exact br_f c (hX _ _ _ F h1 g1 hF (by unfold shoR; rw [if_neg c]; exact ⟨rfl, rfl, rfl⟩))
theorem sSh_Q {x k : Nat} (h : sRQ x k = false) : sSh x k = false := by
  refine sB_f (fun z => ?_) (fun z => ?_)
  · rw [z.1, sRQ_1 (by omega)] at h; cases h
  · rw [sRQ_2 (by omega)] at h; cases h
theorem w244_q {M : MM} {k : Nat} {W : Nat → WY} {F : Int × Int} {l1 l2 l3 : Int32} {P : Int32 → MM → Prop} (hL : Lay M) (hW : RWs M k W) (hF : RFr M F) (hX : ∀ M' r st F', Fr sRF M M' → mI M' 203 9 = st → RFr M' F' → shoR k W F l1 l2 l3 r st F' → P r M') : w244 203 l1 l2 l3 M P := by
  have hC := RWs_RW hL hW
  have k4 := hW.2.1
  have no : ∀ s0, s0 = shC k l1 l2 l3 → ¬ s0 ≤ 0 → w244_19 203 l1 l2 l3 s0 M P := fun s0 e h => by
    subst e
    refine br_f h ⟨kd_203 hL, kd_203 hL, Or.inl rfl, hX _ _ _ F (Fr_s9F Fr_r) (gI_y ⟨rfl, rfl⟩) hF ?_⟩
    unfold shoR
    rw [if_neg (fun z => h (by rw [z]; decide))]
    exact ⟨rfl, rfl, rfl⟩
  refine w166_s ?_
  cases hf : frb l3 0 2 with
  | false => exact br_f (by decide) (no 1 (by unfold shC; rw [if_neg (by rw [hf]; decide)]) (by decide))
  | true =>
    refine br_t (by decide) ⟨kd_203 hL, w202_s hC ?_⟩
    have e : shC k l1 l2 l3 = chk2 k l1 l2 := by unfold shC; rw [if_pos hf]
    by_cases c : chk2 k l1 l2 = 0
    · have c' : shC k l1 l2 l3 = 0 := e.trans c
      replace hX : ∀ M' r st F', Fr sRF M M' → mI M' 203 9 = st → RFr M' F' → (r = 1 ∧ st = 0 ∧ ∃ n d, isSh l3 (W l1.toNatClampNeg) (W l2.toNatClampNeg) n d ∧ F' = (ft n d, fb n d)) → P r M' := fun M' r st F' x y z w => hX M' r st F' x y z (by unfold shoR; rw [if_pos c']; exact w)
      refine br_t (by rw [c]; decide) ?_
      obtain ⟨hk, _, _, w, o, rfl, rfl, hw, ho, hne⟩ := shC_0 k4 c'
      rw [jI_cn (by omega), jI_cn (by omega)] at hX
      refine ⟨kd_203 hL, w211_s hL hW hw ho (fun M1 h1 hR => ?_)⟩
      have hL1 := h1.1 hL
      refine ⟨kd_203 hL1, w245_s hL1 hR (hW.2.2 w hw).1 (hW.2.2 o ho).1 hk (fun M2 n d h2 hs f0 f1 _ => ?_)⟩
      have hL2 := h2.1 hL1
      refine ⟨kd_203 hL2, kd_203 hL2, kd_203 hL2, kd_203 hL2, ?_⟩
      rw [f0, f1]
      refine w195_s hL2 (gE_F hs.1) ⟨kd_203 hL2, Or.inr rfl, ?_⟩
      have hFr : Fr sRF M M2 := Fr_t (Fr_w h1 (fun x k h => sRL_Q (sRF_Q h))) (Fr_w h2 (fun x k h => sSh_Q (sRF_Q h)))
      refine hX _ _ _ (_, _) (Fr_s9F (Fr_sL (Fr_sL hFr (sRF_1 (by omega))) (sRF_1 (by omega)))) (gI_y ⟨rfl, rfl⟩) ⟨?_, ?_⟩ ⟨rfl, rfl, n, d, hs, rfl⟩
      · rw [gL_sI, gL_n (by omega), gL_y ⟨rfl, rfl⟩]
      · rw [gL_sI, gL_y ⟨rfl, rfl⟩]
    · exact no _ e.symm (chk2_n c)
