/-! laysShortest in the reference -/
theorem w239_e {M : MM} {a b : WY} {kind : Int32} {n d : Int} {P : Int32 → MM → Prop} (hL : Lay M) (hR : RAB M a b) (hD : REd M n d) (ga : gW a) (gb : gW b) (hE : gE n d) (hk : kind = 0 ∨ kind = 1) (hX : ∀ (M' : MM) (e : Bool), Fr sWk M M' → (e = true ↔ Eno kind a b n d) → P (bI e) M') : w239 203 kind M P := by
  unfold Eno at hX
  rcases hk with rfl | rfl
  · refine w239_0 hL hR hD ga gb hE (fun M' hF _ => hX M' _ (Fr_w hF (fun x k z => sB_w (by omega) (by omega) x k z)) ?_)
    rw [if_neg (by decide), if_neg (by decide)]
  · refine w239_1 hL hR hD ga gb hE (fun M' e hF he => hX M' e hF ?_)
    rw [if_neg (by decide), if_pos rfl]
    exact he
def sSh : Nat → Nat → Bool := sB 203 29 54 214 228
theorem RAB_sh {M M' : MM} {a b : WY} (hF : Fr sSh M M') (h : RAB M a b) : RAB M' a b := RAB_fr hF (sB_f (by omega) (by omega)) (sB_f (by omega) (by omega)) (fun x k h1 h2 => sB_f (by omega) (by omega)) h
def sSe : Nat → Nat → Bool := sB 203 29 33 214 225
theorem w245_33_s {M0 : MM} {a b : WY} {kind : Int32} {c : Nat} {A B : Nat → Int} {P : MM → Prop} (hL0 : Lay M0) (hR : RAB M0 a b) (hk : kind = 0 ∨ kind = 1) (ga : gW a) (gb : gW b) (hc : RSq M0 c A B) (hS : Sq c A B) (c5 : c ≤ 506)
    (hX : ∀ M' m, Fr sSh M0 M' → m < c → Eno kind a b (A m) (B m) → (∀ k, k < m → ¬ Eno kind a b (A k) (B k)) → mL M' 203 52 = jL (A m) → mL M' 203 53 = jL (B m) → mI M' 203 54 = jI (m : Int) → P M') :
    ∀ (q lo hi : Nat) (M : MM), hi - lo ≤ q → lo ≤ hi → hi < c → Fr sSe M0 M → (∀ k, k < lo → ¬ Eno kind a b (A k) (B k)) → Eno kind a b (A hi) (B hi) → w245_33 (q + 1) 203 kind (jI (lo : Int)) (jI (hi : Int)) M P := by
  have cq : ∀ M, Fr sSe M0 M → RSq M c A B := fun M h => ⟨(Fr_I h (sB_f (by omega) (by omega))).trans hc.1, fun k hk => ⟨(Fr_L h (sB_f (by omega) (by omega))).trans (hc.2 k hk).1, (Fr_L h (sB_f (by omega) (by omega))).trans (hc.2 k hk).2⟩⟩
  have fin : ∀ (M : MM) (n m : Nat), Fr sSe M0 M → m < c → (∀ k, k < m → ¬ Eno kind a b (A k) (B k)) → Eno kind a b (A m) (B m) → w245_33 (n + 1) 203 kind (jI (m : Int)) (jI (m : Int)) M P := by
    intro M n m h hm h1 h2
    have hL := h.1 hL0
    obtain ⟨r1, r2⟩ := (cq M h).2 m hm
    have em : (jI (m : Int)).toNatClampNeg = m := jI_cn (by omega)
    refine br_t (Int32.le_refl _) ⟨kd_203 hL, kd_203 hL, 227, rf_203_47 (lay_sI hL), i227 hL (by omega), kd_203 hL, kd_203 hL, 228, rf_203_48 (lay_sL (lay_sI hL)), i228 hL (by omega), kd_203 hL, ?_⟩
    rw [em, gL_sI, gL_n (by omega), gL_sI, r1, r2]
    refine hX _ m (Fr_sL (Fr_sL (Fr_sI (Fr_w h (fun x k z => sB_w (by omega) (by omega) x k z)) (sB_t1 (by omega))) (sB_t1 (by omega))) (sB_t1 (by omega))) hm h2 h1 (by rw [gL_n (by omega), gL_y ⟨rfl, rfl⟩]) (gL_y ⟨rfl, rfl⟩) (by rw [gI_sL, gI_sL, gI_y ⟨rfl, rfl⟩])
  intro q
  induction q with
  | zero =>
    intro lo hi M hq hl hh h h1 h2
    have : lo = hi := by omega
    subst this
    exact fin M 0 lo h hh h1 h2
  | succ q ih =>
    intro lo hi M hq hl hh h h1 h2
    rcases Nat.eq_or_lt_of_le hl with e | lt
    · subst e; exact fin M (q + 1) lo h hh h1 h2
    have hL := h.1 hL0
    refine br_f (by rw [jI_le (by omega) (by omega) (by omega) (by omega)]; omega) ⟨by decide, kd_203 hL, 227, rf_203_47 hL, ?_⟩
    have eh : (jI (lo : Int) + jI (hi : Int)) / 2 = jI (((lo + hi) / 2 : Nat) : Int) := by
      rw [show (2 : Int32) = jI 2 from rfl, jI_add, jI_div (by omega) (by omega) (by omega) (by omega)]; congr 1
    rw [eh]
    generalize hm : (lo + hi) / 2 = m at *
    have em : (jI (m : Int)).toNatClampNeg = m := jI_cn (by omega)
    have e1 : jI (m : Int) + 1 = jI ((m + 1 : Nat) : Int) := by rw [show (1 : Int32) = jI 1 from rfl, jI_add, c_s1]
    obtain ⟨r1, r2⟩ := (cq M h).2 m (by omega)
    refine ⟨i227 hL (by omega), kd_203 hL, kd_203 hL, 228, rf_203_48 (lay_sL hL), i228 hL (by omega), kd_203 hL, ?_⟩
    rw [em, gL_n (by omega), r1, r2]
    have hF1 : Fr sSe M0 (sL (sL M 203 29 (jL (A m))) 203 30 (jL (B m))) := Fr_sL (Fr_sL h (sB_t1 (by omega))) (sB_t1 (by omega))
    have hL1 := hF1.1 hL0
    have hR1 : RAB (sL (sL M 203 29 (jL (A m))) 203 30 (jL (B m))) a b := RAB_fr hF1 (sB_f (by omega) (by omega)) (sB_f (by omega) (by omega)) (fun x k _ _ => sB_f (by omega) (by omega)) hR
    have hD1 : REd (sL (sL M 203 29 (jL (A m))) 203 30 (jL (B m))) (A m) (B m) := ⟨by rw [gL_n (by omega), gL_y ⟨rfl, rfl⟩], gL_y ⟨rfl, rfl⟩⟩
    generalize sL (sL M 203 29 (jL (A m))) 203 30 (jL (B m)) = M1 at *
    refine ⟨kd_203 hL1, w239_e hL1 hR1 hD1 ga gb (hS.1 m (by omega)) hk (fun M2 e h2' he => ?_)⟩
    have hF2 : Fr sSe M0 M2 := Fr_t hF1 (Fr_w h2' (fun x k z => sB_w (by omega) (by omega) x k z))
    unfold w245_86
    rw [e1]
    cases e with
    | false =>
      refine br_t rfl (ih (m + 1) hi M2 (by omega) (by omega) hh hF2 (fun k hk' hE => ?_) h2)
      have nE : ¬ Eno kind a b (A m) (B m) := fun z => by have := he.mpr z; cases this
      rcases Nat.lt_or_ge k m with z | z
      · exact nE (Eno_mono hk ga gb (hS.1 k (by omega)).2.2.1 (hS.1 m (by omega)).2.2.1 (Int.le_of_lt (hS.2 k m z (by omega))) hE)
      · have : k = m := by omega
        subst this; exact nE hE
    | true => exact br_f (by decide) (ih lo m M2 (by omega) (by omega) (by omega) hF2 h1 (he.mp rfl))
/-- the row of all CRITICALS and the place of the shortest in it -/
def isBw (a b : WY) (n d : Int) (m : Nat) : Prop := ∃ c A B, Sq c A B ∧ (∀ n d, 0 < d → (Me c A B n d ↔ isCr a b n d)) ∧ c ≤ 506 ∧ m < c ∧ A m * d = n * B m
theorem w245_s {M : MM} {a b : WY} {kind : Int32} {P : MM → Prop} (hL : Lay M) (hR : RAB M a b) (ga : gW a) (gb : gW b) (hk : kind = 0 ∨ kind = 1 ∨ kind = 2) (hX : ∀ M' n d, Fr sSh M M' → isSh kind a b n d → mL M' 203 52 = jL n → mL M' 203 53 = jL d → (kind ≠ 2 → ∃ m : Nat, isBw a b n d m ∧ mI M' 203 54 = jI (m : Int)) → P M') : w245 203 kind M P := by
  have a1 := ga.1
  have b1 := gb.1
  have hz := hv_z ga gb (show 0 < wn a by omega) (show 0 < wn b by omega)
  by_cases c2 : kind = 2
  · refine br_f (fun z => z c2) ⟨kd_203 hL, w241_s hL hR ga gb (fun M2 h2 => ?_)⟩
    have hL2 := h2.1.1 hL
    refine ⟨kd_203 hL2, kd_203 hL2, ?_⟩
    rw [jI_l (by omega) (by omega)]
    refine hX _ (hv a b 0 0) 1 (Fr_sL (Fr_sL (Fr_w h2.1 (fun x k z => ?_)) (sB_t1 (by omega))) (sB_t1 (by omega))) ⟨⟨by omega, by omega, by omega, by omega⟩, ?_⟩ (by rw [gL_n (by omega), gL_y ⟨rfl, rfl⟩]) (gL_y ⟨rfl, rfl⟩) (fun z => absurd c2 z)
    · refine sHp_f (fun y => ?_)
      rw [show sSh x k = sB 203 29 54 214 228 x k from rfl, sB_t2 (by omega)] at z; cases z
    · rw [if_pos c2]; omega
  · have hk' : kind = 0 ∨ kind = 1 := by
      rcases hk with z | z | z
      · exact Or.inl z
      · exact Or.inr z
      · exact absurd z c2
    refine br_t c2 ⟨kd_203 hL, w246_s hL hR ga gb (fun M1 c A B h1 hc hS hRd c5 hM => ?_)⟩
    have hL1 := h1.1 hL
    have hF1 : Fr sSh M M1 := Fr_w h1 (fun x k z => sB_w (by omega) (by omega) x k z)
    have hR1 := RAB_sh hF1 hR
    have hM' : ∀ n d, 0 < d → (Me c A B n d ↔ (0 * d ≤ n ∧ n ≤ 648 * d ∧ isCr a b n d)) := fun n d hd => by
      rw [hM n d hd]
      exact ⟨fun z => ⟨by have := (cr_b ga gb hd z).1; omega, (cr_b ga gb hd z).2, z⟩, fun z => z.2.2⟩
    have q0 := qd_b ga gb (show 0 < wn a by omega) (show 0 < wn b by omega)
    have c0 := row_k0 ga gb hM' (by omega) (by omega)
    have eL := row_en hk' ga gb hS hM' (by omega) (by omega) (m := c - 1) (by omega) (fun k x _ => by omega)
    refine ⟨kd_203 hL1, c + 1, ?_⟩
    rw [hc.1, show jI (c : Int) - 1 = jI ((c - 1 : Nat) : Int) by rw [show (1 : Int32) = jI 1 from rfl, jI_sub]; congr 1; omega]
    exact w245_33_s hL1 hR1 hk' ga gb hc hS c5 (fun M' m x1 x2 x3 x4 x5 x6 x7 => hX M' _ _ (Fr_t hF1 x1) (row_sh hk' ga gb hS hM' (by omega) x2 x3 x4) x5 x6 (fun _ => ⟨m, ⟨c, A, B, hS, hM, c5, x2, rfl⟩, x7⟩)) c 0 (c - 1) M1 (by omega) (by omega) (by omega) Fr_r (fun k hk => absurd hk (by omega)) eL
