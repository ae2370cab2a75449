/-! ===== enough: both sides ===== -/
def Eno (kind : Int32) (a b : WY) (n d : Int) : Prop := if kind = 2 then hv a b 0 0 * d ≤ n else if kind = 1 then Wk a b n d else srv (wn a) (wn b) (geo a b n d) = true
theorem kind_c {q : Int32} (h : frb q 0 2 = true) : q = 0 ∨ q = 1 ∨ q = 2 := by
  have h' := of_decide_eq_true h
  obtain ⟨x, e, x1, x2⟩ := jI_of q
  subst e
  simp (disch := omega) only [jI_lit, jL_lit, jI_add, jI_sub, jI_mul, jI_neg, jL_add, jL_sub, jL_mul, jL_neg, jL_i, jI_eq, jI_le, jI_lt, jL_eq, jL_le, jL_lt, jI_l] at h'
  have : x = 0 ∨ x = 1 ∨ x = 2 := by omega
  rcases this with rfl | rfl | rfl
  · exact Or.inl rfl
  · exact Or.inr (Or.inl rfl)
  · exact Or.inr (Or.inr rfl)
theorem sJp_Q {x k : Nat} (h : sCQ x k = false) : sJp x k = false := by
  have e : ∀ y q, 55 ≤ y → y ≤ 190 → sCQ y q = true := fun y q h1 h2 => sB_t2 ⟨h1, h2⟩
  refine sB_f (fun z => ?_) (fun z => ?_)
  · rw [e x k (by omega) (by omega)] at h; cases h
  · rw [e x k (by omega) (by omega)] at h; cases h
theorem sWk_Q {x k : Nat} (h : sRQ x k = false) : sWk x k = false := by
  refine sB_f (fun z => ?_) (fun z => ?_)
  · rw [z.1, sRQ_1 (by omega)] at h; cases h
  · rw [sRQ_2 (by omega)] at h; cases h
theorem sHp_Q {x k : Nat} (h : sRQ x k = false) : sHp x k = false := by
  refine sHp_f (fun z => ?_)
  rw [sRQ_2 (by omega)] at h; cases h
/-- the class: Leashes.isEnough -/
theorem w95_s {M : MM} {t u : Nat} {a b : WY} {kind : Int32} {n d : Int} {P : Int32 → MM → Prop} (hL : Lay M) (ht : isT t = true) (hu : isT u = true) (t9 : t + 2 < 175 ∨ 177 < t) (u9 : u + 2 < 175 ∨ 177 < u) (hA : TrC M t a) (hB : TrC M u b) (ga : gW a) (gb : gW b) (hk : kind = 0 ∨ kind = 1 ∨ kind = 2) (n0 : 0 ≤ n) (n1 : n ≤ 100000) (d0 : 1 ≤ d) (d1 : d ≤ 1000) (hX : ∀ (M' : MM) (e : Bool), Fr sCQ M M' → (e = true ↔ Eno kind a b n d) → P (bI e) M') : w95 58 (some t) (some u) kind (jI n) (jI d) M P := by
  have a1 := ga.1
  have b1 := gb.1
  have hE := gE_l n0 n1 d0 d1
  have go : kind ≠ 2 → (∀ (M' : MM), Lay M' → Fr sCQ M M' → MS M' a b n d → w100 59 kind M' (fun r7 M6 => (r7 = 0 ∨ r7 = 1) ∧ P r7 M6)) → w95 58 (some t) (some u) kind (jI n) (jI d) M P := fun c2 hg => by
    refine br_t c2 ⟨kd_58 hL, 59, rf_58_0 hL, kd_59 hL, ?_⟩
    refine w78_s hL ht hu hA hB ga gb (fun M1 h1 => ?_)
    have hL1 := h1.1.1 hL
    refine ⟨kd_58 hL1, 59, rf_58_0 hL1, kd_59 hL1, ?_⟩
    rw [jI_l (by omega) (by omega), jI_l (by omega) (by omega)]
    refine w80_s hL1 (Laid_LI h1) ga gb hE (fun M2 h2 => ?_)
    have hF2 : Fr sMat M M2 := Fr_t (Fr_w h1.1 (fun x k => sLay_M)) (Fr_w h2.1 (fun x k => sMea_M))
    have hL2 := hF2.1 hL
    exact ⟨kd_58 hL2, 59, rf_58_0 hL2, kd_59 hL2, hg M2 hL2 (Fr_w hF2 (fun x k => sMat_Q)) (MS_of (Laid_LI h1) h2)⟩
  unfold Eno at hX
  rcases hk with rfl | rfl | rfl
  · refine go (by decide) (fun M' hL' hF' hM => w100_s hL' hM ga gb ⟨bI_01 _, hX M' _ hF' ?_⟩)
    rw [if_neg (by decide), if_neg (by decide)]
  · refine go (by decide) (fun M' hL' hF' hM => w100_1 hL' hM ga gb (fun e he => ⟨bI_01 _, hX M' e hF' ?_⟩))
    rw [if_neg (by decide), if_pos rfl]
    exact he
  · have hz := hv_z ga gb (show 0 < wn a by omega) (show 0 < wn b by omega)
    refine br_f (fun z => z rfl) ⟨kd_58 hL, 175, rf_58_1 hL, kd_175 hL, w96_s hL ht hu t9 u9 hA hB ga gb (fun M1 h1 => ?_)⟩
    have hL1 := h1.1.1 hL
    have hF1 : Fr sCQ M M1 := Fr_w h1.1 (fun x k => sJp_Q)
    refine ⟨kd_58 hL1, 175, rf_58_1 hL1, kd_175 hL1, w99_s hL1 ga gb h1 ?_⟩
    have m := Int.mul_le_mul hz.2 d1 (by omega) (by omega)
    have m0 : 0 ≤ hv a b 0 0 * d := Int.mul_nonneg hz.1 (by omega)
    have ec : (0 < lg_cmp ((jI (hv a b 0 0)).toInt64 * (jI d).toInt64) (jI n).toInt64) ↔ n < hv a b 0 0 * d := by
      rw [show (0 : Int32) = jI 0 from rfl, lc_gt, jI_l (by omega) (by omega), jI_l (by omega) (by omega), jI_l (by omega) (by omega), jL_mul, jL_lt (by omega) (by omega) (by omega) (by omega)]
    refine ⟨fun z => ⟨Or.inl rfl, hX M1 false hF1 ?_⟩, fun z => ⟨Or.inr rfl, hX M1 true hF1 ?_⟩⟩
    · rw [if_pos rfl]
      have := ec.mp z
      exact ⟨fun y => (by cases y), fun y => absurd y (by omega)⟩
    · rw [if_pos rfl]
      have : ¬ n < hv a b 0 0 * d := fun y => z (ec.mpr y)
      exact ⟨fun _ => by omega, fun _ => rfl⟩
/-- the reference: isEnough -/
theorem w239_s {M : MM} {a b : WY} {kind : Int32} {n d : Int} {P : Int32 → MM → Prop} (hL : Lay M) (hR : RAB M a b) (hD : REd M n d) (ga : gW a) (gb : gW b) (hE : gE n d) (hk : kind = 0 ∨ kind = 1 ∨ kind = 2) (hX : ∀ (M' : MM) (e : Bool), Fr sRQ M M' → RAB M' a b → (e = true ↔ Eno kind a b n d) → P (bI e) M') : w239 203 kind M P := by
  unfold Eno at hX
  rcases hk with rfl | rfl | rfl
  · refine w239_0 hL hR hD ga gb hE (fun M' hF _ => hX M' _ (Fr_w hF (fun x k => sFA_Q)) (RAB_A hF hR) ?_)
    rw [if_neg (by decide), if_neg (by decide)]
  · refine w239_1 hL hR hD ga gb hE (fun M' e hF he => hX M' e (Fr_w hF (fun x k => sWk_Q)) (RAB_fr hF (sB_f (by omega) (by omega)) (sB_f (by omega) (by omega)) (fun x k _ _ => sB_f (by omega) (by omega)) hR) ?_)
    rw [if_neg (by decide), if_pos rfl]
    exact he
  · refine w239_2 hL hR hD ga gb hE (fun M' hF => hX M' _ (Fr_w hF (fun x k => sHp_Q)) (RAB_fr hF (sHp_f (by omega)) (sHp_f (by omega)) (fun x k _ _ => sHp_f (by omega)) hR) ?_)
    rw [if_pos rfl, decide_eq_true_eq]
def enoC (k : Nat) (l1 l2 l3 l4 l5 : Int32) : Int32 := if (frb l3 0 2 && lsb l4 l5) = true then chk2 k l1 l2 else 1
def enoR (k : Nat) (W : Nat → WY) (l1 l2 l3 l4 l5 : Int32) (r st : Int32) : Prop :=
  if enoC k l1 l2 l3 l4 l5 = 0 then (st = 0 ∧ ∃ e : Bool, r = bI e ∧ (e = true ↔ Eno l3 (W l1.toNatClampNeg) (W l2.toNatClampNeg) l4.toInt l5.toInt)) else (r = -1 ∧ st = enoC k l1 l2 l3 l4 l5)
theorem enoR_u {k : Nat} {W : Nat → WY} {l1 l2 l3 l4 l5 r st r' st' : Int32} (h : enoR k W l1 l2 l3 l4 l5 r st) (h' : enoR k W l1 l2 l3 l4 l5 r' st') : r = r' ∧ st = st' := by
  unfold enoR at h h'
  by_cases c : enoC k l1 l2 l3 l4 l5 = 0
  · rw [if_pos c] at h h'
    obtain ⟨s, e, q, z⟩ := h
    obtain ⟨s', e', q', z'⟩ := h'
    refine ⟨?_, s.trans s'.symm⟩
    rw [q, q', show e = e' from Bool.eq_iff_iff.mpr (z.trans z'.symm)]
  · rw [if_neg c] at h h'
    exact ⟨h.1.trans h'.1.symm, h.2.trans h'.2.symm⟩
theorem enoC_0 {k : Nat} {l1 l2 l3 l4 l5 : Int32} (hk : k ≤ 4) (hs : enoC k l1 l2 l3 l4 l5 = 0) : (frb l3 0 2 && lsb l4 l5) = true ∧ (l3 = 0 ∨ l3 = 1 ∨ l3 = 2) ∧ chk2 k l1 l2 = 0 ∧ ∃ (w o : Nat) (n d : Int), l1 = jI (w : Int) ∧ l2 = jI (o : Int) ∧ l4 = jI n ∧ l5 = jI d ∧ w < k ∧ o < k ∧ w ≠ o ∧ 0 ≤ n ∧ n ≤ 100000 ∧ 1 ≤ d ∧ d ≤ 1000 ∧ l1.toNatClampNeg = w ∧ l2.toNatClampNeg = o ∧ l4.toInt = n ∧ l5.toInt = d := by
  unfold enoC at hs
  rw [Bool.and_comm] at hs
  obtain ⟨hb, hc, hs2, w, o, n, d, q⟩ := clG_0 hk hs
  rw [Bool.and_comm] at hb
  exact ⟨hb, kind_c hc, hs2, w, o, n, d, q⟩
theorem w93_q {M : MM} {k : Nat} {W : Nat → WY} {l1 l2 l3 l4 l5 : Int32} {P : Int32 → MM → Prop} (hL : Lay M) (hW : CWs M k W) (hX : ∀ M' r st, Fr sCQ M M' → mI M' 0 10 = st → enoR k W l1 l2 l3 l4 l5 r st → P r M') : w93 0 l1 l2 l3 l4 l5 M P := by
  have hC := CWs_CW hL hW
  refine w93_p ?_
  by_cases hs : enoC k l1 l2 l3 l4 l5 = 0
  · replace hX : ∀ M' r st, Fr sCQ M M' → mI M' 0 10 = st → (st = 0 ∧ ∃ e : Bool, r = bI e ∧ (e = true ↔ Eno l3 (W l1.toNatClampNeg) (W l2.toNatClampNeg) l4.toInt l5.toInt)) → P r M' := fun M' r st x y z => hX M' r st x y (by unfold enoR; rw [if_pos hs]; exact z)
    obtain ⟨hb, hkd, hs2, w, o, n, d, rfl, rfl, rfl, rfl, hw, ho, hwo, n0, n1, d0, d1, e1, e2, e3, e4⟩ := enoC_0 hW.2.1 hs
    rw [e1, e2, e3, e4] at hX
    have k4 := hW.2.1
    have qw := hW.2.2 w hw
    have qo := hW.2.2 o ho
    rw [hb]
    have hF1 : Fr sCQ M (sI M 0 10 (if true = true then chk2 k (jI (w : Int)) (jI (o : Int)) else 1)) := Fr_s0 Fr_r
    have hL1 := hF1.1 hL
    have hW1 := CWs_Q hF1 hW
    refine ⟨0, rfl, kd_0 hL, w62_s (b := true) hC ⟨0, rfl, kd_0 hL, kd_0 hL, st_a (by rw [if_pos rfl]; exact hs2) ⟨kd_0 hL, kd_0 hL, 19, rf_0_5 hL1, i19 hL1 (by omega), kd_0 hL, 19, rf_0_5 hL1, i19 hL1 (by omega), 58, rf_0_15 hL1, kd_58 hL1, ?_⟩⟩⟩
    rw [jI_cn (by omega), jI_cn (by omega), rf_19 hL1 (by omega), rf_19 hL1 (by omega)]
    refine w95_s hL1 (isT_way (by omega)) (isT_way (by omega)) (by omega) (by omega) (hW1.2.2 w hw).2 (hW1.2.2 o ho).2 qw.1 qo.1 hkd n0 n1 d0 d1 (fun M' e hF he => ?_)
    have hL' := hF.1 hL1
    have hF2 := Fr_t hF1 hF
    cases e with
    | false => exact br_t rfl ⟨0, rfl, kd_0 hL', kd_0 hL', hX _ _ _ (Fr_s0 hF2) (gI_y ⟨rfl, rfl⟩) ⟨rfl, false, rfl, he⟩⟩
    | true => exact br_f (by decide) ⟨0, rfl, kd_0 hL', kd_0 hL', hX _ _ _ (Fr_s0 hF2) (gI_y ⟨rfl, rfl⟩) ⟨rfl, true, rfl, he⟩⟩
  · replace hX : ∀ M' r st, Fr sCQ M M' → mI M' 0 10 = st → (r = -1 ∧ st = enoC k l1 l2 l3 l4 l5) → P r M' := fun M' r st x y z => hX M' r st x y (by unfold enoR; rw [if_neg hs]; exact z)
    exact w93_24_r hC hs (hX _ _ _ (Fr_s0 Fr_r) (gI_y ⟨rfl, rfl⟩) ⟨rfl, rfl⟩)
theorem w238_q {M : MM} {k : Nat} {W : Nat → WY} {l1 l2 l3 l4 l5 : Int32} {P : Int32 → MM → Prop} (hL : Lay M) (hW : RWs M k W) (hX : ∀ M' r st, Fr sRQ M M' → mI M' 203 9 = st → enoR k W l1 l2 l3 l4 l5 r st → P r M') : w238 203 l1 l2 l3 l4 l5 M P := by
  have hC := RWs_RW hL hW
  refine w238_p hC ?_
  by_cases hs : enoC k l1 l2 l3 l4 l5 = 0
  · replace hX : ∀ M' r st, Fr sRQ M M' → mI M' 203 9 = st → (st = 0 ∧ ∃ e : Bool, r = bI e ∧ (e = true ↔ Eno l3 (W l1.toNatClampNeg) (W l2.toNatClampNeg) l4.toInt l5.toInt)) → P r M' := fun M' r st x y z => hX M' r st x y (by unfold enoR; rw [if_pos hs]; exact z)
    obtain ⟨hb, hkd, hs2, w, o, n, d, rfl, rfl, rfl, rfl, hw, ho, hwo, n0, n1, d0, d1, e1, e2, e3, e4⟩ := enoC_0 hW.2.1 hs
    rw [e1, e2, e3, e4] at hX
    have ga := (hW.2.2 w hw).1
    have gb := (hW.2.2 o ho).1
    have hE := gE_l n0 n1 d0 d1
    rw [hb, if_pos rfl, hs2]
    refine br_t (by decide) ⟨kd_203 hL, ?_⟩
    refine lays_q hL hW hw ho n0 n1 d0 d1 (fun M1 hL1 hF1 hR1 hD1 => ?_)
    refine ⟨kd_203 hL1, w239_s hL1 hR1 hD1 ga gb hE hkd (fun M2 e hF2 _ he => ?_)⟩
    have hL2 := hF2.1 hL1
    have hF3 := Fr_t hF1 hF2
    cases e with
    | false => exact br_t rfl ⟨203, rfl, kd_203 hL2, kd_203 hL2, hX _ _ _ (Fr_s9 hF3) (gI_y ⟨rfl, rfl⟩) ⟨rfl, false, rfl, he⟩⟩
    | true => exact br_f (by decide) ⟨203, rfl, kd_203 hL2, kd_203 hL2, hX _ _ _ (Fr_s9 hF3) (gI_y ⟨rfl, rfl⟩) ⟨rfl, true, rfl, he⟩⟩
  · replace hX : ∀ M' r st, Fr sRQ M M' → mI M' 203 9 = st → (r = -1 ∧ st = enoC k l1 l2 l3 l4 l5) → P r M' := fun M' r st x y z => hX M' r st x y (by unfold enoR; rw [if_neg hs]; exact z)
    exact w238_23_r hC hs (hX _ _ _ (Fr_s9 Fr_r) (gI_y ⟨rfl, rfl⟩) ⟨rfl, rfl⟩)
