/-! ===== what the reference finds free of a side ===== -/
def sFr (s : Nat) (x k : Nat) : Bool := (Nat.beq x 203 && (Nat.ble 31 k && Nat.ble k 33)) || ((Nat.ble 214 x && Nat.ble x 224 && !(Nat.beq x 215)) && Nat.beq k s)
theorem bq_t {x y : Nat} (h : x = y) : Nat.beq x y = true := by rw [h]; exact Nat.beq_refl y
theorem bq_f {x y : Nat} (h : x ≠ y) : Nat.beq x y = false := Bool.eq_false_iff.mpr fun q => h (Nat.eq_of_beq_eq_true q)
theorem sFr_f {s x k : Nat} (h1 : ¬ (x = 203 ∧ 31 ≤ k ∧ k ≤ 33)) (h2 : ¬ (214 ≤ x ∧ x ≤ 224 ∧ x ≠ 215 ∧ k = s)) : sFr s x k = false := by
  unfold sFr
  rw [Bool.or_eq_false_iff]
  refine ⟨Bool.eq_false_iff.mpr fun h => h1 ?_, Bool.eq_false_iff.mpr fun h => h2 ?_⟩
  · simp only [Bool.and_eq_true, Nat.ble_eq] at h
    exact ⟨Nat.eq_of_beq_eq_true h.1, h.2⟩
  · simp only [Bool.and_eq_true, Nat.ble_eq, Bool.not_eq_true'] at h
    refine ⟨h.1.1.1, h.1.1.2, fun z => ?_, Nat.eq_of_beq_eq_true h.2⟩
    have := h.1.2
    rw [bq_t z] at this; cases this
theorem sFr_1 {s k : Nat} (h : 31 ≤ k ∧ k ≤ 33) : sFr s 203 k = true := by
  unfold sFr
  rw [Nat.beq_refl, Nat.ble_eq.mpr h.1, Nat.ble_eq.mpr h.2]; rfl
theorem sFr_2 {s x : Nat} (h : 214 ≤ x ∧ x ≤ 224 ∧ x ≠ 215) : sFr s x s = true := by
  unfold sFr
  rw [Nat.ble_eq.mpr h.1, Nat.ble_eq.mpr h.2.1, Nat.beq_refl, bq_f h.2.2, Bool.and_self, Bool.not_false, Bool.and_self, Bool.and_self, Bool.or_true]
def rfS (M : MM) (s : Nat) (L f q n d : Int) : Prop := mI M 214 s = bI (frB L n d f q) ∧ mL M 224 s = jL L ∧
  (frB L n d f q = true → mL M 217 s = jL (if fsB n d q = true then 0 else f) ∧ mL M 218 s = jL (if fsB n d q = true then 0 else dD L n d f q) ∧ mL M 219 s = jL (if teB L n d f q = true then L else f) ∧ mL M 220 s = jL (if teB L n d f q = true then 0 else dD L n d f q) ∧ mI M 216 s = bI (fsB n d q && teB L n d f q)) ∧
  (frB L n d f q = false → mI M 216 s = bI false)
theorem j_a0 : jI 0 &&& jI 1 = jI 0 := rfl
theorem j_a1 : jI 1 &&& jI 1 = jI 1 := rfl
/-- behind the check of being free -/
theorem w217_107_s {M0 M : MM} {s : Nat} {L f q n d : Int} {P : MM → Prop} (hL : Lay M) (hF : Fr (sFr s) M0 M) (hs : s < 128) (hB : sdB L f q) (hE : gE n d) (hd : mL M 203 30 = jL d) (h1 : mL M 203 31 = jL f) (h3 : mL M 203 33 = jL L) (h4 : mL M 224 s = jL L) (h6 : mI M 216 s = bI false) (hX : ∀ M', Fr (sFr s) M0 M' → rfS M' s L f q n d → P M') (z : Int) (hz : z = if frB L n d f q = true then 1 else 0) : w217_107 203 (jI (s : Int)) (jL (dD L n d f q)) (some 214) (jI (s : Int)) (jI z) M P := by
  have hm := sdB_m hB hE
  have hL0 := hB.1
  have hd0 := hE.2.2.1
  have hd1 := hE.2.2.2
  have hB' := hB
  unfold sdB at hB'
  unfold w217_107
  cases hf : frB L n d f q with
  | false =>
    rw [hf, if_neg (by decide)] at hz
    subst hz
    simp (disch := omega) only [kd_sI, kd_sL, kd_sR, true_and, and_true, Option.some.injEq, exists_eq_left', i214 hL, jI_cn, jI_lit, jL_lit, jI_add, jI_sub, jI_mul, jI_neg, jL_add, jL_sub, jL_mul, jL_neg, jL_i, j_a0, kd_203 hL, gI_y, gI_n, gL_y, gL_n, gR_y, gR_n, gI_sL, gI_sR, gL_sI, gL_sR, gR_sI, gR_sL, rf_203_34 hL, lay_sI hL, i214 (lay_sI hL), ne_eq, not_true_eq_false, false_implies, forall_const, true_and, not_false_eq_true]
    refine hX _ (Fr_sI hF (sFr_2 (by omega))) ⟨?_, ?_, fun h => (by rw [hf] at h; cases h), fun _ => ?_⟩
    · rw [hf]; simp (disch := omega) only [gI_y, gI_n, gL_y, gL_n, gR_y, gR_n, gI_sL, gI_sR, gL_sI, gL_sR, gR_sI, gR_sL]; rfl
    · simp (disch := omega) only [gI_y, gI_n, gL_y, gL_n, gR_y, gR_n, gI_sL, gI_sR, gL_sI, gL_sR, gR_sI, gR_sL, h4]
    · simp (disch := omega) only [gI_y, gI_n, gL_y, gL_n, gR_y, gR_n, gI_sL, gI_sR, gL_sI, gL_sR, gR_sI, gR_sL, h6]
  | true =>
    rw [hf, if_pos rfl] at hz
    subst hz
    have D0 := fr_D hL0 hd0 hf
    have m1 := mul_b (x := f) (y := f) (B := 648) (C := 648) (by omega) (by omega) (by omega) (by omega)
    have m2 := mul_p (sqr_p f) (show 0 ≤ d by omega)
    have m3 := mul_mono (show f * f ≤ 648 * 648 by omega) hd1 (by omega) (by omega)
    have m4 := mul_b (x := f - L) (y := f - L) (B := 1296) (C := 1296) (by omega) (by omega) (by omega) (by omega)
    have m5 := mul_p (sqr_p (f - L)) (show 0 ≤ d by omega)
    have m6 := mul_mono (show (f - L) * (f - L) ≤ 1296 * 1296 by omega) hd1 (by omega) (by omega)
    simp (disch := omega) only [kd_sI, kd_sL, kd_sR, true_and, and_true, Option.some.injEq, exists_eq_left', i214 hL, jI_cn, jI_lit, jL_lit, jI_add, jI_sub, jI_mul, jI_neg, jL_add, jL_sub, jL_mul, jL_neg, jL_i, j_a1, kd_203 hL, gI_y, gI_n, gL_y, gL_n, gR_y, gR_n, gI_sL, gI_sR, gL_sI, gL_sR, gR_sI, gR_sL, rf_203_34 hL, i214 (lay_sI hL), jI_eq, jI_le, jI_lt, jL_eq, jL_le, jL_lt, jI_l, h1]
    refine br_t (by decide) ?_
    refine w220_s (d := d) (lay_sI hL) (by rw [gL_sI]; exact hd) (Or.inr rfl) (Or.inl rfl) D0 (by omega) (by omega) (by omega) (by omega) (by omega) (by omega) (by omega) ?_
    rw [refC_1 (Or.inr rfl) D0 hd0]
    have fs1 := fs_ref hL0 hd0 hf
    rw [← sg_le hd0 D0] at fs1
    have te1 := te_ref hL0 hd0 hf
    rw [← sg_ge hd0 D0] at te1
    have sg3 : ∀ x, -1 ≤ sgn x ∧ sgn x ≤ 1 := fun x => by unfold sgn; omega
    have s1 := sg3 (sq2 f * d + -1 * dD L n d f q)
    have s2 := sg3 (sq2 (f - L) * d + dD L n d f q)
    have e140 : ∀ w : Int, (w = if fsB n d q = true then 1 else 0) → w217_140 203 (jI (s : Int)) (jL (dD L n d f q)) (jI w) (sI M 214 s (jI 1)) P := by
      intro w hw
      unfold w217_140
      simp (disch := omega) only [kd_sI, kd_sL, kd_sR, true_and, and_true, Option.some.injEq, exists_eq_left', kd_203 hL, gI_y, gI_n, gL_y, gL_n, gR_y, gR_n, gI_sL, gI_sR, gL_sI, gL_sR, gR_sI, gR_sL, h1, h3, jI_lit, jL_lit, jI_add, jI_sub, jI_mul, jI_neg, jL_add, jL_sub, jL_mul, jL_neg, jL_i]
      refine w220_s (d := d) (lay_sI hL) (by rw [gL_sI]; exact hd) (Or.inl rfl) (Or.inl rfl) D0 (by omega) (by omega) (by omega) (by omega) (by omega) (by omega) (by omega) ?_
      rw [refC_1 (Or.inl rfl) D0 hd0, Int.one_mul]
      have e168 : ∀ v : Int, (v = if teB L n d f q = true then 1 else 0) → w217_168 203 (jI (s : Int)) (jL (dD L n d f q)) (jI w) (jI v) (sI M 214 s (jI 1)) P := by
        intro v hv
        cases k1 : fsB n d q <;> cases k2 : teB L n d f q <;> rw [k1] at hw <;> rw [k2] at hv <;> simp only [Bool.false_eq_true, if_false, if_true] at hw hv <;> subst hw <;> subst hv <;>
        · simp (disch := omega) only [w217_168, w217_189, w217_207, w217_230, w217_248, w217_269, w217_270, kd_sI, kd_sL, kd_sR, true_and, and_true, Option.some.injEq, exists_eq_left', kd_203 hL, gI_y, gI_n, gL_y, gL_n, gR_y, gR_n, gI_sL, gI_sR, gL_sI, gL_sR, gR_sI, gR_sL, h1, h3, jI_lit, jL_lit, jI_add, jI_sub, jI_mul, jI_neg, jL_add, jL_sub, jL_mul, jL_neg, jL_i, jI_cn, rf_203_36 hL, rf_203_37 hL, rf_203_38 hL, rf_203_39 hL, rf_203_40 hL, i216 (lay_sI hL), i217 (lay_sI hL), i218 (lay_sI hL), i219 (lay_sI hL), i220 (lay_sI hL), i218 (lay_sL (lay_sI hL)), i219 (lay_sL (lay_sL (lay_sI hL))), i220 (lay_sL (lay_sL (lay_sL (lay_sI hL)))), i216 (lay_sL (lay_sL (lay_sL (lay_sL (lay_sI hL))))), j_a0, j_a1, jI_eq, jI_le, jI_lt, jL_eq, jL_le, jL_lt, jI_l]
          repeat' (first | with_reducible refine And.intro (fun _ => ?_) (fun _ => ?_) | fail)
          all_goals first
            | (exfalso; assumption)
            | exact absurd trivial (by assumption)
            | (exfalso; omega)
            | (refine hX _ (Fr_sI (Fr_sL (Fr_sL (Fr_sL (Fr_sL (Fr_sI hF (sFr_2 (by omega))) (sFr_2 (by omega))) (sFr_2 (by omega))) (sFr_2 (by omega))) (sFr_2 (by omega))) (sFr_2 (by omega))) ⟨?_, ?_, fun _ => ⟨?_, ?_, ?_, ?_, ?_⟩, fun h => (by rw [hf] at h; cases h)⟩
               · rw [hf]; simp (disch := omega) only [gI_y, gI_n, gL_y, gL_n, gR_y, gR_n, gI_sL, gI_sR, gL_sI, gL_sR, gR_sI, gR_sL]; rfl
               · simp (disch := omega) only [gI_y, gI_n, gL_y, gL_n, gR_y, gR_n, gI_sL, gI_sR, gL_sI, gL_sR, gR_sI, gR_sL, h4]
               · rw [k1]; simp (disch := omega) only [gI_y, gI_n, gL_y, gL_n, gR_y, gR_n, gI_sL, gI_sR, gL_sI, gL_sR, gR_sI, gR_sL, Bool.false_eq_true, if_false, if_true]
               · rw [k1]; simp (disch := omega) only [gI_y, gI_n, gL_y, gL_n, gR_y, gR_n, gI_sL, gI_sR, gL_sI, gL_sR, gR_sI, gR_sL, Bool.false_eq_true, if_false, if_true]
               · rw [k2]; simp (disch := omega) only [gI_y, gI_n, gL_y, gL_n, gR_y, gR_n, gI_sL, gI_sR, gL_sI, gL_sR, gR_sI, gR_sL, Bool.false_eq_true, if_false, if_true]
               · rw [k2]; simp (disch := omega) only [gI_y, gI_n, gL_y, gL_n, gR_y, gR_n, gI_sL, gI_sR, gL_sI, gL_sR, gR_sI, gR_sL, Bool.false_eq_true, if_false, if_true]
               · rw [k1, k2]; simp (disch := omega) only [gI_y, gI_n, gL_y, gL_n, gR_y, gR_n, gI_sL, gI_sR, gL_sI, gL_sR, gR_sI, gR_sL]; rfl)
      rw [jI_lt (by omega) (by omega) (by omega) (by omega)]
      refine ⟨fun y => e168 0 ?_, fun y => e168 1 ?_⟩
      · rw [if_neg (fun t => by have := te1.mp t; omega)]
      · rw [if_pos (te1.mpr (by omega))]
    rw [jI_lt (by omega) (by omega) (by omega) (by omega)]
    refine ⟨fun y => e140 0 ?_, fun y => e140 1 ?_⟩
    · rw [if_neg (fun t => by have := fs1.mp t; omega)]
    · rw [if_pos (fs1.mpr (by omega))]
