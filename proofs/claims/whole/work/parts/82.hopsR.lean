/-! HOPS: the reference -/
theorem i226 {M : MM} (h : Lay M) {k : Nat} (q : k < 64) : inb M 226 11 (jI (k : Int)) := by rw [← nI_j]; exact in_226 h q
def sHp : Nat → Nat → Bool := sB 203 1 0 226 226
theorem sHp_f {x k : Nat} (h : x ≠ 226) : sHp x k = false := sB_f (by omega) (by omega)
def KI (M0 : MM) (a b : WY) (i q : Nat) (M : MM) : Prop := Fr sHp M0 M ∧ ∀ i' j', i' < wn a → j' < wn b → (i < i' ∨ (i' = i ∧ q ≤ j')) → mI M 226 (8 * i' + j') = jI (hv a b i' j')
theorem w241_146_s {M0 M : MM} {a b : WY} {i j : Nat} {v : Int} {k7 : Nat → Int32 → MM → Prop} {k18 : Nat → Int32 → Int32 → MM → Prop} {P : Int32 → MM → Prop} (hL0 : Lay M0) (hR : RAB M0 a b) (ga : gW a) (gb : gW b) (h : KI M0 a b i (j + 1) M) (hi : i < wn a) (hj : j < wn b) (v0 : 0 ≤ v) (v1 : v ≤ 1000000000) (hv' : max (qd a i b j) v = hv a b i j) (hX : ∀ M', KI M0 a b i j M' → k18 203 (jI (i : Int)) (jI ((j : Int) - 1)) M') : w241_146 k7 k18 203 (jI (i : Int)) (jI (j : Int)) (jI v) M P := by
  have a2 := ga.2.1
  have b2 := gb.2.1
  have hL := h.1.1 hL0
  have hR' : RAB M a b := RAB_fr h.1 (sHp_f (by omega)) (sHp_f (by omega)) (fun x k _ _ => sHp_f (by omega)) hR
  have q := qd_b ga gb hi hj
  refine ⟨kd_203 hL, kd_203 hL, w231_s hL hR' ga gb hi hj (w33_s (by omega) (by omega) (by omega) (by omega) ⟨226, rf_203_46 hL, ?_⟩)⟩
  rw [show (8 : Int32) * jI (i : Int) + jI (j : Int) = jI ((8 * i + j : Nat) : Int) by rw [show (8 : Int32) = jI 8 from rfl, jI_mul, jI_add]; congr 1, jI_cn (by omega), hv']
  refine ⟨i226 hL (by omega), ?_⟩
  rw [show jI (j : Int) + (-1) = jI ((j : Int) - 1) by rw [show (-1 : Int32) = jI (-1) from rfl, jI_add]; congr 1]
  refine hX _ ⟨Fr_sI h.1 (sB_t2 (by omega)), fun i' j' h1 h2 h3 => ?_⟩
  by_cases e : i' = i ∧ j' = j
  · rw [e.1, e.2]; exact gI_y ⟨rfl, rfl⟩
  · rw [gI_n (by omega)]
    exact h.2 i' j' h1 h2 (by omega)
theorem w241_118_s {M0 M : MM} {a b : WY} {i j : Nat} {v : Int} {k7 : Nat → Int32 → MM → Prop} {k18 : Nat → Int32 → Int32 → MM → Prop} {P : Int32 → MM → Prop} (hL0 : Lay M0) (hR : RAB M0 a b) (ga : gW a) (gb : gW b) (h : KI M0 a b i (j + 1) M) (hi : i < wn a) (hj : j < wn b) (v0 : 0 ≤ v) (v1 : v ≤ 1000000000) (hv' : max (qd a i b j) (if j + 1 < wn b then min v (hv a b i (j + 1)) else v) = hv a b i j) (hX : ∀ M', KI M0 a b i j M' → k18 203 (jI (i : Int)) (jI ((j : Int) - 1)) M') : w241_118 k7 k18 203 (jI (i : Int)) (jI (j : Int)) (jI v) M P := by
  have a2 := ga.2.1
  have b2 := gb.2.1
  have hL := h.1.1 hL0
  have e28 : mI M 203 28 = jI (wn b : Int) := (Fr_I h.1 (sHp_f (by omega))).trans hR.2.1
  refine ⟨kd_203 hL, ?_⟩
  rw [e28, show jI (j : Int) + 1 = jI ((j + 1 : Nat) : Int) by rw [show (1 : Int32) = jI 1 from rfl, jI_add, c_s1], jI_le (by omega) (by omega) (by omega) (by omega)]
  refine ⟨fun z => ?_, fun z => ⟨kd_203 hL, 226, rf_203_46 hL, ?_⟩⟩
  · rw [if_neg (by omega)] at hv'
    exact w241_146_s hL0 hR ga gb h hi hj v0 v1 hv' hX
  · have c : j + 1 < wn b := by omega
    have hz := hv_z ga gb hi c
    rw [if_pos c] at hv'
    rw [show (8 : Int32) * jI (i : Int) + jI (j : Int) + 1 = jI ((8 * i + (j + 1) : Nat) : Int) by rw [show (8 : Int32) = jI 8 from rfl, show (1 : Int32) = jI 1 from rfl, jI_mul, jI_add, jI_add]; congr 1]
    refine ⟨i226 hL (by omega), ?_⟩
    rw [jI_cn (by omega), h.2 i (j + 1) hi c (by omega)]
    exact w70_s (by omega) (by omega) (by omega) (by omega) (w241_146_s hL0 hR ga gb h hi hj (by omega) (by omega) hv' hX)
theorem w241_89_s {M0 M : MM} {a b : WY} {i j : Nat} {v : Int} {k7 : Nat → Int32 → MM → Prop} {k18 : Nat → Int32 → Int32 → MM → Prop} {P : Int32 → MM → Prop} (hL0 : Lay M0) (hR : RAB M0 a b) (ga : gW a) (gb : gW b) (h : KI M0 a b i (j + 1) M) (hi : i < wn a) (hj : j < wn b) (v0 : 0 ≤ v) (v1 : v ≤ 1000000000) (hv' : max (qd a i b j) (if j + 1 < wn b then min (if i + 1 < wn a then min v (hv a b (i + 1) j) else v) (hv a b i (j + 1)) else (if i + 1 < wn a then min v (hv a b (i + 1) j) else v)) = hv a b i j) (hX : ∀ M', KI M0 a b i j M' → k18 203 (jI (i : Int)) (jI ((j : Int) - 1)) M') : w241_89 k7 k18 203 (jI (i : Int)) (jI (j : Int)) (jI v) M P := by
  have a2 := ga.2.1
  have b2 := gb.2.1
  have hL := h.1.1 hL0
  have e27 : mI M 203 27 = jI (wn a : Int) := (Fr_I h.1 (sHp_f (by omega))).trans hR.1
  refine ⟨kd_203 hL, ?_⟩
  rw [e27, show jI (i : Int) + 1 = jI ((i + 1 : Nat) : Int) by rw [show (1 : Int32) = jI 1 from rfl, jI_add, c_s1], jI_le (by omega) (by omega) (by omega) (by omega)]
  refine ⟨fun z => ?_, fun z => ⟨kd_203 hL, 226, rf_203_46 hL, ?_⟩⟩
  · rw [if_neg (show ¬ i + 1 < wn a by omega)] at hv'
    exact w241_118_s hL0 hR ga gb h hi hj v0 v1 hv' hX
  · have c : i + 1 < wn a := by omega
    have hz := hv_z ga gb c hj
    rw [if_pos c] at hv'
    rw [show (8 : Int32) * jI (i : Int) + 8 + jI (j : Int) = jI ((8 * (i + 1) + j : Nat) : Int) by rw [show (8 : Int32) = jI 8 from rfl, jI_mul, jI_add, jI_add]; congr 1]
    refine ⟨i226 hL (by omega), ?_⟩
    rw [jI_cn (by omega), h.2 (i + 1) j c hj (by omega)]
    exact w70_s (by omega) (by omega) (by omega) (by omega) (w241_118_s hL0 hR ga gb h hi hj (by omega) (by omega) hv' hX)
theorem w241_49_s {M0 M : MM} {a b : WY} {i j : Nat} {v : Int} {k7 : Nat → Int32 → MM → Prop} {k18 : Nat → Int32 → Int32 → MM → Prop} {P : Int32 → MM → Prop} (hL0 : Lay M0) (hR : RAB M0 a b) (ga : gW a) (gb : gW b) (h : KI M0 a b i (j + 1) M) (hi : i < wn a) (hj : j < wn b) (v1 : v = if i + 1 = wn a ∧ j + 1 = wn b then 0 else 1000000000) (hX : ∀ M', KI M0 a b i j M' → k18 203 (jI (i : Int)) (jI ((j : Int) - 1)) M') : w241_49 k7 k18 203 (jI (i : Int)) (jI (j : Int)) (jI v) M P := by
  have a2 := ga.2.1
  have b2 := gb.2.1
  have hL := h.1.1 hL0
  have e27 : mI M 203 27 = jI (wn a : Int) := (Fr_I h.1 (sHp_f (by omega))).trans hR.1
  have e28 : mI M 203 28 = jI (wn b : Int) := (Fr_I h.1 (sHp_f (by omega))).trans hR.2.1
  have vb : 0 ≤ v ∧ v ≤ 1000000000 := by rw [v1]; split <;> omega
  have hE := hv_e a b i j
  unfold nxM at hE
  refine ⟨kd_203 hL, ?_⟩
  rw [e27, show jI (i : Int) + 1 = jI ((i + 1 : Nat) : Int) by rw [show (1 : Int32) = jI 1 from rfl, jI_add, c_s1], jI_le (by omega) (by omega) (by omega) (by omega)]
  refine ⟨fun z => ?_, fun z => ⟨kd_203 hL, ?_⟩⟩
  · refine w241_89_s hL0 hR ga gb h hi hj vb.1 vb.2 ?_ hX
    rw [if_neg (show ¬ i + 1 < wn a by omega)] at hE ⊢
    rw [hE]
    by_cases c : j + 1 < wn b
    · rw [if_pos c, if_pos c]
      have hz := hv_z ga gb hi c
      rw [if_neg (by omega)] at v1
      omega
    · rw [if_neg c, if_neg c]
      rw [if_pos (by omega)] at v1
      omega
  · have c1 : i + 1 < wn a := by omega
    have hz1 := hv_z ga gb c1 hj
    rw [if_pos c1] at hE
    rw [if_neg (by omega)] at v1
    rw [e28, show jI (j : Int) + 1 = jI ((j + 1 : Nat) : Int) by rw [show (1 : Int32) = jI 1 from rfl, jI_add, c_s1], jI_le (by omega) (by omega) (by omega) (by omega)]
    refine ⟨fun y => ?_, fun y => ⟨kd_203 hL, 226, rf_203_46 hL, ?_⟩⟩
    · refine w241_89_s hL0 hR ga gb h hi hj vb.1 vb.2 ?_ hX
      rw [if_neg (show ¬ j + 1 < wn b by omega)] at hE ⊢
      rw [if_pos c1, hE]
      omega
    · have c2 : j + 1 < wn b := by omega
      have hz2 := hv_z ga gb c1 c2
      have hz3 := hv_z ga gb hi c2
      rw [if_pos c2] at hE
      rw [show (8 : Int32) * jI (i : Int) + 9 + jI (j : Int) = jI ((8 * (i + 1) + (j + 1) : Nat) : Int) by rw [show (8 : Int32) = jI 8 from rfl, show (9 : Int32) = jI 9 from rfl, jI_mul, jI_add, jI_add]; congr 1; omega]
      refine ⟨i226 hL (by omega), ?_⟩
      rw [jI_cn (by omega), h.2 (i + 1) (j + 1) c1 c2 (by omega)]
      refine w70_s (by omega) (by omega) (by omega) (by omega) (w241_89_s hL0 hR ga gb h hi hj (by omega) (by omega) ?_ hX)
      rw [if_pos c2, if_pos c1, hE]
      omega
