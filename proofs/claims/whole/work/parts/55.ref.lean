/-! ===== the reference's sides ===== -/
def RAB (M : MM) (a b : WY) : Prop := mI M 203 27 = jI (wn a) ∧ mI M 203 28 = jI (wn b) ∧ (∀ i, i < wn a → mI M 210 i = jI (wx a i) ∧ mI M 211 i = jI (wy a i)) ∧ (∀ j, j < wn b → mI M 212 j = jI (wx b j) ∧ mI M 213 j = jI (wy b j))
def REd (M : MM) (n d : Int) : Prop := mL M 203 29 = jL n ∧ mL M 203 30 = jL d
def sX (l : Bool) (i j : Nat) : Nat := (if l = true then 0 else 64) + 8 * i + j
theorem w218_s {M : MM} {l : Bool} {i j : Nat} {P : Int32 → MM → Prop} (hP : P (jI (sX l i j : Nat)) M) : w218 (bI l) (jI (i : Int)) (jI (j : Int)) M P := by
  unfold sX at hP
  cases l with
  | true =>
    rw [if_pos rfl] at hP
    refine br_f (by decide) ?_
    simp only [w218_10, jI_lit, jL_lit, jI_add, jI_sub, jI_mul, jI_neg, jL_add, jL_sub, jL_mul, jL_neg, jL_i]
    rw [show (0 + 8 * (i : Int) + (j : Int)) = ((0 + 8 * i + j : Nat) : Int) by omega]
    exact hP
  | false =>
    rw [if_neg (by decide)] at hP
    refine br_t rfl ?_
    simp only [w218_10, jI_lit, jL_lit, jI_add, jI_sub, jI_mul, jI_neg, jL_add, jL_sub, jL_mul, jL_neg, jL_i]
    rw [show (64 + 8 * (i : Int) + (j : Int)) = ((64 + 8 * i + j : Nat) : Int) by omega]
    exact hP
/-- the edge's numbers, laid -/
def leM (M : MM) (f c L : Int) : MM := sL (sL (sL M 203 31 (jL f)) 203 32 (jL c)) 203 33 (jL L)
theorem w193_s {M : MM} {px py qx qy rx ry : Int} {P : MM → Prop} (hL : Lay M) (h1 : 0 ≤ px ∧ px ≤ 18) (h2 : 0 ≤ py ∧ py ≤ 18) (h3 : 0 ≤ qx ∧ qx ≤ 18) (h4 : 0 ≤ qy ∧ qy ≤ 18) (h5 : 0 ≤ rx ∧ rx ≤ 18) (h6 : 0 ≤ ry ∧ ry ≤ 18)
    (hP : P (leM M ((px - qx) * (rx - qx) + (py - qy) * (ry - qy)) ((px - qx) * (ry - qy) - (py - qy) * (rx - qx)) ((rx - qx) * (rx - qx) + (ry - qy) * (ry - qy)))) : w193 203 (jI px) (jI py) (jI qx) (jI qy) (jI rx) (jI ry) M P := by
  unfold leM at hP
  simp (disch := omega) only [w193, w193_57, kd_sI, kd_sL, kd_sR, true_and, and_true, Option.some.injEq, exists_eq_left', kd_203 hL, jI_lit, jL_lit, jI_add, jI_sub, jI_mul, jI_neg, jL_add, jL_sub, jL_mul, jL_neg, jL_i, jI_l]
  exact hP
theorem in8 {M : MM} (h : Lay M) {k : Nat} (q : k < 8) : inb M 210 11 (jI (k : Int)) ∧ inb M 211 11 (jI (k : Int)) ∧ inb M 212 11 (jI (k : Int)) ∧ inb M 213 11 (jI (k : Int)) := by
  rw [← nI_j]; exact ⟨in_210 h q, in_211 h q, in_212 h q, in_213 h q⟩
theorem i210 {M : MM} (h : Lay M) {k : Nat} (q : k < 8) : inb M 210 11 (jI (k : Int)) := (in8 h q).1
theorem i211 {M : MM} (h : Lay M) {k : Nat} (q : k < 8) : inb M 211 11 (jI (k : Int)) := (in8 h q).2.1
theorem i212 {M : MM} (h : Lay M) {k : Nat} (q : k < 8) : inb M 212 11 (jI (k : Int)) := (in8 h q).2.2.1
theorem i213 {M : MM} (h : Lay M) {k : Nat} (q : k < 8) : inb M 213 11 (jI (k : Int)) := (in8 h q).2.2.2
theorem i214 {M : MM} (h : Lay M) {k : Nat} (q : k < 128) : inb M 214 14 (jI (k : Int)) := by rw [← nI_j]; exact in_214 h q
theorem i215 {M : MM} (h : Lay M) {k : Nat} (q : k < 128) : inb M 215 14 (jI (k : Int)) := by rw [← nI_j]; exact in_215 h q
theorem i216 {M : MM} (h : Lay M) {k : Nat} (q : k < 128) : inb M 216 14 (jI (k : Int)) := by rw [← nI_j]; exact in_216 h q
theorem i217 {M : MM} (h : Lay M) {k : Nat} (q : k < 128) : inb M 217 12 (jI (k : Int)) := by rw [← nI_j]; exact in_217 h q
theorem i218 {M : MM} (h : Lay M) {k : Nat} (q : k < 128) : inb M 218 12 (jI (k : Int)) := by rw [← nI_j]; exact in_218 h q
theorem i219 {M : MM} (h : Lay M) {k : Nat} (q : k < 128) : inb M 219 12 (jI (k : Int)) := by rw [← nI_j]; exact in_219 h q
theorem i220 {M : MM} (h : Lay M) {k : Nat} (q : k < 128) : inb M 220 12 (jI (k : Int)) := by rw [← nI_j]; exact in_220 h q
theorem i221 {M : MM} (h : Lay M) {k : Nat} (q : k < 128) : inb M 221 12 (jI (k : Int)) := by rw [← nI_j]; exact in_221 h q
theorem i222 {M : MM} (h : Lay M) {k : Nat} (q : k < 128) : inb M 222 12 (jI (k : Int)) := by rw [← nI_j]; exact in_222 h q
theorem i223 {M : MM} (h : Lay M) {k : Nat} (q : k < 128) : inb M 223 11 (jI (k : Int)) := by rw [← nI_j]; exact in_223 h q
theorem i224 {M : MM} (h : Lay M) {k : Nat} (q : k < 128) : inb M 224 12 (jI (k : Int)) := by rw [← nI_j]; exact in_224 h q
/-- the edge and the point of a side -/
def xL (a b : WY) (l : Bool) (i j : Nat) : Int := if l = true then eL b j else eL a i
def xF (a b : WY) (l : Bool) (i j : Nat) : Int := if l = true then eF b j a i else eF a i b j
def xS (a b : WY) (l : Bool) (i j : Nat) : Int := if l = true then eS b j a i else eS a i b j
def isSd (a b : WY) (l : Bool) (i j : Nat) : Prop := if l = true then i < wn a ∧ j + 1 < wn b else i + 1 < wn a ∧ j < wn b
theorem xB {a b : WY} {l : Bool} {i j : Nat} (ga : gW a) (gb : gW b) (h : isSd a b l i j) : sdB (xL a b l i j) (xF a b l i j) (xS a b l i j) := by
  cases l with
  | true => exact sdB_of gb ga h.2 h.1
  | false => exact sdB_of ga gb h.1 h.2
theorem w219_s {M : MM} {a b : WY} {l : Bool} {i j : Nat} {P : MM → Prop} (hL : Lay M) (hR : RAB M a b) (ga : gW a) (gb : gW b) (h : isSd a b l i j) (hP : ∀ c : Int, c * c = xL a b l i j * xS a b l i j - xF a b l i j * xF a b l i j → P (leM M (xF a b l i j) c (xL a b l i j))) : w219 203 (bI l) (jI (i : Int)) (jI (j : Int)) M P := by
  have a2 := ga.2.1
  have b2 := gb.2.1
  obtain ⟨r1, r2, r3, r4⟩ := hR
  cases l with
  | true =>
    have h' : i < wn a ∧ j + 1 < wn b := h
    have p0 := ga.2.2.1 i (by omega)
    have q0 := gb.2.2.1 j (by omega)
    have q1 := gb.2.2.1 (j + 1) (by omega)
    refine br_f (by decide) ?_
    simp (disch := omega) only [kd_sI, kd_sL, kd_sR, true_and, and_true, Option.some.injEq, exists_eq_left', kd_203 hL, rf_203_23 hL, rf_203_24 hL, rf_203_25 hL, rf_203_26 hL, jI_lit, jL_lit, jI_add, jI_sub, jI_mul, jI_neg, jL_add, jL_sub, jL_mul, jL_neg, jL_i, c_s1, jI_cn, i210 hL, i211 hL, i212 hL, i213 hL, fun i hi => (r3 i hi).1, fun i hi => (r3 i hi).2, fun i hi => (r4 i hi).1, fun i hi => (r4 i hi).2]
    refine w193_s hL (by omega) (by omega) (by omega) (by omega) (by omega) (by omega) ?_
    have e1 : (wx a i - wx b j) * (wx b (j + 1) - wx b j) + (wy a i - wy b j) * (wy b (j + 1) - wy b j) = eF b j a i := by unfold eF; grind
    have e2 : (wx b (j + 1) - wx b j) * (wx b (j + 1) - wx b j) + (wy b (j + 1) - wy b j) * (wy b (j + 1) - wy b j) = eL b j := rfl
    rw [e1, e2]
    refine hP _ ?_
    show _ = eL b j * eS b j a i - eF b j a i * eF b j a i
    rw [← eCC]; unfold eC; grind
  | false =>
    have h' : i + 1 < wn a ∧ j < wn b := h
    have p0 := ga.2.2.1 i (by omega)
    have p1 := ga.2.2.1 (i + 1) (by omega)
    have q0 := gb.2.2.1 j (by omega)
    refine br_t rfl ?_
    simp (disch := omega) only [kd_sI, kd_sL, kd_sR, true_and, and_true, Option.some.injEq, exists_eq_left', kd_203 hL, rf_203_23 hL, rf_203_24 hL, rf_203_25 hL, rf_203_26 hL, jI_lit, jL_lit, jI_add, jI_sub, jI_mul, jI_neg, jL_add, jL_sub, jL_mul, jL_neg, jL_i, c_s1, jI_cn, i210 hL, i211 hL, i212 hL, i213 hL, fun i hi => (r3 i hi).1, fun i hi => (r3 i hi).2, fun i hi => (r4 i hi).1, fun i hi => (r4 i hi).2]
    refine w193_s hL (by omega) (by omega) (by omega) (by omega) (by omega) (by omega) ?_
    have e1 : (wx b j - wx a i) * (wx a (i + 1) - wx a i) + (wy b j - wy a i) * (wy a (i + 1) - wy a i) = eF a i b j := by unfold eF; grind
    have e2 : (wx a (i + 1) - wx a i) * (wx a (i + 1) - wx a i) + (wy a (i + 1) - wy a i) * (wy a (i + 1) - wy a i) = eL a i := rfl
    rw [e1, e2]
    refine hP _ ?_
    show _ = eL a i * eS a i b j - eF a i b j * eF a i b j
    rw [← eCC]; unfold eC; grind
/-! what the reference asks of a root, in squares -/
theorem sg_ge {x d D : Int} (hd : 0 < d) (hD : 0 ≤ D) : 0 ≤ sgn (sq2 x * d + D) ↔ 0 ≤ x ∨ x * x * d ≤ D := by
  have h1 := mul_p (sqr_p x) (show 0 ≤ d by omega)
  by_cases h : 0 ≤ x
  · rw [sq2_p h]; unfold sgn; omega
  · rw [sq2_m (by omega), Int.neg_mul]; unfold sgn; omega
theorem sg_le {x d D : Int} (hd : 0 < d) (hD : 0 ≤ D) : sgn (sq2 x * d + -1 * D) ≤ 0 ↔ x ≤ 0 ∨ x * x * d ≤ D := by
  have h1 := mul_p (sqr_p x) (show 0 ≤ d by omega)
  by_cases h : 0 ≤ x
  · rw [sq2_p h]
    by_cases z : x = 0
    · subst z; unfold sgn; omega
    · unfold sgn; omega
  · rw [sq2_m (by omega), Int.neg_mul]; unfold sgn; omega
theorem fs_i {L n d f s : Int} (hL : 0 < L) : fsB n d s = true ↔ f * f * d ≤ dD L n d f s := by
  rw [fsB_i hL (f := f)]
  unfold isIn
  have e : d * ((0 - 1 * f) * (0 - 1 * f)) = f * f * d := by grind
  omega
theorem te_i {L n d f s : Int} (hL : 0 < L) : teB L n d f s = true ↔ (f - L) * (f - L) * d ≤ dD L n d f s := by
  rw [teB_i hL]
  unfold isIn
  have e : d * ((L - 1 * f) * (L - 1 * f)) = (f - L) * (f - L) * d := by grind
  omega
theorem fr_ref {L n d f s : Int} (hL : 0 < L) (hd : 0 < d) : frB L n d f s = true ↔ 0 ≤ dD L n d f s ∧ (0 ≤ f ∨ f * f * d ≤ dD L n d f s) ∧ (f - L ≤ 0 ∨ (f - L) * (f - L) * d ≤ dD L n d f s) := by
  refine ⟨fun h => ⟨fr_D hL hd h, ?_, ?_⟩, fun ⟨h1, h2, h3⟩ => ?_⟩
  · by_cases q : 0 ≤ f
    · exact Or.inl q
    · exact Or.inr ((fs_i hL).mp (fr_lo hL hd h (by omega)))
  · by_cases q : f - L ≤ 0
    · exact Or.inl q
    · exact Or.inr ((te_i hL).mp (fr_hi hL hd h (by omega)))
  · rw [fr_i]
    by_cases q : f ≤ 0
    · left
      have : fsB n d s = true := (fs_i hL (f := f)).mpr (by
        rcases h2 with h2 | h2
        · have e : f = 0 := by omega
          subst e
          have : (0 : Int) * 0 * d = 0 := by omega
          omega
        · exact h2)
      exact of_decide_eq_true this
    · by_cases q2 : L ≤ f
      · right; left
        have : teB L n d f s = true := (te_i hL (f := f)).mpr (by
          rcases h3 with h3 | h3
          · have e : f = L := by omega
            subst e
            have : (f - f) * (f - f) * d = 0 := by grind
            omega
          · exact h3)
        exact of_decide_eq_true this
      · right; right; exact ⟨by omega, by omega, h1⟩
theorem fs_ref {L n d f s : Int} (hL : 0 < L) (hd : 0 < d) (h : frB L n d f s = true) : fsB n d s = true ↔ (f ≤ 0 ∨ f * f * d ≤ dD L n d f s) := by
  refine ⟨fun q => Or.inr ((fs_i hL).mp q), fun q => ?_⟩
  rcases q with q | q
  · exact fr_lo hL hd h q
  · exact (fs_i hL).mpr q
theorem te_ref {L n d f s : Int} (hL : 0 < L) (hd : 0 < d) (h : frB L n d f s = true) : teB L n d f s = true ↔ (0 ≤ f - L ∨ (f - L) * (f - L) * d ≤ dD L n d f s) := by
  refine ⟨fun q => Or.inr ((te_i hL).mp q), fun q => ?_⟩
  rcases q with q | q
  · exact fr_hi hL hd h (by omega)
  · exact (te_i hL).mpr q
