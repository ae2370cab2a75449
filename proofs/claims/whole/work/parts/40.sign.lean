/-! ===== signs of sums of roots, without a root ===== -/
def sgn (x : Int) : Int := if 0 < x then 1 else if x < 0 then -1 else 0
def sq2 (x : Int) : Int := if 0 ≤ x then x * x else -(x * x)
/-- the sign of w + t * root u -/
def sg1 (w t u : Int) : Int := sgn (sq2 w + sq2 t * u)
theorem sgn_p {x : Int} (h : 0 < x) : sgn x = 1 := if_pos h
theorem sgn_m {x : Int} (h : x < 0) : sgn x = -1 := by unfold sgn; rw [if_neg (by omega), if_pos h]
theorem sgn_0 : sgn 0 = 0 := rfl
theorem sgn_c (x : Int) : (0 < x ∧ sgn x = 1) ∨ (x < 0 ∧ sgn x = -1) ∨ (x = 0 ∧ sgn x = 0) := by
  unfold sgn
  by_cases h : 0 < x
  · left; exact ⟨h, if_pos h⟩
  · by_cases h2 : x < 0
    · right; left; exact ⟨h2, by rw [if_neg h, if_pos h2]⟩
    · right; right; exact ⟨by omega, by rw [if_neg h, if_neg h2]⟩
theorem sq2_p {x : Int} (h : 0 ≤ x) : sq2 x = x * x := if_pos h
theorem sq2_m {x : Int} (h : x ≤ 0) : sq2 x = -(x * x) := by
  unfold sq2
  by_cases h2 : 0 ≤ x
  · have : x = 0 := by omega
    subst this; rfl
  · rw [if_neg h2]
theorem mul_p {a b : Int} (ha : 0 ≤ a) (hb : 0 ≤ b) : 0 ≤ a * b := Int.mul_nonneg ha hb
theorem sqr_p (a : Int) : 0 ≤ a * a := by
  by_cases h : 0 ≤ a
  · exact Int.mul_nonneg h h
  · have := Int.mul_nonneg (show 0 ≤ -a by omega) (show 0 ≤ -a by omega)
    rw [Int.neg_mul_neg] at this; exact this
theorem sqr_pp {a : Int} (h : a ≠ 0) : 0 < a * a := by
  by_cases h2 : 0 < a
  · exact Int.mul_pos h2 h2
  · have := Int.mul_pos (show 0 < -a by omega) (show 0 < -a by omega)
    rw [Int.neg_mul_neg] at this; exact this
theorem mul_mono {a b c d : Int} (h1 : a ≤ b) (h2 : c ≤ d) (h3 : 0 ≤ c) (h4 : 0 ≤ b) : a * c ≤ b * d := Int.mul_le_mul h1 h2 h3 h4
/-- the sign of a number times a positive one -/
theorem sgn_mul {d x : Int} (hd : 0 < d) : sgn (d * x) = sgn x := by
  rcases sgn_c x with h | h | h
  · rw [h.2, sgn_p (Int.mul_pos hd h.1)]
  · rw [h.2, sgn_m (Int.mul_neg_of_pos_of_neg hd h.1)]
  · rw [h.1, Int.mul_zero]
theorem sq2_mul {d x : Int} (hd : 0 ≤ d) : sq2 (x * d) = sq2 x * (d * d) := by
  by_cases h : 0 ≤ x
  · rw [sq2_p h, sq2_p (Int.mul_nonneg h hd)]; grind
  · rw [sq2_m (show x ≤ 0 by omega), sq2_m (Int.mul_nonpos_of_nonpos_of_nonneg (by omega) hd)]; grind
/-- of three numbers none above the others' sum -/
theorem tri_1 {p q s : Int} (hq : 0 < q) (hs : 0 < s) (h1 : p ≤ q + s) (h2 : q ≤ p) (h3 : s ≤ p) : p * p + q * q + s * s - 2 * (p * q) - 2 * (q * s) - 2 * (p * s) < 0 := by
  have e : p * p + q * q + s * s - 2 * (p * q) - 2 * (q * s) - 2 * (p * s) = (q + s - p) * (q + s - p) - 4 * (q * s) := by grind
  have h4 : (q + s - p) * (q + s - p) ≤ q * s := mul_mono (by omega) (by omega) (by omega) (by omega)
  have h5 : 0 < q * s := Int.mul_pos hq hs
  omega
theorem tri_H {p q s : Int} (hp : 0 < p) (hq : 0 < q) (hs : 0 < s) (h1 : p ≤ q + s) (h2 : q ≤ p + s) (h3 : s ≤ p + q) : p * p + q * q + s * s - 2 * (p * q) - 2 * (q * s) - 2 * (p * s) < 0 := by
  by_cases a : q ≤ p
  · by_cases b : s ≤ p
    · exact tri_1 hq hs h1 a b
    · have := tri_1 (p := s) (q := p) (s := q) hp hq (by omega) (by omega) (by omega)
      have e : s * s + p * p + q * q - 2 * (s * p) - 2 * (p * q) - 2 * (s * q) = p * p + q * q + s * s - 2 * (p * q) - 2 * (q * s) - 2 * (p * s) := by grind
      omega
  · by_cases b : s ≤ q
    · have := tri_1 (p := q) (q := p) (s := s) hp hs (by omega) (by omega) (by omega)
      have e : q * q + p * p + s * s - 2 * (q * p) - 2 * (p * s) - 2 * (q * s) = p * p + q * q + s * s - 2 * (p * q) - 2 * (q * s) - 2 * (p * s) := by grind
      omega
    · have := tri_1 (p := s) (q := p) (s := q) hp hq (by omega) (by omega) (by omega)
      have e : s * s + p * p + q * q - 2 * (s * p) - 2 * (p * q) - 2 * (s * q) = p * p + q * q + s * s - 2 * (p * q) - 2 * (q * s) - 2 * (p * s) := by grind
      omega
/-- how the class compares a + s1 root(r1 / d) with s2 root(r2 / d) -/
def clsC (a s1 r1 s2 r2 d : Int) : Int :=
  if sgn (sq2 a * d + s1 * r1) ≠ sgn (s2 * r2) ∨ sgn (sq2 a * d + s1 * r1) = 0 then sgn (sq2 a * d + s1 * r1) - sgn (s2 * r2)
  else sgn (sq2 a * d + s1 * r1) * sg1 (a * a * d + s1 * s1 * r1 - s2 * s2 * r2) (2 * a * s1) (r1 * d)
/-- how the reference does -/
def refC (a s1 r1 s2 r2 d : Int) : Int :=
  if sgn (s1 * r1 - s2 * r2) = 0 ∨ sgn a = 0 ∨ sgn (s1 * r1 - s2 * r2) = sgn a then (if sgn (s1 * r1 - s2 * r2) = 0 then sgn a else sgn (s1 * r1 - s2 * r2))
  else if sg1 (r1 + r2 - a * a * d) (-(2 * s1 * s2)) (r1 * r2) = 0 then 0 else if 0 < sg1 (r1 + r2 - a * a * d) (-(2 * s1 * s2)) (r1 * r2) then sgn (s1 * r1 - s2 * r2) else sgn a
/-- a root alone -/
theorem refC_1 {a s r d : Int} (hs : s = 1 ∨ s = -1) (hr : 0 ≤ r) (hd : 0 < d) : refC a s r 1 0 d = sgn (sq2 a * d + s * r) := by
  unfold refC
  have e1 : s * r - 1 * 0 = s * r := by omega
  have e2 : r + 0 - a * a * d = r - a * a * d := by omega
  have e3 : sg1 (r - a * a * d) (-(2 * s * 1)) (r * 0) = sgn (r - a * a * d) := by
    unfold sg1
    rw [Int.mul_zero, Int.mul_zero, Int.add_zero]
    rcases sgn_c (r - a * a * d) with h | h | h
    · rw [h.2, sq2_p (by omega), sgn_p (Int.mul_pos h.1 h.1)]
    · rw [h.2, sq2_m (by omega), sgn_m]
      have := sqr_pp (show r - a * a * d ≠ 0 by omega)
      omega
    · rw [h.1]; rfl
  rw [e1, e2, e3]
  have hda : 0 ≤ a * a * d := mul_p (sqr_p a) (by omega)
  rcases sgn_c a with h | h | h
  · rw [h.2, sq2_p (by omega)]
    have hpos : 0 < a * a * d := Int.mul_pos (sqr_pp (by omega)) hd
    rcases hs with rfl | rfl
    · rw [Int.one_mul, sgn_p (show 0 < a * a * d + r by omega)]
      rcases sgn_c r with q | q | q
      · rw [q.2]; rfl
      · omega
      · rw [q.2]; rfl
    · rw [Int.neg_one_mul]
      rcases sgn_c r with q | q | q
      · rw [sgn_m (show -r < 0 by omega), if_neg (by omega)]
        rcases sgn_c (r - a * a * d) with z | z | z
        · rw [z.2, if_neg (by omega), if_pos (by omega), sgn_m (by omega)]
        · rw [z.2, if_neg (by omega), if_neg (by omega), sgn_p (by omega)]
        · rw [z.2, if_pos rfl, show a * a * d + -r = 0 by omega]; rfl
      · omega
      · rw [q.1, sgn_p (show 0 < a * a * d + -0 by omega)]; rfl
  · rw [h.2, sq2_m (by omega), Int.neg_mul]
    have hpos : 0 < a * a * d := Int.mul_pos (sqr_pp (by omega)) hd
    rcases hs with rfl | rfl
    · rw [Int.one_mul]
      rcases sgn_c r with q | q | q
      · rw [q.2, if_neg (by omega)]
        rcases sgn_c (r - a * a * d) with z | z | z
        · rw [z.2, if_neg (by omega), if_pos (by omega), sgn_p (by omega)]
        · rw [z.2, if_neg (by omega), if_neg (by omega), sgn_m (by omega)]
        · rw [z.2, if_pos rfl, show -(a * a * d) + r = 0 by omega]; rfl
      · omega
      · rw [q.1, sgn_m (show -(a * a * d) + 0 < 0 by omega)]; rfl
    · rw [Int.neg_one_mul, sgn_m (show -(a * a * d) + -r < 0 by omega)]
      rcases sgn_c r with q | q | q
      · rw [sgn_m (show -r < 0 by omega)]; rfl
      · omega
      · rw [q.1]; rfl
  · rw [h.1]
    show (if sgn (s * r) = 0 ∨ sgn 0 = 0 ∨ sgn (s * r) = sgn 0 then if sgn (s * r) = 0 then sgn 0 else sgn (s * r) else _) = sgn (sq2 0 * d + s * r)
    rw [show sgn 0 = 0 from rfl, show sq2 0 = 0 from rfl, Int.zero_mul d, Int.zero_add]
    rw [if_pos (Or.inr (Or.inl rfl))]
    by_cases q : sgn (s * r) = 0
    · rw [if_pos q, q]
    · rw [if_neg q]
theorem sg1_neg {W p q t u : Int} (e : sq2 t * u = -(4 * (p * q))) (hp : 0 < p) (hq : 0 < q) : sg1 W t u = if W < 0 then -1 else sgn (W * W - 4 * (p * q)) := by
  unfold sg1
  rw [e]
  have := Int.mul_pos hp hq
  by_cases h : W < 0
  · rw [if_pos h, sq2_m (by omega), sgn_m]
    have := sqr_p W
    omega
  · rw [if_neg h, sq2_p (by omega)]; rfl
theorem sg1_pos {W p q t u : Int} (e : sq2 t * u = 4 * (p * q)) (hp : 0 < p) (hq : 0 < q) : sg1 W t u = if 0 ≤ W then 1 else sgn (4 * (p * q) - W * W) := by
  unfold sg1
  rw [e]
  have := Int.mul_pos hp hq
  by_cases h : 0 ≤ W
  · rw [if_pos h, sq2_p (by omega), sgn_p]
    have := sqr_p W
    omega
  · rw [if_neg h, sq2_m (by omega), show -(W * W) + 4 * (p * q) = 4 * (p * q) - W * W by omega]
theorem refC_0l (a s1 s1' s2 r2 d : Int) : refC a s1 0 s2 r2 d = refC a s1' 0 s2 r2 d := by
  unfold refC sg1
  simp only [Int.mul_zero, Int.zero_mul]
theorem refC_0r (a s1 r1 s2 s2' d : Int) : refC a s1 r1 s2 0 d = refC a s1 r1 s2' 0 d := by
  unfold refC sg1
  simp only [Int.mul_zero]
theorem sgn_sq2 (x : Int) : sgn (sq2 x) = sgn x := by
  rcases sgn_c x with h | h | h
  · rw [h.2, sq2_p (by omega), sgn_p (Int.mul_pos h.1 h.1)]
  · rw [h.2, sq2_m (by omega), sgn_m]
    have := sqr_pp (show x ≠ 0 by omega)
    omega
  · rw [h.1]; rfl
theorem sg1_0 (w t : Int) : sg1 w t 0 = sgn w := by unfold sg1; rw [Int.mul_zero, Int.add_zero, sgn_sq2]
theorem sg1_t (w u : Int) : sg1 w 0 u = sgn w := by unfold sg1; rw [show sq2 0 = 0 from rfl, Int.zero_mul, Int.add_zero, sgn_sq2]
/-- both compare alike: none of the three is 0 -/
theorem cmp_n {a r1 s2 r2 d : Int} (ha : a ≠ 0) (hd : 0 < d) (h1 : 0 < r1) (hs : s2 = 1 ∨ s2 = -1) (h2 : 0 < r2) : clsC a (-1) r1 s2 r2 d ≤ 0 ↔ refC a (-1) r1 s2 r2 d ≤ 0 := by
  have hp : 0 < a * a * d := Int.mul_pos (sqr_pp ha) hd
  have tri := tri_H hp h1 h2
  have eW : (a * a * d + r1 - r2) * (a * a * d + r1 - r2) - 4 * ((a * a * d) * r1) = (a * a * d) * (a * a * d) + r1 * r1 + r2 * r2 - 2 * ((a * a * d) * r1) - 2 * (r1 * r2) - 2 * ((a * a * d) * r2) := by grind
  have eV : (r1 + r2 - a * a * d) * (r1 + r2 - a * a * d) - 4 * (r1 * r2) = (a * a * d) * (a * a * d) + r1 * r1 + r2 * r2 - 2 * ((a * a * d) * r1) - 2 * (r1 * r2) - 2 * ((a * a * d) * r2) := by grind
  unfold clsC refC
  rw [show (-1 : Int) * -1 * r1 = r1 by omega, show (-1 : Int) * r1 = -r1 by omega]
  generalize hH : (a * a * d) * (a * a * d) + r1 * r1 + r2 * r2 - 2 * ((a * a * d) * r1) - 2 * (r1 * r2) - 2 * ((a * a * d) * r2) = H at *
  by_cases hpos : 0 < a
  · have e0 : sq2 a * d = a * a * d := by rw [sq2_p (by omega)]
    have e1 : sq2 (2 * a * -1) * (r1 * d) = -(4 * ((a * a * d) * r1)) := by rw [sq2_m (by omega)]; grind
    have k1 := sg1_neg (W := a * a * d + r1 - r2) e1 hp h1
    rw [eW] at k1
    rw [e0, sgn_p hpos]
    rcases hs with rfl | rfl
    · have e2 : sq2 (-(2 * -1 * 1)) * (r1 * r2) = 4 * (r1 * r2) := by rw [show sq2 (-(2 * -1 * 1)) = 4 from rfl]
      have k2 := sg1_pos (W := r1 + r2 - a * a * d) e2 h1 h2
      rw [show 4 * (r1 * r2) - (r1 + r2 - a * a * d) * (r1 + r2 - a * a * d) = -H by omega] at k2
      rw [show (1 : Int) * 1 * r2 = r2 by omega, show (1 : Int) * r2 = r2 by omega, k1, k2, sgn_p h2, sgn_m (show -r1 - r2 < 0 by omega)]
      rcases sgn_c (a * a * d + -r1) with z | z | z <;> rw [z.2] <;> unfold sgn <;> omega
    · have e2 : sq2 (-(2 * -1 * -1)) * (r1 * r2) = -(4 * (r1 * r2)) := by rw [show sq2 (-(2 * -1 * -1)) = -4 from rfl]; omega
      have k2 := sg1_neg (W := r1 + r2 - a * a * d) e2 h1 h2
      rw [eV] at k2
      rw [show (-1 : Int) * -1 * r2 = r2 by omega, show (-1 : Int) * r2 = -r2 by omega, k1, k2, sgn_m (show -r2 < 0 by omega)]
      rcases sgn_c (a * a * d + -r1) with z | z | z <;> rw [z.2] <;> unfold sgn <;> omega
  · have e0 : sq2 a * d = -(a * a * d) := by rw [sq2_m (by omega), Int.neg_mul]
    have e1 : sq2 (2 * a * -1) * (r1 * d) = 4 * ((a * a * d) * r1) := by rw [sq2_p (by omega)]; grind
    have k1 := sg1_pos (W := a * a * d + r1 - r2) e1 hp h1
    rw [show 4 * ((a * a * d) * r1) - (a * a * d + r1 - r2) * (a * a * d + r1 - r2) = -H by omega] at k1
    rw [e0, sgn_m (show a < 0 by omega), sgn_m (show -(a * a * d) + -r1 < 0 by omega)]
    rcases hs with rfl | rfl
    · rw [show (1 : Int) * r2 = r2 by omega, sgn_p h2, sgn_m (show -r1 - r2 < 0 by omega)]
      rw [if_pos (Or.inl (by omega)), if_pos (Or.inr (Or.inr rfl)), if_neg (by omega)]
      omega
    · have e2 : sq2 (-(2 * -1 * -1)) * (r1 * r2) = -(4 * (r1 * r2)) := by rw [show sq2 (-(2 * -1 * -1)) = -4 from rfl]; omega
      have k2 := sg1_neg (W := r1 + r2 - a * a * d) e2 h1 h2
      rw [eV] at k2
      rw [show (-1 : Int) * -1 * r2 = r2 by omega, show (-1 : Int) * r2 = -r2 by omega, k1, k2, sgn_m (show -r2 < 0 by omega)]
      unfold sgn
      omega
theorem cmp_eq {a s1 r1 s2 r2 d : Int} (hd : 0 < d) (h1 : (s1 = 0 ∧ r1 = 0) ∨ (s1 = -1 ∧ 0 ≤ r1)) (h2 : (s2 = 0 ∧ r2 = 0) ∨ ((s2 = 1 ∨ s2 = -1) ∧ 0 ≤ r2)) : clsC a s1 r1 s2 r2 d ≤ 0 ↔ refC a s1 r1 s2 r2 d ≤ 0 := by
  by_cases hr2 : r2 = 0
  · -- nothing at the right
    subst hr2
    have e1 : clsC a s1 r1 s2 0 d = sgn (sq2 a * d + s1 * r1) := by
      unfold clsC
      rw [Int.mul_zero, Int.mul_zero, sgn_0]
      by_cases q : sgn (sq2 a * d + s1 * r1) = 0
      · rw [if_pos (Or.inr q), q]; rfl
      · rw [if_pos (Or.inl q), Int.sub_zero]
    rw [e1, refC_0r a s1 r1 s2 1 d]
    rcases h1 with ⟨rfl, rfl⟩ | ⟨rfl, h1⟩
    · rw [refC_0l a 0 1 1 0 d, refC_1 (Or.inl rfl) (by omega) hd, Int.mul_zero, Int.mul_zero]
    · rw [refC_1 (Or.inr rfl) h1 hd]
  · have h2' : 0 < r2 := by omega
    have hs2 : s2 = 1 ∨ s2 = -1 := by omega
    by_cases hr1 : r1 = 0
    · subst hr1
      have e0 : sgn (sq2 a * d + s1 * 0) = sgn a := by
        rw [Int.mul_zero, Int.add_zero, Int.mul_comm, sgn_mul hd, sgn_sq2]
      have e1 : sg1 (a * a * d + s1 * s1 * 0 - s2 * s2 * r2) (2 * a * s1) (0 * d) = sgn (a * a * d - s2 * s2 * r2) := by
        rw [Int.zero_mul, sg1_0, Int.mul_zero, Int.add_zero]
      have e2 : sg1 (0 + r2 - a * a * d) (-(2 * s1 * s2)) (0 * r2) = sgn (r2 - a * a * d) := by
        rw [Int.zero_mul, sg1_0, Int.zero_add]
      unfold clsC refC
      rw [e0, e1, e2, Int.mul_zero, Int.zero_sub]
      rcases hs2 with rfl | rfl
      · rw [show (1 : Int) * 1 * r2 = r2 by omega, Int.one_mul, sgn_p h2', sgn_m (show -r2 < 0 by omega)]
        rcases sgn_c a with z | z | z <;> rw [z.2] <;> unfold sgn <;> omega
      · rw [show (-1 : Int) * -1 * r2 = r2 by omega, show (-1 : Int) * r2 = -r2 by omega, Int.neg_neg, sgn_p h2', sgn_m (show -r2 < 0 by omega)]
        rcases sgn_c a with z | z | z <;> rw [z.2] <;> unfold sgn <;> omega
    · have h1' : 0 < r1 := by omega
      have hs1 : s1 = -1 := by omega
      subst hs1
      by_cases ha : a = 0
      · subst ha
        have e0 : sq2 0 * d + -1 * r1 = -r1 := by rw [show sq2 0 = 0 from rfl]; omega
        have e1 : sg1 (0 * 0 * d + -1 * -1 * r1 - s2 * s2 * r2) (2 * 0 * -1) (r1 * d) = sgn (r1 - s2 * s2 * r2) := by
          rw [show (2 * 0 * -1 : Int) = 0 from rfl, sg1_t, Int.mul_zero, Int.zero_mul]
          congr 1
          omega
        unfold clsC refC
        rw [e0, e1, sgn_0, sgn_m (show -r1 < 0 by omega), if_pos (show sgn (-1 * r1 - s2 * r2) = 0 ∨ (0 : Int) = 0 ∨ _ from Or.inr (Or.inl rfl))]
        rcases hs2 with rfl | rfl
        · rw [show (1 : Int) * 1 * r2 = r2 by omega, Int.one_mul, sgn_p h2']
          unfold sgn
          omega
        · rw [show (-1 : Int) * -1 * r2 = r2 by omega, show (-1 : Int) * r2 = -r2 by omega, sgn_m (show -r2 < 0 by omega)]
          unfold sgn
          omega
      · exact cmp_n ha hd h1' hs2 h2'
