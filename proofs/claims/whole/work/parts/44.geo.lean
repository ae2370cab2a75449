/-! ===== places of an edge, by squares ===== -/
abbrev hH (p q s : Int) : Int := p * p + q * q + s * s - 2 * (p * q) - 2 * (q * s) - 2 * (p * s)
theorem cls1_n {a q s d : Int} (ha : a ≠ 0) (hd : 0 < d) (hq : 0 < q) (hs : 0 < s) : clsC a (-1) q (-1) s d ≤ 0 ↔ if 0 < a then (a * a * d + s ≤ q ∧ 0 ≤ hH (a * a * d) q s) else (s ≤ a * a * d + q ∨ hH (a * a * d) q s ≤ 0) := by
  have hp : 0 < a * a * d := Int.mul_pos (sqr_pp ha) hd
  have tri := tri_H hp hq hs
  have eW : (a * a * d + q - s) * (a * a * d + q - s) - 4 * ((a * a * d) * q) = hH (a * a * d) q s := by unfold hH; grind
  unfold clsC
  rw [show (-1 : Int) * -1 * q = q by omega, show (-1 : Int) * q = -q by omega, show (-1 : Int) * -1 * s = s by omega, show (-1 : Int) * s = -s by omega, sgn_m (show -s < 0 by omega)]
  unfold hH at eW ⊢
  generalize hH' : (a * a * d) * (a * a * d) + q * q + s * s - 2 * ((a * a * d) * q) - 2 * (q * s) - 2 * ((a * a * d) * s) = H at *
  by_cases hpos : 0 < a
  · have e0 : sq2 a * d = a * a * d := by rw [sq2_p (by omega)]
    have e1 : sq2 (2 * a * -1) * (q * d) = -(4 * ((a * a * d) * q)) := by rw [sq2_m (by omega)]; grind
    have k1 := sg1_neg (W := a * a * d + q - s) e1 hp hq
    rw [eW] at k1
    rw [e0, k1, if_pos hpos]
    rcases sgn_c (a * a * d + -q) with z | z | z <;> rw [z.2] <;> unfold sgn <;> omega
  · have e0 : sq2 a * d = -(a * a * d) := by rw [sq2_m (by omega), Int.neg_mul]
    have e1 : sq2 (2 * a * -1) * (q * d) = 4 * ((a * a * d) * q) := by rw [sq2_p (by omega)]; grind
    have k1 := sg1_pos (W := a * a * d + q - s) e1 hp hq
    rw [show 4 * ((a * a * d) * q) - (a * a * d + q - s) * (a * a * d + q - s) = -H by omega] at k1
    rw [e0, k1, if_neg hpos]
    rcases sgn_c (-(a * a * d) + -q) with z | z | z <;> rw [z.2] <;> unfold sgn <;> omega
theorem cls2_n {a q s d : Int} (ha : a ≠ 0) (hd : 0 < d) (hq : 0 < q) (hs : 0 < s) : clsC a (-1) q 1 s d ≤ 0 ↔ (a ≤ 0 ∨ a * a * d ≤ q + s ∨ hH (a * a * d) q s ≤ 0) := by
  have hp : 0 < a * a * d := Int.mul_pos (sqr_pp ha) hd
  have tri := tri_H hp hq hs
  have eW : (a * a * d + q - s) * (a * a * d + q - s) - 4 * ((a * a * d) * q) = hH (a * a * d) q s := by unfold hH; grind
  unfold clsC
  rw [show (-1 : Int) * -1 * q = q by omega, show (-1 : Int) * q = -q by omega, show (1 : Int) * 1 * s = s by omega, show (1 : Int) * s = s by omega, sgn_p hs]
  unfold hH at eW ⊢
  generalize hH' : (a * a * d) * (a * a * d) + q * q + s * s - 2 * ((a * a * d) * q) - 2 * (q * s) - 2 * ((a * a * d) * s) = H at *
  by_cases hpos : 0 < a
  · have e0 : sq2 a * d = a * a * d := by rw [sq2_p (by omega)]
    have e1 : sq2 (2 * a * -1) * (q * d) = -(4 * ((a * a * d) * q)) := by rw [sq2_m (by omega)]; grind
    have k1 := sg1_neg (W := a * a * d + q - s) e1 hp hq
    rw [eW] at k1
    rw [e0, k1]
    rcases sgn_c (a * a * d + -q) with z | z | z <;> rw [z.2] <;> unfold sgn <;> omega
  · have e0 : sq2 a * d = -(a * a * d) := by rw [sq2_m (by omega), Int.neg_mul]
    rw [e0]
    have k : sgn (-(a * a * d) + -q) = -1 := sgn_m (by omega)
    rw [k, if_pos (Or.inl (by omega))]
    omega
/-- the class's comparison where a root is 0 -/
theorem cls_0r (a s1 q s2 d : Int) : clsC a s1 q s2 0 d = sgn (sq2 a * d + s1 * q) := by
  unfold clsC
  rw [Int.mul_zero, Int.mul_zero, sgn_0]
  by_cases h : sgn (sq2 a * d + s1 * q) = 0
  · rw [if_pos (Or.inr h), h]; rfl
  · rw [if_pos (Or.inl h), Int.sub_zero]
theorem cls_0l {a s1 s2 s d : Int} (hd : 0 < d) : clsC a s1 0 s2 s d = if sgn a ≠ sgn (s2 * s) ∨ sgn a = 0 then sgn a - sgn (s2 * s) else sgn a * sgn (a * a * d - s2 * s2 * s) := by
  have e0 : sgn (sq2 a * d + s1 * 0) = sgn a := by
    rw [Int.mul_zero, Int.add_zero, Int.mul_comm, sgn_mul hd, sgn_sq2]
  unfold clsC
  rw [e0, Int.zero_mul, sg1_0, Int.mul_zero, Int.add_zero]
theorem cls_0a {q s2 s d : Int} : clsC 0 (-1) q s2 s d = if sgn (-q) ≠ sgn (s2 * s) ∨ sgn (-q) = 0 then sgn (-q) - sgn (s2 * s) else sgn (-q) * sgn (q - s2 * s2 * s) := by
  have e0 : sq2 0 * d + -1 * q = -q := by rw [show sq2 0 = 0 from rfl]; omega
  have e1 : (0 * 0 * d + -1 * -1 * q - s2 * s2 * s : Int) = q - s2 * s2 * s := by omega
  unfold clsC
  rw [e0, e1, show (2 * 0 * -1 : Int) = 0 from rfl, sg1_t]
theorem cls1 {a q s d : Int} (hd : 0 < d) (hq : 0 ≤ q) (hs : 0 ≤ s) : clsC a (-1) q (-1) s d ≤ 0 ↔ if 0 < a then (a * a * d + s ≤ q ∧ 0 ≤ hH (a * a * d) q s) else (s ≤ a * a * d + q ∨ hH (a * a * d) q s ≤ 0) := by
  have hp : 0 ≤ a * a * d := mul_p (sqr_p a) (by omega)
  by_cases hs0 : s = 0
  · subst hs0
    rw [cls_0r]
    have eH : hH (a * a * d) q 0 = (a * a * d - q) * (a * a * d - q) := by unfold hH; grind
    have := sqr_p (a * a * d - q)
    by_cases hpos : 0 < a
    · rw [if_pos hpos, sq2_p (by omega), eH]; unfold sgn; omega
    · rw [if_neg hpos, sq2_m (by omega), Int.neg_mul]; unfold sgn; omega
  · by_cases hq0 : q = 0
    · subst hq0
      rw [cls_0l hd, show (-1 : Int) * -1 * s = s by omega, show (-1 : Int) * s = -s by omega, sgn_m (show -s < 0 by omega)]
      have eH : hH (a * a * d) 0 s = (a * a * d - s) * (a * a * d - s) := by unfold hH; grind
      rcases sgn_c a with h | h | h
      · rw [h.2, if_pos h.1]
        have : 0 < a * a * d := Int.mul_pos (sqr_pp (by omega)) hd
        omega
      · rw [h.2, if_neg (show ¬ 0 < a by omega), eH]
        by_cases e : a * a * d - s = 0
        · rw [e]; unfold sgn; omega
        · have := sqr_pp e
          unfold sgn; omega
      · have a0 := h.1
        subst a0
        rw [sgn_0, if_neg (show ¬ (0 : Int) < 0 by omega), eH]
        have := sqr_pp (show (0 * 0 * d - s : Int) ≠ 0 by omega)
        omega
    · by_cases ha : a = 0
      · subst ha
        rw [cls_0a, show (-1 : Int) * -1 * s = s by omega, show (-1 : Int) * s = -s by omega, sgn_m (show -s < 0 by omega), sgn_m (show -q < 0 by omega), if_neg (show ¬ (0 : Int) < 0 by omega)]
        have eH : hH (0 * 0 * d) q s = (q - s) * (q - s) := by unfold hH; grind
        rw [eH]
        by_cases e : q - s = 0
        · rw [e]; unfold sgn; omega
        · have := sqr_pp e
          unfold sgn; omega
      · exact cls1_n ha hd (by omega) (by omega)
theorem cls2 {a q s d : Int} (hd : 0 < d) (hq : 0 ≤ q) (hs : 0 ≤ s) : clsC a (-1) q 1 s d ≤ 0 ↔ (a ≤ 0 ∨ a * a * d ≤ q + s ∨ hH (a * a * d) q s ≤ 0) := by
  have hp : 0 ≤ a * a * d := mul_p (sqr_p a) (by omega)
  by_cases hs0 : s = 0
  · subst hs0
    rw [cls_0r]
    have eH : hH (a * a * d) q 0 = (a * a * d - q) * (a * a * d - q) := by unfold hH; grind
    by_cases hpos : 0 < a
    · rw [sq2_p (by omega), eH]
      by_cases e : a * a * d - q = 0
      · rw [e]; unfold sgn; omega
      · have := sqr_pp e
        unfold sgn; omega
    · rw [sq2_m (by omega), Int.neg_mul]; unfold sgn; omega
  · by_cases hq0 : q = 0
    · subst hq0
      rw [cls_0l hd, show (1 : Int) * 1 * s = s by omega, show (1 : Int) * s = s by omega, sgn_p (show 0 < s by omega)]
      have eH : hH (a * a * d) 0 s = (a * a * d - s) * (a * a * d - s) := by unfold hH; grind
      rcases sgn_c a with h | h | h
      · rw [h.2, eH]
        by_cases e : a * a * d - s = 0
        · rw [e]; unfold sgn; omega
        · have := sqr_pp e
          unfold sgn; omega
      · rw [h.2]; omega
      · rw [h.1, sgn_0]; omega
    · by_cases ha : a = 0
      · subst ha
        rw [cls_0a, show (1 : Int) * 1 * s = s by omega, show (1 : Int) * s = s by omega, sgn_p (show 0 < s by omega), sgn_m (show -q < 0 by omega)]
        omega
      · exact cls2_n ha hd (by omega) (by omega)
/-- the depth of a side; places u / v of an edge of square L (u: v L places to its end) -/
def dD (L n d f s : Int) : Int := L * n - (L * s - f * f) * d
def isIn (L n d f s u v : Int) : Prop := d * ((u - v * f) * (u - v * f)) ≤ v * v * dD L n d f s
def isBf (L n d f s u v : Int) : Prop := u < v * f ∧ v * v * dD L n d f s < d * ((u - v * f) * (u - v * f))
def fsB (n d s : Int) : Bool := decide (s * d ≤ n)
def teB (L n d f s : Int) : Bool := decide ((s - 2 * f + L) * d ≤ n)
def frB (L n d f s : Int) : Bool := fsB n d s || teB L n d f s || decide (0 < f ∧ f < L ∧ 0 ≤ dD L n d f s)
theorem pos_of {L x : Int} (hL : 0 < L) : 0 ≤ L * x ↔ 0 ≤ x := by
  refine ⟨fun h => ?_, fun h => Int.mul_nonneg (by omega) h⟩
  by_cases q : 0 ≤ x
  · exact q
  · have := Int.mul_neg_of_pos_of_neg hL (show x < 0 by omega)
    omega
theorem in_0 {L n d f s : Int} (hL : 0 < L) : isIn L n d f s 0 1 ↔ s * d ≤ n := by
  have e : 1 * 1 * dD L n d f s - d * ((0 - 1 * f) * (0 - 1 * f)) = L * (n - s * d) := by unfold dD; grind
  have := pos_of (x := n - s * d) hL
  unfold isIn
  omega
theorem in_L {L n d f s : Int} (hL : 0 < L) : isIn L n d f s L 1 ↔ (s - 2 * f + L) * d ≤ n := by
  have e : 1 * 1 * dD L n d f s - d * ((L - 1 * f) * (L - 1 * f)) = L * (n - (s - 2 * f + L) * d) := by unfold dD; grind
  have := pos_of (x := n - (s - 2 * f + L) * d) hL
  unfold isIn
  omega
theorem in_f {L n d f s : Int} : isIn L n d f s f 1 ↔ 0 ≤ dD L n d f s := by
  have e : d * ((f - 1 * f) * (f - 1 * f)) = 0 := by grind
  unfold isIn
  omega
theorem fsB_i {L n d f s : Int} (hL : 0 < L) : fsB n d s = true ↔ isIn L n d f s 0 1 := by rw [in_0 hL]; exact decide_eq_true_iff
theorem teB_i {L n d f s : Int} (hL : 0 < L) : teB L n d f s = true ↔ isIn L n d f s L 1 := by rw [in_L hL]; exact decide_eq_true_iff
def clp (L f : Int) : Int := if f ≤ 0 then 0 else if L ≤ f then L else f
theorem fr_i {L n d f s : Int} : frB L n d f s = true ↔ s * d ≤ n ∨ (s - 2 * f + L) * d ≤ n ∨ (0 < f ∧ f < L ∧ 0 ≤ dD L n d f s) := by
  unfold frB fsB teB
  rw [Bool.or_eq_true, Bool.or_eq_true, decide_eq_true_iff, decide_eq_true_iff, decide_eq_true_iff, or_assoc]
theorem fr_clp {L n d f s : Int} (hL : 0 < L) (hd : 0 < d) : frB L n d f s = true ↔ isIn L n d f s (clp L f) 1 := by
  rw [fr_i]
  unfold clp
  by_cases h0 : f ≤ 0
  · rw [if_pos h0, in_0 hL]
    have e : (s - 2 * f + L) * d = s * d + (L - 2 * f) * d := by grind
    have := mul_p (show 0 ≤ L - 2 * f by omega) (show 0 ≤ d by omega)
    omega
  · rw [if_neg h0]
    by_cases h1 : L ≤ f
    · rw [if_pos h1, in_L hL]
      have e : s * d = (s - 2 * f + L) * d + (2 * f - L) * d := by grind
      have := mul_p (show 0 ≤ 2 * f - L by omega) (show 0 ≤ d by omega)
      omega
    · rw [if_neg h1, in_f]
      have e1 : dD L n d f s = L * (n - s * d) + (f * f) * d := by unfold dD; grind
      have e2 : dD L n d f s = L * (n - (s - 2 * f + L) * d) + ((L - f) * (L - f)) * d := by unfold dD; grind
      have p1 := mul_p (sqr_p f) (show 0 ≤ d by omega)
      have p2 := mul_p (sqr_p (L - f)) (show 0 ≤ d by omega)
      have q1 := pos_of (x := n - s * d) hL
      have q2 := pos_of (x := n - (s - 2 * f + L) * d) hL
      omega
theorem clp_r {L f : Int} (hL : 0 < L) : 0 ≤ clp L f ∧ clp L f ≤ L := by
  unfold clp
  by_cases h0 : f ≤ 0
  · rw [if_pos h0]; omega
  · rw [if_neg h0]
    by_cases h1 : L ≤ f
    · rw [if_pos h1]; omega
    · rw [if_neg h1]; omega
theorem in_D {L n d f s u v : Int} (hd : 0 < d) (hv : 0 < v) (h : isIn L n d f s u v) : 0 ≤ dD L n d f s := by
  have q : 0 ≤ v * v * dD L n d f s := Int.le_trans (mul_p (by omega) (sqr_p _)) h
  exact (pos_of (Int.mul_pos hv hv)).mp q
theorem fr_D {L n d f s : Int} (hL : 0 < L) (hd : 0 < d) (h : frB L n d f s = true) : 0 ≤ dD L n d f s := in_D hd (by omega) ((fr_clp hL hd).mp h)
theorem fr_lo {L n d f s : Int} (hL : 0 < L) (hd : 0 < d) (h : frB L n d f s = true) (hf : f ≤ 0) : fsB n d s = true := by
  have q := (fr_clp hL hd).mp h
  unfold clp at q
  rw [if_pos hf] at q
  exact (fsB_i hL).mpr q
theorem fr_hi {L n d f s : Int} (hL : 0 < L) (hd : 0 < d) (h : frB L n d f s = true) (hf : L ≤ f) : teB L n d f s = true := by
  have q := (fr_clp hL hd).mp h
  unfold clp at q
  rw [if_neg (by omega), if_pos hf] at q
  exact (teB_i hL).mpr q
theorem nbf {L n d f s u v : Int} (h : isIn L n d f s u v) : ¬ isBf L n d f s u v := fun q => by
  have := q.2
  unfold isIn at h
  omega
/-- nearer to the foot is no farther away -/
theorem in_near {L n d f s u v : Int} {u' v' : Int} (hd : 0 < d) (hv : 0 < v) (hv' : 0 < v') (h : isIn L n d f s u v) (hz : v * v * ((u' - v' * f) * (u' - v' * f)) ≤ v' * v' * ((u - v * f) * (u - v * f))) : isIn L n d f s u' v' := by
  unfold isIn at *
  have h1 : v' * v' * (d * ((u - v * f) * (u - v * f))) ≤ v' * v' * (v * v * dD L n d f s) := Int.mul_le_mul_of_nonneg_left h (Int.le_of_lt (Int.mul_pos hv' hv'))
  have h2 : d * (v * v * ((u' - v' * f) * (u' - v' * f))) ≤ d * (v' * v' * ((u - v * f) * (u - v * f))) := Int.mul_le_mul_of_nonneg_left hz (by omega)
  have e1 : v' * v' * (d * ((u - v * f) * (u - v * f))) = d * (v' * v' * ((u - v * f) * (u - v * f))) := by grind
  have e2 : d * (v * v * ((u' - v' * f) * (u' - v' * f))) = v * v * (d * ((u' - v' * f) * (u' - v' * f))) := by grind
  have e3 : v' * v' * (v * v * dD L n d f s) = v * v * (v' * v' * dD L n d f s) := by grind
  have h3 : 0 ≤ v * v * (v' * v' * dD L n d f s - d * ((u' - v' * f) * (u' - v' * f))) := by
    rw [Int.mul_sub]; omega
  have := (pos_of (Int.mul_pos hv hv)).mp h3
  omega
theorem nbf_fs {L n d f s u v : Int} (hL : 0 < L) (hd : 0 < d) (hv : 0 < v) (hu : 0 ≤ u) (h : fsB n d s = true) : ¬ isBf L n d f s u v := by
  intro q
  refine nbf (in_near (u := 0) (v := 1) hd (by omega) hv ((fsB_i hL).mp h) ?_) q
  have h1 : (v * f - u) * (v * f - u) ≤ (v * f) * (v * f) := by
    have := q.1
    exact mul_mono (by omega) (by omega) (by omega) (by omega)
  have e1 : 1 * 1 * ((u - v * f) * (u - v * f)) = (v * f - u) * (v * f - u) := by grind
  have e2 : v * v * ((0 - 1 * f) * (0 - 1 * f)) = (v * f) * (v * f) := by grind
  omega
theorem nbf_te {L n d f s : Int} (hL : 0 < L) (hd : 0 < d) (h : frB L n d f s = true) : ¬ isBf L n d f s L 1 := by
  intro q
  have h2 := fr_hi hL hd h (by have := q.1; omega)
  exact nbf ((teB_i hL).mp h2) q
