/-! ===== places compared: begun no later (rA), begun ahead of another one's end (rF) ===== -/
def rA (L n d f s f' s' : Int) : Prop := ∀ u v : Int, 0 < v → 0 ≤ u → u ≤ v * L → isBf L n d f s u v → isBf L n d f' s' u v
def rF (L n d f s f' s' : Int) : Prop := ∃ u v : Int, 0 < v ∧ 0 ≤ u ∧ u ≤ v * L ∧ isIn L n d f' s' u v ∧ ¬ isBf L n d f s u v
def k1B (L n d f s f' s' : Int) : Bool := decide (clsC ((if fsB n d s = true then 0 else f) - (if fsB n d s' = true then 0 else f')) (if fsB n d s = true then 0 else -1) (if fsB n d s = true then 0 else dD L n d f s) (if fsB n d s' = true then 0 else -1) (if fsB n d s' = true then 0 else dD L n d f' s') d ≤ 0)
def k2B (L n d f s f' s' : Int) : Bool := decide (clsC ((if fsB n d s = true then 0 else f) - (if teB L n d f' s' = true then L else f')) (if fsB n d s = true then 0 else -1) (if fsB n d s = true then 0 else dD L n d f s) (if teB L n d f' s' = true then 0 else 1) (if teB L n d f' s' = true then 0 else dD L n d f' s') d ≤ 0)
theorem sq_le {Z K : Int} (h : Z * Z ≤ K * K) (hK : 0 ≤ K) : Z ≤ K := by
  by_cases q : Z ≤ K
  · exact q
  · have h1 := Int.mul_pos (show 0 < Z - K by omega) (show 0 < Z + K by omega)
    have e : (Z - K) * (Z + K) = Z * Z - K * K := by grind
    omega
theorem bef_t {d Q S f f' : Int} (hd : 0 < d) (hQ : 0 ≤ Q) (hS : 0 ≤ S) (h : if 0 < f - f' then ((f - f') * (f - f') * d + S ≤ Q ∧ 0 ≤ hH ((f - f') * (f - f') * d) Q S) else (S ≤ (f - f') * (f - f') * d + Q ∨ hH ((f - f') * (f - f') * d) Q S ≤ 0)) {u v : Int} (hv : 0 < v) (h1 : u < v * f) (h2 : v * v * Q < d * ((u - v * f) * (u - v * f))) : u < v * f' ∧ v * v * S < d * ((u - v * f') * (u - v * f')) := by
  have hp : 0 ≤ (f - f') * (f - f') * d := mul_p (sqr_p _) (by omega)
  have hvv : 0 < v * v := Int.mul_pos hv hv
  generalize ha : f - f' = a at *
  have hy : v * f' - u = v * f - u - v * a := by rw [← ha]; grind
  generalize hx' : v * f - u = x at *
  have hx : 0 < x := by omega
  have ex : (u - v * f) * (u - v * f) = x * x := by rw [← hx']; grind
  rw [ex] at h2
  generalize hy' : v * f' - u = y at *
  have ey : (u - v * f') * (u - v * f') = y * y := by rw [← hy']; grind
  rw [ey]
  by_cases hpos : 0 < a
  · rw [if_pos hpos] at h
    have hva : 0 < v * a := Int.mul_pos hv hpos
    have y0 : 0 < y := by
      by_cases q : 0 < y
      · exact q
      · have h3 : x * x ≤ (v * a) * (v * a) := mul_mono (by omega) (by omega) (by omega) (by omega)
        have h4 : d * (x * x) ≤ d * ((v * a) * (v * a)) := Int.mul_le_mul_of_nonneg_left h3 (by omega)
        have e4 : d * ((v * a) * (v * a)) = v * v * (a * a * d) := by grind
        have h5 : v * v * (a * a * d) ≤ v * v * Q := Int.mul_le_mul_of_nonneg_left (by omega) (by omega)
        omega
    refine ⟨by omega, ?_⟩
    by_cases q : v * v * S < d * (y * y)
    · exact q
    · exfalso
      have ey2 : d * (x * x) = v * v * (a * a * d) + d * (y * y) + 2 * d * v * a * y := by rw [show x = y + v * a by omega]; grind
      have hZ : 0 ≤ 2 * d * v * a * y := by
        have := mul_p (mul_p (mul_p (mul_p (show (0 : Int) ≤ 2 by omega) (show 0 ≤ d by omega)) (show 0 ≤ v by omega)) (show 0 ≤ a by omega)) (show 0 ≤ y by omega)
        exact this
      have eZ : (2 * d * v * a * y) * (2 * d * v * a * y) = 4 * ((v * v * (a * a * d)) * (d * (y * y))) := by grind
      have m1 : (v * v * (a * a * d)) * (d * (y * y)) ≤ (v * v * (a * a * d)) * (v * v * S) := Int.mul_le_mul_of_nonneg_left (by omega) (mul_p (by omega) hp)
      have e1 : 4 * ((v * v * (a * a * d)) * (v * v * S)) = (v * v) * (v * v) * (4 * (a * a * d * S)) := by grind
      have e2 : (Q - a * a * d - S) * (Q - a * a * d - S) = hH (a * a * d) Q S + 4 * (a * a * d * S) := by unfold hH; grind
      have m2 : (v * v) * (v * v) * (4 * (a * a * d * S)) ≤ (v * v) * (v * v) * ((Q - a * a * d - S) * (Q - a * a * d - S)) := Int.mul_le_mul_of_nonneg_left (by omega) (by have := mul_p (show 0 ≤ v * v by omega) (show 0 ≤ v * v by omega); exact this)
      have e3 : (v * v) * (v * v) * ((Q - a * a * d - S) * (Q - a * a * d - S)) = (v * v * (Q - a * a * d - S)) * (v * v * (Q - a * a * d - S)) := by grind
      have k := sq_le (Z := 2 * d * v * a * y) (K := v * v * (Q - a * a * d - S)) (by omega) (mul_p (by omega) (by omega))
      have e4 : v * v * (Q - a * a * d - S) = v * v * Q - v * v * (a * a * d) - v * v * S := by grind
      omega
  · rw [if_neg hpos] at h
    have hva : 0 ≤ v * (-a) := mul_p (by omega) (by omega)
    have eva : v * (-a) = -(v * a) := by grind
    refine ⟨by omega, ?_⟩
    have ey2 : d * (y * y) = v * v * (a * a * d) + d * (x * x) + 2 * d * v * (-a) * x := by rw [show y = x + v * (-a) by omega]; grind
    have hZ : 0 ≤ 2 * d * v * (-a) * x := mul_p (mul_p (mul_p (mul_p (by omega) (by omega)) (by omega)) (by omega)) (by omega)
    have hvp : 0 ≤ v * v * (a * a * d) := mul_p (by omega) hp
    by_cases q : S ≤ a * a * d + Q
    · have h5 : v * v * S ≤ v * v * (a * a * d + Q) := Int.mul_le_mul_of_nonneg_left q (by omega)
      rw [Int.mul_add] at h5
      omega
    · have hH0 : hH (a * a * d) Q S ≤ 0 := by omega
      have eZ : (2 * d * v * (-a) * x) * (2 * d * v * (-a) * x) = 4 * ((v * v * (a * a * d)) * (d * (x * x))) := by grind
      have m1 : (v * v * (a * a * d)) * (v * v * Q) ≤ (v * v * (a * a * d)) * (d * (x * x)) := Int.mul_le_mul_of_nonneg_left (by omega) hvp
      have e1 : 4 * ((v * v * (a * a * d)) * (v * v * Q)) = (v * v) * (v * v) * (4 * (a * a * d * Q)) := by grind
      have e2 : (S - a * a * d - Q) * (S - a * a * d - Q) = hH (a * a * d) Q S + 4 * (a * a * d * Q) := by unfold hH; grind
      have m2 : (v * v) * (v * v) * ((S - a * a * d - Q) * (S - a * a * d - Q)) ≤ (v * v) * (v * v) * (4 * (a * a * d * Q)) := Int.mul_le_mul_of_nonneg_left (by omega) (mul_p (by omega) (by omega))
      have e3 : (v * v) * (v * v) * ((S - a * a * d - Q) * (S - a * a * d - Q)) = (v * v * (S - a * a * d - Q)) * (v * v * (S - a * a * d - Q)) := by grind
      have k := sq_le (Z := v * v * (S - a * a * d - Q)) (K := 2 * d * v * (-a) * x) (by omega) hZ
      have e4 : v * v * (S - a * a * d - Q) = v * v * S - v * v * (a * a * d) - v * v * Q := by grind
      omega
theorem nfs {L n d f s : Int} (hL : 0 < L) (hd : 0 < d) (h : frB L n d f s = true) (hn : ¬ fsB n d s = true) : 0 < f ∧ dD L n d f s < f * f * d := by
  have h1 : 0 < f := by
    by_cases q : 0 < f
    · exact q
    · exact absurd (fr_lo hL hd h (by omega)) hn
  refine ⟨h1, ?_⟩
  have h2 : ¬ isIn L n d f s 0 1 := fun q => hn ((fsB_i hL).mpr q)
  unfold isIn at h2
  have e : d * ((0 - 1 * f) * (0 - 1 * f)) = f * f * d := by grind
  omega
theorem nte {L n d f s : Int} (hL : 0 < L) (hd : 0 < d) (h : frB L n d f s = true) (hn : ¬ teB L n d f s = true) : f < L ∧ dD L n d f s < (L - f) * (L - f) * d := by
  have h1 : f < L := by
    by_cases q : f < L
    · exact q
    · exact absurd (fr_hi hL hd h (by omega)) hn
  refine ⟨h1, ?_⟩
  have h2 : ¬ isIn L n d f s L 1 := fun q => hn ((teB_i hL).mpr q)
  unfold isIn at h2
  have e : d * ((L - 1 * f) * (L - 1 * f)) = (L - f) * (L - f) * d := by grind
  omega
theorem hH_sym (p q s : Int) : hH p q s = hH p s q := by unfold hH; grind
theorem k1_t {L n d f s f' s' : Int} (hL : 0 < L) (hd : 0 < d) (hl : frB L n d f s = true) (hk : frB L n d f' s' = true) (h : k1B L n d f s f' s' = true) : rA L n d f s f' s' := by
  intro u v hv hu _ hb
  by_cases c1 : fsB n d s = true
  · exact absurd hb (nbf_fs hL hd hv hu c1)
  · have q := of_decide_eq_true h
    rw [if_neg c1, if_neg c1, if_neg c1] at q
    have hl' := nfs hL hd hl c1
    by_cases c2 : fsB n d s' = true
    · rw [if_pos c2, if_pos c2, if_pos c2, cls_0r, Int.sub_zero, sq2_p (by omega), sgn_p (by omega)] at q
      omega
    · rw [if_neg c2, if_neg c2, if_neg c2] at q
      exact bef_t hd (fr_D hL hd hl) (fr_D hL hd hk) ((cls1 hd (fr_D hL hd hl) (fr_D hL hd hk)).mp q) hv hb.1 hb.2
theorem k1_f {L n d f s f' s' : Int} (hL : 0 < L) (hd : 0 < d) (hl : frB L n d f s = true) (hk : frB L n d f' s' = true) (h : k1B L n d f s f' s' = false) : rA L n d f' s' f s := by
  intro u v hv hu _ hb
  by_cases c2 : fsB n d s' = true
  · exact absurd hb (nbf_fs hL hd hv hu c2)
  · have q := of_decide_eq_false h
    rw [if_neg c2, if_neg c2, if_neg c2] at q
    have hk' := nfs hL hd hk c2
    by_cases c1 : fsB n d s = true
    · exfalso
      apply q
      rw [if_pos c1, if_pos c1, if_pos c1, cls_0l hd, sgn_m (show 0 - f' < 0 by omega)]
      have e : (0 - f') * (0 - f') * d - -1 * -1 * dD L n d f' s' = f' * f' * d - dD L n d f' s' := by grind
      rw [e, sgn_p (show 0 < f' * f' * d - dD L n d f' s' by omega)]
      unfold sgn
      omega
    · rw [if_neg c1, if_neg c1, if_neg c1, cls1 hd (fr_D hL hd hl) (fr_D hL hd hk)] at q
      refine bef_t hd (fr_D hL hd hk) (fr_D hL hd hl) ?_ hv hb.1 hb.2
      have e : (f' - f) * (f' - f) * d = (f - f') * (f - f') * d := by grind
      rw [e, hH_sym]
      have D1 := fr_D hL hd hl
      have D2 := fr_D hL hd hk
      have hp : 0 ≤ (f - f') * (f - f') * d := mul_p (sqr_p _) (by omega)
      by_cases a : 0 < f - f'
      · rw [if_pos a] at q
        rw [if_neg (show ¬ 0 < f' - f by omega)]
        omega
      · rw [if_neg a] at q
        by_cases b : 0 < f' - f
        · rw [if_pos b]; omega
        · rw [if_neg b]
          have : f = f' := by omega
          subst this
          have e0 : (f - f) * (f - f) * d = 0 := by grind
          rw [e0] at *
          omega
