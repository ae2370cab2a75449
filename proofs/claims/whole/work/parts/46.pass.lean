/-! ===== a passage: begun ahead of another one's end ===== -/
theorem rF_fs {L n d f s f' s' : Int} (hL : 0 < L) (hd : 0 < d) (hk : frB L n d f' s' = true) (h : fsB n d s = true) : rF L n d f s f' s' := by
  have r := clp_r (L := L) (f := f') hL
  exact ⟨clp L f', 1, by omega, r.1, by omega, (fr_clp hL hd).mp hk, nbf_fs hL hd (by omega) r.1 h⟩
theorem rF_te {L n d f s f' s' : Int} (hL : 0 < L) (hd : 0 < d) (hl : frB L n d f s = true) (h : teB L n d f' s' = true) : rF L n d f s f' s' :=
  ⟨L, 1, by omega, by omega, by omega, (teB_i hL).mp h, nbf_te hL hd hl⟩
theorem rF_r {L n d f s : Int} (hL : 0 < L) (hd : 0 < d) (h : frB L n d f s = true) : rF L n d f s f s := by
  have r := clp_r (L := L) (f := f) hL
  exact ⟨clp L f, 1, by omega, r.1, by omega, (fr_clp hL hd).mp h, nbf ((fr_clp hL hd).mp h)⟩
/-- where both begin within -/
theorem rF_w {L n d f s f' s' : Int} (hL : 0 < L) (hd : 0 < d) (hl : frB L n d f s = true) (hk : frB L n d f' s' = true) (c1 : ¬ fsB n d s = true) (c2 : ¬ teB L n d f' s' = true) :
    rF L n d f s f' s' → (f - f' ≤ 0 ∨ (f - f') * (f - f') * d ≤ dD L n d f s + dD L n d f' s' ∨ hH ((f - f') * (f - f') * d) (dD L n d f s) (dD L n d f' s') ≤ 0) := by
  rintro ⟨u, v, hv, _, _, h1, h2⟩
  have Q0 := fr_D hL hd hl
  have S0 := fr_D hL hd hk
  have hvv : 0 < v * v := Int.mul_pos hv hv
  unfold isIn at h1
  by_cases ha : f - f' ≤ 0
  · exact Or.inl ha
  · right
    unfold isBf at h2
    generalize dD L n d f s = Q at *
    generalize dD L n d f' s' = S at *
    have ev : v * (f - f') = (v * f - u) + (u - v * f') := by grind
    have hva : 0 < v * (f - f') := Int.mul_pos hv (by omega)
    have ep : v * v * ((f - f') * (f - f') * d) = d * ((v * (f - f')) * (v * (f - f'))) := by grind
    by_cases hx : u < v * f
    · have h3 : d * ((u - v * f) * (u - v * f)) ≤ v * v * Q := by
        by_cases q : v * v * Q < d * ((u - v * f) * (u - v * f))
        · exact absurd ⟨hx, q⟩ h2
        · omega
      generalize (f - f') = a at *
      have ex : (u - v * f) * (u - v * f) = (v * f - u) * (v * f - u) := by grind
      rw [ex] at h3
      generalize (v * f - u) = x at *
      generalize (u - v * f') = z at *
      by_cases g : a * a * d ≤ Q + S
      · exact Or.inl g
      · right
        have e1 : d * ((v * a) * (v * a)) = d * (x * x) + d * (z * z) + 2 * d * x * z := by rw [ev]; grind
        have m1 : v * v * (a * a * d - Q - S) ≤ 2 * d * x * z := by
          have : v * v * (a * a * d - Q - S) = v * v * (a * a * d) - v * v * Q - v * v * S := by grind
          omega
        have m0 : 0 ≤ v * v * (a * a * d - Q - S) := mul_p (by omega) (by omega)
        have m2 : (v * v * (a * a * d - Q - S)) * (v * v * (a * a * d - Q - S)) ≤ (2 * d * x * z) * (2 * d * x * z) := mul_mono m1 m1 m0 (by omega)
        have e2 : (2 * d * x * z) * (2 * d * x * z) = 4 * ((d * (x * x)) * (d * (z * z))) := by grind
        have m3 : (d * (x * x)) * (d * (z * z)) ≤ (v * v * Q) * (v * v * S) := mul_mono h3 h1 (mul_p (by omega) (sqr_p z)) (mul_p (by omega) Q0)
        have e3 : (v * v * (a * a * d - Q - S)) * (v * v * (a * a * d - Q - S)) = (v * v * (v * v)) * ((a * a * d - Q - S) * (a * a * d - Q - S)) := by grind
        have e4 : 4 * ((v * v * Q) * (v * v * S)) = (v * v * (v * v)) * (4 * (Q * S)) := by grind
        have e5 : (a * a * d - Q - S) * (a * a * d - Q - S) = hH (a * a * d) Q S + 4 * (Q * S) := by unfold hH; grind
        have m4 : 0 ≤ (v * v * (v * v)) * (4 * (Q * S) - (a * a * d - Q - S) * (a * a * d - Q - S)) := by
          rw [Int.mul_sub]; omega
        have := (pos_of (Int.mul_pos hvv hvv)).mp m4
        omega
    · left
      have h3 : (v * (f - f')) * (v * (f - f')) ≤ (u - v * f') * (u - v * f') := mul_mono (by omega) (by omega) (by omega) (by omega)
      have h4 : d * ((v * (f - f')) * (v * (f - f'))) ≤ d * ((u - v * f') * (u - v * f')) := Int.mul_le_mul_of_nonneg_left h3 (by omega)
      have h5 : 0 ≤ v * v * (S - (f - f') * (f - f') * d) := by
        rw [Int.mul_sub]; omega
      have := (pos_of hvv).mp h5
      omega
/-- the place as far from both: u = L * (s - s'), v = 2 * (f - f') -/
theorem mid_in {L n d f s f' s' : Int} (hd : 0 < d) (h : hH ((f - f') * (f - f') * d) (dD L n d f s) (dD L n d f' s') ≤ 0) : isIn L n d f' s' (L * (s - s')) (2 * (f - f')) ∧ isIn L n d f s (L * (s - s')) (2 * (f - f')) := by
  have e1 : d * (L * (s - s') - 2 * (f - f') * f') = (f - f') * (f - f') * d + dD L n d f' s' - dD L n d f s := by unfold dD; grind
  have e2 : d * (2 * (f - f') * f - L * (s - s')) = (f - f') * (f - f') * d + dD L n d f s - dD L n d f' s' := by unfold dD; grind
  unfold isIn
  generalize dD L n d f s = Q at *
  generalize dD L n d f' s' = S at *
  have ez : (L * (s - s') - 2 * (f - f') * f) * (L * (s - s') - 2 * (f - f') * f) = (2 * (f - f') * f - L * (s - s')) * (2 * (f - f') * f - L * (s - s')) := by grind
  rw [ez]
  generalize hz : L * (s - s') - 2 * (f - f') * f' = z at *
  generalize hx : 2 * (f - f') * f - L * (s - s') = x at *
  generalize f - f' = a at *
  refine ⟨?_, ?_⟩
  · have g1 : d * (d * (z * z)) = hH (a * a * d) Q S + 4 * ((a * a * d) * S) := by
      have : d * (d * (z * z)) = (d * z) * (d * z) := by grind
      rw [this, e1]; unfold hH; grind
    have g2 : d * (2 * a * (2 * a) * S) = 4 * ((a * a * d) * S) := by grind
    have g3 : 0 ≤ d * (2 * a * (2 * a) * S - d * (z * z)) := by rw [Int.mul_sub]; omega
    have := (pos_of hd).mp g3
    omega
  · have g1 : d * (d * (x * x)) = hH (a * a * d) Q S + 4 * ((a * a * d) * Q) := by
      have : d * (d * (x * x)) = (d * x) * (d * x) := by grind
      rw [this, e2]; unfold hH; grind
    have g2 : d * (2 * a * (2 * a) * Q) = 4 * ((a * a * d) * Q) := by grind
    have g3 : 0 ≤ d * (2 * a * (2 * a) * Q - d * (x * x)) := by rw [Int.mul_sub]; omega
    have := (pos_of hd).mp g3
    omega
/-- the place in the middle lies on the edge, where neither foot is near enough to the other point -/
theorem mid_r {L n d f s f' s' : Int} (hL : 0 < L) (hd : 0 < d) (hl : frB L n d f s = true) (hk : frB L n d f' s' = true) (c1 : ¬ fsB n d s = true) (c2 : ¬ teB L n d f' s' = true) (ha : 0 < f - f')
    (h1 : dD L n d f s < (f - f') * (f - f') * d) (h2 : dD L n d f' s' < (f - f') * (f - f') * d) :
    0 ≤ L * (s - s') ∧ L * (s - s') ≤ 2 * (f - f') * L ∧ 2 * (f - f') * f' < L * (s - s') ∧ L * (s - s') < 2 * (f - f') * f := by
  have e1 : d * (L * (s - s') - 2 * (f - f') * f') = (f - f') * (f - f') * d + dD L n d f' s' - dD L n d f s := by unfold dD; grind
  have e2 : d * (2 * (f - f') * f - L * (s - s')) = (f - f') * (f - f') * d + dD L n d f s - dD L n d f' s' := by unfold dD; grind
  have Q0 := fr_D hL hd hl
  have S0 := fr_D hL hd hk
  have z0 : 0 < L * (s - s') - 2 * (f - f') * f' := by
    by_cases q : 0 < L * (s - s') - 2 * (f - f') * f'
    · exact q
    · have := mul_p (show 0 ≤ d by omega) (show 0 ≤ -(L * (s - s') - 2 * (f - f') * f') by omega)
      have e : d * -(L * (s - s') - 2 * (f - f') * f') = -(d * (L * (s - s') - 2 * (f - f') * f')) := by grind
      omega
  have x0 : 0 < 2 * (f - f') * f - L * (s - s') := by
    by_cases q : 0 < 2 * (f - f') * f - L * (s - s')
    · exact q
    · have := mul_p (show 0 ≤ d by omega) (show 0 ≤ -(2 * (f - f') * f - L * (s - s')) by omega)
      have e : d * -(2 * (f - f') * f - L * (s - s')) = -(d * (2 * (f - f') * f - L * (s - s'))) := by grind
      omega
  have n1 : n < s * d := by
    by_cases q : s * d ≤ n
    · exact absurd (decide_eq_true q) c1
    · omega
  have n2 : n < (s' - 2 * f' + L) * d := by
    by_cases q : (s' - 2 * f' + L) * d ≤ n
    · exact absurd (decide_eq_true q) c2
    · omega
  refine ⟨?_, ?_, by omega, by omega⟩
  · by_cases q : 0 ≤ f'
    · have := mul_p (show 0 ≤ 2 * (f - f') by omega) q
      omega
    · have g := of_decide_eq_true (fr_lo hL hd hk (by omega))
      have : 0 < (s - s') * d := by
        have : (s - s') * d = s * d - s' * d := by grind
        omega
      have : 0 ≤ s - s' := by
        by_cases w : 0 ≤ s - s'
        · exact w
        · have := mul_p (show 0 ≤ -(s - s') by omega) (show 0 ≤ d by omega)
          have e : -(s - s') * d = -((s - s') * d) := by grind
          omega
      exact mul_p (by omega) this
  · by_cases q : f ≤ L
    · have := mul_p (show 0 ≤ 2 * (f - f') by omega) (show 0 ≤ L - f by omega)
      have e : 2 * (f - f') * (L - f) = 2 * (f - f') * L - 2 * (f - f') * f := by grind
      omega
    · have g := of_decide_eq_true (fr_hi hL hd hl (by omega))
      have g2 : 0 < ((s' - 2 * f' + L) - (s - 2 * f + L)) * d := by
        have : ((s' - 2 * f' + L) - (s - 2 * f + L)) * d = (s' - 2 * f' + L) * d - (s - 2 * f + L) * d := by grind
        omega
      have g3 : 0 ≤ (s' - 2 * f' + L) - (s - 2 * f + L) := by
        by_cases w : 0 ≤ (s' - 2 * f' + L) - (s - 2 * f + L)
        · exact w
        · have := mul_p (show 0 ≤ -((s' - 2 * f' + L) - (s - 2 * f + L)) by omega) (show 0 ≤ d by omega)
          have e : -((s' - 2 * f' + L) - (s - 2 * f + L)) * d = -(((s' - 2 * f' + L) - (s - 2 * f + L)) * d) := by grind
          omega
      have g4 := mul_p (show 0 ≤ L by omega) g3
      have e : L * ((s' - 2 * f' + L) - (s - 2 * f + L)) = 2 * (f - f') * L - L * (s - s') := by grind
      omega
/-- a foot that is near enough -/
theorem rF_foot {L n d f s f' s' : Int} (hL : 0 < L) (hd : 0 < d) (hl : frB L n d f s = true) (hk : frB L n d f' s' = true) (c1 : ¬ fsB n d s = true) (c2 : ¬ teB L n d f' s' = true)
    (h : f - f' ≤ 0 ∨ (f - f') * (f - f') * d ≤ dD L n d f s ∨ (f - f') * (f - f') * d ≤ dD L n d f' s') : rF L n d f s f' s' := by
  have l1 := nfs hL hd hl c1
  have k1 := nte hL hd hk c2
  have inf : ∀ {g w : Int}, frB L n d g w = true → 0 ≤ g → g ≤ L → isIn L n d g w g 1 := fun q _ _ => in_f.mpr (fr_D hL hd q)
  by_cases ha : f - f' ≤ 0
  · -- the foot of the other one is no earlier
    have f0 : 0 ≤ f' := by omega
    refine ⟨f', 1, by omega, f0, by omega, inf hk f0 (by omega), fun b => ?_⟩
    have := b.1
    omega
  · have hor : (f - f') * (f - f') * d ≤ dD L n d f s ∨ (f - f') * (f - f') * d ≤ dD L n d f' s' := by omega
    rcases hor with hor | hor
    · -- f' is near enough to the first point
      by_cases f0 : 0 ≤ f'
      · refine ⟨f', 1, by omega, f0, by omega, inf hk f0 (by omega), nbf ?_⟩
        unfold isIn
        have e : d * ((f' - 1 * f) * (f' - 1 * f)) = (f - f') * (f - f') * d := by grind
        omega
      · exfalso
        have m : f * f ≤ (f - f') * (f - f') := mul_mono (by omega) (by omega) (by omega) (by omega)
        have := Int.mul_le_mul_of_nonneg_right m (show 0 ≤ d by omega)
        omega
    · by_cases fL : f ≤ L
      · refine ⟨f, 1, by omega, by omega, by omega, ?_, nbf (inf hl (by omega) fL)⟩
        unfold isIn
        have e : d * ((f - 1 * f') * (f - 1 * f')) = (f - f') * (f - f') * d := by grind
        omega
      · exfalso
        have m : (L - f') * (L - f') ≤ (f - f') * (f - f') := mul_mono (by omega) (by omega) (by omega) (by omega)
        have := Int.mul_le_mul_of_nonneg_right m (show 0 ≤ d by omega)
        omega
theorem rF_mid {L n d f s f' s' : Int} (ha : 0 < f - f') (r1 : 0 ≤ L * (s - s')) (r2 : L * (s - s') ≤ 2 * (f - f') * L) (h : isIn L n d f' s' (L * (s - s')) (2 * (f - f')) ∧ isIn L n d f s (L * (s - s')) (2 * (f - f'))) : rF L n d f s f' s' :=
  ⟨L * (s - s'), 2 * (f - f'), by omega, r1, r2, h.1, nbf h.2⟩
theorem k2_i {L n d f s f' s' : Int} (hL : 0 < L) (hd : 0 < d) (hl : frB L n d f s = true) (hk : frB L n d f' s' = true) : k2B L n d f s f' s' = true ↔ rF L n d f s f' s' := by
  have Q0 := fr_D hL hd hl
  have S0 := fr_D hL hd hk
  unfold k2B
  rw [decide_eq_true_iff]
  by_cases c1 : fsB n d s = true
  · refine ⟨fun _ => rF_fs hL hd hk c1, fun _ => ?_⟩
    rw [if_pos c1, if_pos c1, if_pos c1]
    by_cases c2 : teB L n d f' s' = true
    · rw [if_pos c2, if_pos c2, if_pos c2, cls_0r, sq2_m (by omega)]
      have := mul_p (sqr_p (0 - L)) (show 0 ≤ d by omega)
      have e : -((0 - L) * (0 - L)) * d + 0 * 0 = -((0 - L) * (0 - L) * d) := by grind
      rw [e]
      unfold sgn; omega
    · rw [if_neg c2, if_neg c2, if_neg c2, cls_0l hd]
      by_cases f0 : 0 ≤ f'
      · rcases sgn_c (0 - f') with q | q | q
        · omega
        · rw [q.2]; unfold sgn; omega
        · rw [q.2]; unfold sgn; omega
      · have g := (fsB_i hL (f := f')).mp (fr_lo hL hd hk (by omega))
        unfold isIn at g
        have e : (0 - f') * (0 - f') * d = d * ((0 - 1 * f') * (0 - 1 * f')) := by grind
        have hpos := Int.mul_pos hd (sqr_pp (show (0 - 1 * f' : Int) ≠ 0 by omega))
        rw [sgn_p (show 0 < 0 - f' by omega), e]
        unfold sgn; omega
  · by_cases c2 : teB L n d f' s' = true
    · refine ⟨fun _ => rF_te hL hd hl c2, fun _ => ?_⟩
      rw [if_neg c1, if_neg c1, if_neg c1, if_pos c2, if_pos c2, if_pos c2, cls_0r]
      by_cases fL : f ≤ L
      · rw [sq2_m (by omega)]
        have := mul_p (sqr_p (f - L)) (show 0 ≤ d by omega)
        have e : -((f - L) * (f - L)) * d = -((f - L) * (f - L) * d) := by grind
        rw [e]
        unfold sgn; omega
      · have g := (teB_i hL (f := f)).mp (fr_hi hL hd hl (by omega))
        unfold isIn at g
        have e : (f - L) * (f - L) * d = d * ((L - 1 * f) * (L - 1 * f)) := by grind
        rw [sq2_p (by omega), e]
        unfold sgn; omega
    · rw [if_neg c1, if_neg c1, if_neg c1, if_neg c2, if_neg c2, if_neg c2, cls2 hd Q0 S0]
      refine ⟨fun h => ?_, rF_w hL hd hl hk c1 c2⟩
      by_cases g : f - f' ≤ 0 ∨ (f - f') * (f - f') * d ≤ dD L n d f s ∨ (f - f') * (f - f') * d ≤ dD L n d f' s'
      · exact rF_foot hL hd hl hk c1 c2 g
      · have a0 : 0 < f - f' := by omega
        have r := mid_r hL hd hl hk c1 c2 a0 (by omega) (by omega)
        refine rF_mid a0 r.1 r.2.1 (mid_in hd ?_)
        by_cases q : hH ((f - f') * (f - f') * d) (dD L n d f s) (dD L n d f' s') ≤ 0
        · exact q
        · have h3 : (f - f') * (f - f') * d ≤ dD L n d f s + dD L n d f' s' := by omega
          by_cases Qz : dD L n d f s = 0
          · omega
          · by_cases Sz : dD L n d f' s' = 0
            · omega
            · have := tri_H (p := (f - f') * (f - f') * d) (q := dD L n d f s) (s := dD L n d f' s') (by omega) (by omega) (by omega) h3 (by omega) (by omega)
              unfold hH
              omega
