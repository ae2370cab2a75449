/-! ===== longer leashes; the critical leash below ===== -/
theorem in_e {L n d f s u v : Int} : isIn L n d f s u v ↔ ((u - v * f) * (u - v * f) + v * v * (L * s - f * f)) * d ≤ v * v * L * n := by
  have e : v * v * dD L n d f s - d * ((u - v * f) * (u - v * f)) = v * v * L * n - ((u - v * f) * (u - v * f) + v * v * (L * s - f * f)) * d := by unfold dD; grind
  unfold isIn
  omega
theorem nd_mono {N K n d n' d' : Int} (hK : 0 ≤ K) (hd : 0 < d) (hd' : 0 < d') (h : n * d' ≤ n' * d) (q : N * d ≤ K * n) : N * d' ≤ K * n' := by
  have h1 : N * d * d' ≤ K * n * d' := Int.mul_le_mul_of_nonneg_right q (by omega)
  have h2 : K * (n * d') ≤ K * (n' * d) := Int.mul_le_mul_of_nonneg_left h hK
  have e : d * (K * n' - N * d') = K * (n' * d) - N * d * d' := by grind
  have e2 : K * n * d' = K * (n * d') := by grind
  have := (pos_of (x := K * n' - N * d') hd).mp (by omega)
  omega
theorem in_mono {L n d n' d' f s u v : Int} (hL : 0 < L) (hd : 0 < d) (hd' : 0 < d') (h : n * d' ≤ n' * d) (q : isIn L n d f s u v) : isIn L n' d' f s u v := by
  rw [in_e] at *
  exact nd_mono (mul_p (sqr_p v) (by omega)) hd hd' h q
theorem fr_mono {L n d n' d' f s : Int} (hL : 0 < L) (hd : 0 < d) (hd' : 0 < d') (h : n * d' ≤ n' * d) (q : frB L n d f s = true) : frB L n' d' f s = true :=
  (fr_clp hL hd').mpr (in_mono hL hd hd' h ((fr_clp hL hd).mp q))
theorem nbf_iff {L n d f s u v : Int} : ¬ isBf L n d f s u v ↔ v * f ≤ u ∨ isIn L n d f s u v := by
  unfold isBf isIn
  omega
theorem rF_mono {L n d n' d' f s f' s' : Int} (hL : 0 < L) (hd : 0 < d) (hd' : 0 < d') (h : n * d' ≤ n' * d) (q : rF L n d f s f' s') : rF L n' d' f s f' s' := by
  obtain ⟨u, v, hv, r1, r2, h1, h2⟩ := q
  refine ⟨u, v, hv, r1, r2, in_mono hL hd hd' h h1, ?_⟩
  rw [nbf_iff] at *
  rcases h2 with h2 | h2
  · exact Or.inl h2
  · exact Or.inr (in_mono hL hd hd' h h2)
theorem mid_same {L n d f s f' s' : Int} : isIn L n d f s (L * (s - s')) (2 * (f - f')) ↔ isIn L n d f' s' (L * (s - s')) (2 * (f - f')) := by
  rw [in_e, in_e]
  have e : (L * (s - s') - 2 * (f - f') * f) * (L * (s - s') - 2 * (f - f') * f) + 2 * (f - f') * (2 * (f - f')) * (L * s - f * f) = (L * (s - s') - 2 * (f - f') * f') * (L * (s - s') - 2 * (f - f') * f') + 2 * (f - f') * (2 * (f - f')) * (L * s' - f' * f') := by grind
  rw [e]
theorem rF_crit {L n d n' d' f s f' s' : Int} (hL : 0 < L) (hd : 0 < d) (hd' : 0 < d') (hl : frB L n' d' f s = true) (hk : frB L n' d' f' s' = true)
    (hm : 0 < f - f' → 0 ≤ L * (s - s') → L * (s - s') ≤ 2 * (f - f') * L → isIn L n d f' s' (L * (s - s')) (2 * (f - f')) → isIn L n' d' f' s' (L * (s - s')) (2 * (f - f')))
    (q : rF L n d f s f' s') : rF L n' d' f s f' s' := by
  by_cases c1 : fsB n' d' s = true
  · exact rF_fs hL hd' hk c1
  · by_cases c2 : teB L n' d' f' s' = true
    · exact rF_te hL hd' hl c2
    · by_cases g : f - f' ≤ 0 ∨ (f - f') * (f - f') * d' ≤ dD L n' d' f s ∨ (f - f') * (f - f') * d' ≤ dD L n' d' f' s'
      · exact rF_foot hL hd' hl hk c1 c2 g
      · have a0 : 0 < f - f' := by omega
        obtain ⟨r1, r2, r3, r4⟩ := mid_r hL hd' hl hk c1 c2 a0 (by omega) (by omega)
        obtain ⟨u, v, hv, _, _, h1, h2⟩ := q
        have hV : 0 < 2 * (f - f') := by omega
        have key : isIn L n d f' s' (L * (s - s')) (2 * (f - f')) := by
          rw [nbf_iff] at h2
          generalize hU : L * (s - s') = U at *
          generalize hVe : 2 * (f - f') = V at *
          by_cases t : u * V ≤ U * v
          · have h3 : isIn L n d f s u v := by
              rcases h2 with h2 | h2
              · exfalso
                have m1 : v * f * V ≤ u * V := Int.mul_le_mul_of_nonneg_right h2 (by omega)
                have m2 : U * v < V * f * v := Int.mul_lt_mul_of_pos_right r4 hv
                have e : v * f * V = V * f * v := by grind
                omega
              · exact h2
            have h4 : isIn L n d f s U V := by
              refine in_near hd hv hV h3 ?_
              have m3 : 0 ≤ v * (V * f - U) := mul_p (by omega) (by omega)
              have m4 : v * (V * f - U) ≤ V * (v * f - u) := by
                have e1 : v * (V * f - U) = v * V * f - U * v := by grind
                have e2 : V * (v * f - u) = v * V * f - u * V := by grind
                omega
              have m5 := mul_mono m4 m4 m3 (by omega)
              have e3 : v * v * ((U - V * f) * (U - V * f)) = v * (V * f - U) * (v * (V * f - U)) := by grind
              have e4 : V * V * ((u - v * f) * (u - v * f)) = V * (v * f - u) * (V * (v * f - u)) := by grind
              omega
            rw [← hU, ← hVe] at h4 ⊢
            exact mid_same.mp h4
          · refine in_near hd hv hV h1 ?_
            have m3 : 0 ≤ v * (U - V * f') := mul_p (by omega) (by omega)
            have m4 : v * (U - V * f') ≤ V * (u - v * f') := by
              have e1 : v * (U - V * f') = U * v - v * V * f' := by grind
              have e2 : V * (u - v * f') = u * V - v * V * f' := by grind
              omega
            have m5 := mul_mono m4 m4 m3 (by omega)
            have e3 : v * v * ((U - V * f') * (U - V * f')) = v * (U - V * f') * (v * (U - V * f')) := by grind
            have e4 : V * V * ((u - v * f') * (u - v * f')) = V * (u - v * f') * (V * (u - v * f')) := by grind
            omega
        have h5 := hm a0 r1 r2 key
        exact rF_mid a0 r1 r2 ⟨h5, mid_same.mpr h5⟩
/-- the least square of a point and an edge -/
def lsA (L f s : Int) : Int := if 0 < f ∧ f < L then L * s - f * f else min s (s - 2 * f + L)
def lsB (L f : Int) : Int := if 0 < f ∧ f < L then L else 1
theorem fr_ls {L n d f s : Int} (hL : 0 < L) (hd : 0 < d) : frB L n d f s = true ↔ lsA L f s * d ≤ lsB L f * n := by
  rw [fr_clp hL hd]
  unfold clp lsA lsB
  by_cases h0 : f ≤ 0
  · rw [if_pos h0, in_0 hL, if_neg (by omega), if_neg (by omega), Int.min_eq_left (by omega), Int.one_mul]
  · rw [if_neg h0]
    by_cases h1 : L ≤ f
    · rw [if_pos h1, in_L hL, if_neg (by omega), if_neg (by omega), Int.min_eq_right (by omega), Int.one_mul]
    · rw [if_neg h1, in_f, if_pos (by omega), if_pos (by omega)]
      unfold dD
      omega
/-- the square at the middle place of two points, above and below -/
def mdA (L f s f' s' : Int) : Int := (s' * (2 * (f - f')) - 2 * f' * (s - s')) * (2 * (f - f')) + L * (s - s') * (s - s')
theorem in_md {L n d f s f' s' : Int} (hL : 0 < L) : isIn L n d f' s' (L * (s - s')) (2 * (f - f')) ↔ mdA L f s f' s' * d ≤ (2 * (f - f')) * (2 * (f - f')) * n := by
  rw [in_e]
  have e : 2 * (f - f') * (2 * (f - f')) * L * n - ((L * (s - s') - 2 * (f - f') * f') * (L * (s - s') - 2 * (f - f') * f') + 2 * (f - f') * (2 * (f - f')) * (L * s' - f' * f')) * d = L * ((2 * (f - f')) * (2 * (f - f')) * n - mdA L f s f' s' * d) := by unfold mdA; grind
  have := pos_of (x := (2 * (f - f')) * (2 * (f - f')) * n - mdA L f s f' s' * d) hL
  omega
