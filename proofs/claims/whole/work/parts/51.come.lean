/-! ===== sides compared, come to: the class ===== -/
def sdE (M : MM) (o : Nat) (L f s n d : Int) : Prop := sdG M o L f s ∧ mL M o 5 = jL d ∧ mL M o 6 = jL (dD L n d f s) ∧ mI M o 7 = bI (fsB n d s) ∧ mI M o 8 = bI (teB L n d f s) ∧ mI M o 9 = bI (frB L n d f s)
theorem left_e {A x D d : Int} (hd : 0 < d) (hx : x = 0 ∨ x = -1) : sg1 (A * d) x (D * d) = sgn (sq2 A * d + x * (x * x * D)) := by
  unfold sg1
  rw [sq2_mul (by omega)]
  have e : sq2 A * (d * d) + sq2 x * (D * d) = d * (sq2 A * d + sq2 x * D) := by grind
  rw [e, sgn_mul hd]
  rcases hx with rfl | rfl
  · rw [show sq2 0 = 0 from rfl]; congr 1; omega
  · rw [show sq2 (-1) = -1 from rfl]; congr 1; omega
theorem w85_93_s {M : MM} {b o : Nat} {A x y D D' d base obase : Int} {P : Int32 → MM → Prop} (hb : kd M b 7) (ho : kd M o 7) (h5 : mL M b 5 = jL d) (h6 : mL M b 6 = jL D) (h6' : mL M o 6 = jL D') (hx : x = 0 ∨ x = -1) (hy : y = 0 ∨ y = 1 ∨ y = -1) (hA : A = base - obase) (a1 : -1296 ≤ A) (a2 : A ≤ 1296) (d0 : 0 < d) (d1 : d ≤ 1679616) (D0 : 0 ≤ D) (D1 : D ≤ 705277476864) (E0 : 0 ≤ D') (E1 : D' ≤ 705277476864)
    (hP : P (jI (clsC A x (x * x * D) y (y * y * D') d)) M) : w85_93 b (some o) (jL x) (jL y) (jL base) (jL obase) M P := by
  have hQ : ∀ r, r = clsC A x (x * x * D) y (y * y * D') d → P (jI r) M := fun r e => e ▸ hP
  have m1 := mul_b (x := A) (y := d) (B := 1296) (C := 1679616) a1 a2 (by omega) d1
  have m2 := mul_p D0 (show 0 ≤ d by omega)
  have m3 := mul_mono D1 d1 (by omega) (by omega)
  have m4 := mul_p (sqr_p A) (show 0 ≤ d by omega)
  have m5 := mul_b (x := A) (y := A) (B := 1296) (C := 1296) a1 a2 a1 a2
  have m6 := mul_mono (show A * A ≤ 1296 * 1296 by omega) d1 (by omega) (by omega)
  unfold w85_93
  simp only [hb, true_and, h5, h6, jL_sub, jL_mul, ← hA]
  refine w86_s (by omega) (by omega) (by omega) (by omega) m2 (by omega) ?_
  rw [left_e d0 hx]
  unfold clsC at hQ
  have hr : sgn (y * (y * y * D')) = if D' = 0 then 0 else y := by
    by_cases z : D' = 0
    · rw [if_pos z, z, Int.mul_zero, Int.mul_zero]; rfl
    · rw [if_neg z]
      rcases hy with rfl | rfl | rfl
      · rw [Int.zero_mul]; rfl
      · rw [sgn_p (by omega)]
      · rw [sgn_m (by omega)]
  rw [hr] at hQ
  have hW : A * A * d + x * x * D - y * y * D' = A * A * d + x * x * (x * x * D) - y * y * (y * y * D') := by
    rcases hx with rfl | rfl <;> rcases hy with rfl | rfl | rfl <;> omega
  have hs : ∀ W, sg1 W (2 * A * x) (D * d) = sg1 W (2 * A * x) (x * x * D * d) := by
    intro W
    rcases hx with rfl | rfl
    · rw [Int.mul_zero, sg1_t, sg1_t]
    · rw [show (-1 * -1 * D : Int) = D by omega]
  have bW : -4611686018427387904 < A * A * d + x * x * D - y * y * D' ∧ A * A * d + x * x * D - y * y * D' < 4611686018427387904 := by
    rcases hx with rfl | rfl <;> rcases hy with rfl | rfl | rfl <;> omega
  have bT : -4000 ≤ 2 * A * x ∧ 2 * A * x ≤ 4000 := by rcases hx with rfl | rfl <;> omega
  refine ⟨o, rfl, ho, ?_⟩
  generalize hF : sgn (sq2 A * d + x * (x * x * D)) = F at *
  have hF3 : F = 1 ∨ F = -1 ∨ F = 0 := by
    rcases sgn_c (sq2 A * d + x * (x * x * D)) with q | q | q <;> omega
  have go : ∀ z : Int, (z = if D' = 0 then 0 else y) → w85_140 b (some o) (jL x) (jL y) (jL A) (jI F) (jI z) M P := by
    intro z hz
    have z1 : -1 ≤ z ∧ z ≤ 1 := by omega
    unfold w85_140 w85_154
    simp (disch := omega) only [ho, hb, h5, h6, h6', kd_sI, kd_sL, kd_sR, true_and, and_true, Option.some.injEq, exists_eq_left', lc_le, lc_ge, lc_lt, lc_gt, lc_eq, ne_eq, jI_lit, jL_lit, jI_add, jI_sub, jI_mul, jI_neg, jL_add, jL_sub, jL_mul, jL_neg, jL_i, jI_eq, jI_le, jI_lt, jL_eq, jL_le, jL_lt, jI_l]
    repeat' (first | with_reducible refine And.intro (fun _ => ?_) (fun _ => ?_) | fail)
    · exact hQ _ (by rw [if_pos (by omega)]; omega)
    · refine w86_s bW.1 bW.2 bT.1 bT.2 m2 (by omega) ?_
      have h3 := sg1_c (A * A * d + x * x * D - y * y * D') (2 * A * x) (D * d)
      simp only [jI_lit, jL_lit, jI_add, jI_sub, jI_mul, jI_neg, jL_add, jL_sub, jL_mul, jL_neg, jL_i]
      refine hQ _ ?_
      rw [if_neg (by omega), ← hW, hs]
    · exact hQ _ (by rw [if_pos (by omega)]; omega)
  simp (disch := omega) only [h6', lc_le, lc_ge, lc_lt, lc_gt, lc_eq, ne_eq, jI_lit, jL_lit, jI_add, jI_sub, jI_mul, jI_neg, jL_add, jL_sub, jL_mul, jL_neg, jL_i, jI_eq, jI_le, jI_lt, jL_eq, jL_le, jL_lt, jI_l]
  repeat' (first | with_reducible refine And.intro (fun _ => ?_) (fun _ => ?_) | fail)
  · refine go y (by omega)
  · exact go 0 (by omega)
theorem w85_s {M : MM} {b o : Nat} {L f s f' s' n d : Int} {last : Bool} {P : Int32 → MM → Prop} (hb : kd M b 7) (ho : kd M o 7) (eb : sdE M b L f s n d) (eo : sdE M o L f' s' n d) (Bb : sdB L f s) (Bo : sdB L f' s') (hE : gE n d) (fb : frB L n d f s = true) (fo : frB L n d f' s' = true)
    (hP : ∀ r : Int, -10 < r → r < 10 → (r ≤ 0 ↔ (if last = true then k2B L n d f s f' s' else k1B L n d f s f' s') = true) → P (jI r) M) : w85 b (some o) (bI last) M P := by
  have mb := sdB_m Bb hE
  have mo := sdB_m Bo hE
  have D0 := fr_D Bb.1 hE.2.2.1 fb
  have E0 := fr_D Bb.1 hE.2.2.1 fo
  obtain ⟨⟨b0, b1, b2, b3, b4⟩, b5, b6, b7, b8, b9⟩ := eb
  obtain ⟨⟨o0, o1, o2, o3, o4⟩, o5, o6, o7, o8, o9⟩ := eo
  have hB1 := Bb
  have hB2 := Bo
  unfold sdB at hB1 hB2
  have hE' := hE
  unfold gE at hE'
  have fin : ∀ x r1 y r2 A : Int, A = (if fsB n d s = true then 0 else f) - (if last = true then (if teB L n d f' s' = true then L else f') else (if fsB n d s' = true then 0 else f')) → x = (if fsB n d s = true then 0 else -1) → r1 = (if fsB n d s = true then 0 else dD L n d f s) → y = (if last = true then (if teB L n d f' s' = true then 0 else 1) else (if fsB n d s' = true then 0 else -1)) → r2 = (if last = true then (if teB L n d f' s' = true then 0 else dD L n d f' s') else (if fsB n d s' = true then 0 else dD L n d f' s')) → P (jI (clsC A x r1 y r2 d)) M := by
    intro x r1 y r2 A hA hx h1 hy h2
    have hr : -10 < clsC A x r1 y r2 d ∧ clsC A x r1 y r2 d < 10 := by
      unfold clsC
      rcases sgn_c (sq2 A * d + x * r1) with q | q | q <;> rcases sgn_c (y * r2) with w | w | w <;> rcases sg1_c (A * A * d + x * x * r1 - y * y * r2) (2 * A * x) (r1 * d) with z | z | z <;> rw [q.2, w.2, z] <;> omega
    refine hP _ hr.1 hr.2 ?_
    cases last with
    | true =>
      rw [if_pos rfl] at hA hy h2 ⊢
      subst hA hx h1 hy h2
      exact decide_eq_true_iff.symm
    | false =>
      simp only [Bool.false_eq_true, if_false] at hA hy h2 ⊢
      subst hA hx h1 hy h2
      exact decide_eq_true_iff.symm
  have c93 : ∀ x y base obase r1 r2 : Int, (x = 0 ∨ x = -1) → (y = 0 ∨ y = 1 ∨ y = -1) → -648 ≤ base → base ≤ 648 → -648 ≤ obase → obase ≤ 648 → P (jI (clsC (base - obase) x (x * x * dD L n d f s) y (y * y * dD L n d f' s') d)) M → w85_93 b (some o) (jL x) (jL y) (jL base) (jL obase) M P := by
    intro x y base obase r1 r2 hx hy q1 q2 q3 q4 h
    exact w85_93_s hb ho b5 b6 o6 hx hy rfl (by omega) (by omega) (by omega) (by omega) D0 (by omega) E0 (by omega) h
  unfold w85 w85_14 w85_31 w85_47 w85_48 w85_65
  cases last <;> cases k1 : fsB n d s <;> cases k2 : fsB n d s' <;> cases k3 : teB L n d f' s' <;>
  · simp (disch := omega) only [b7, o7, o8, k1, k2, k3, bI_t, bI_f, hb, ho, b0, b1, o1, kd_sI, kd_sL, kd_sR, true_and, and_true, Option.some.injEq, exists_eq_left', lc_le, lc_ge, lc_lt, lc_gt, lc_eq, ne_eq, jI_lit, jL_lit, jI_add, jI_sub, jI_mul, jI_neg, jL_add, jL_sub, jL_mul, jL_neg, jL_i, jI_eq, jI_le, jI_lt, jL_eq, jL_le, jL_lt, jI_l, true_or, or_true, not_true_eq_false, not_false_eq_true]
    repeat' (first | with_reducible refine And.intro (fun _ => ?_) (fun _ => ?_) | fail)
    all_goals first
      | (exfalso; assumption)
      | exact absurd trivial (by assumption)
      | (exfalso; omega)
      | (refine c93 _ _ _ _ 0 0 (by omega) (by omega) (by omega) (by omega) (by omega) (by omega) ?_
         exact fin _ _ _ _ _ (by first | (simp only [k1, k2, k3, Bool.false_eq_true, if_true, if_false]; done) | (simp only [k1, k2, k3, Bool.false_eq_true, if_true, if_false]; omega)) (by first | (simp only [k1, k2, k3, Bool.false_eq_true, if_true, if_false]; done) | (simp only [k1, k2, k3, Bool.false_eq_true, if_true, if_false]; omega)) (by first | (simp only [k1, k2, k3, Bool.false_eq_true, if_true, if_false]; done) | (simp only [k1, k2, k3, Bool.false_eq_true, if_true, if_false]; omega)) (by first | (simp only [k1, k2, k3, Bool.false_eq_true, if_true, if_false]; done) | (simp only [k1, k2, k3, Bool.false_eq_true, if_true, if_false]; omega)) (by first | (simp only [k1, k2, k3, Bool.false_eq_true, if_true, if_false]; done) | (simp only [k1, k2, k3, Bool.false_eq_true, if_true, if_false]; omega)))
/-- the memory behind comeFrom -/
def cfM (M : MM) (o : Nat) (ob : Nat → Nat) (r : Option Nat) : MM := match r with
  | none => M
  | some k => sR M o 10 (some (ob k))
theorem w84_s {M : MM} {o a1 a2 self : Nat} {ob : Nat → Nat} {L n d f' s' : Int} {f s : Nat → Int} {fre : Bool} {ahd : Option Nat} {P : MM → Prop} (ho : kd M o 7) (h1 : kd M a1 7) (h2 : kd M a2 7) (hs : o = ob self) (hE : gE n d) (eo : sdE M o L f' s' n d) (Bo : sdB L f' s') (hfre : fre = frB L n d f' s') (hah : mR M a1 10 = ahd.map ob)
    (hb : ∀ k, ahd = some k → kd M (ob k) 7 ∧ sdE M (ob k) L (f k) (s k) n d ∧ sdB L (f k) (s k) ∧ frB L n d (f k) (s k) = true)
    (hP : P (cfM M o ob (cf fre (mR M a2 10).isSome ahd self (fun k => k1B L n d (f k) (s k) f' s') (fun k => k2B L n d (f k) (s k) f' s')))) : w84 o (some a2) (some a1) M P := by
  have h9 := eo.2.2.2.2.2
  rw [← hfre] at h9
  refine ⟨ho, ?_⟩
  rw [h9]
  unfold cf at hP
  cases hf : fre with
  | false =>
    rw [hf] at hP
    exact br_f (by decide) hP
  | true =>
    rw [hf, if_pos rfl] at hP
    refine br_t (by decide) ⟨a1, rfl, h1, a2, rfl, h2, ?_⟩
    cases h2n : mR M a2 10 with
    | some k =>
      rw [h2n, if_pos (show (some k).isSome = true from rfl)] at hP
      refine ⟨fun q => absurd q (by simp), fun _ => ⟨ho, ?_⟩⟩
      rw [hs] at hP ⊢
      exact hP
    | none =>
      rw [h2n, if_neg (by decide)] at hP
      refine ⟨fun _ => ?_, fun q => absurd rfl q⟩
      cases hd : ahd with
      | none =>
        rw [hd] at hP hah
        rw [hah]
        exact ⟨fun _ => hP, fun q => absurd rfl q⟩
      | some k =>
        rw [hd] at hP hah
        obtain ⟨q1, q2, q3, q4⟩ := hb k hd
        rw [hah]
        refine ⟨fun q => absurd q (by simp), fun _ => ⟨ob k, rfl, q1, ?_⟩⟩
        dsimp only at hP
        have fo : frB L n d f' s' = true := by rw [← hfre, hf]
        refine w85_s (last := false) q1 ho q2 eo q3 Bo hE q4 fo ?_
        intro r r1 r2 hr
        rw [if_neg (by decide)] at hr
        rw [jI_lit, jI_lt (by omega) (by omega) (by omega) (by omega)]
        by_cases c1 : k1B L n d (f k) (s k) f' s' = true
        · rw [if_pos c1] at hP
          have hr' := hr.mpr c1
          refine br_f (by omega) ⟨ho, ?_⟩
          rw [hs] at hP ⊢
          exact hP
        · rw [if_neg c1] at hP
          have hr' : ¬ r ≤ 0 := fun z => c1 (hr.mp z)
          refine br_t (by omega) ⟨q1, w85_s (last := true) q1 ho q2 eo q3 Bo hE q4 fo ?_⟩
          intro t t1 t2 ht
          rw [if_pos rfl] at ht
          rw [jI_lt (by omega) (by omega) (by omega) (by omega)]
          by_cases c2 : k2B L n d (f k) (s k) f' s' = true
          · rw [if_pos c2] at hP
            have ht' := ht.mpr c2
            exact br_f (by omega) ⟨ho, hP⟩
          · rw [if_neg c2] at hP
            have ht' : ¬ t ≤ 0 := fun z => c2 (ht.mp z)
            exact br_t (by omega) hP
