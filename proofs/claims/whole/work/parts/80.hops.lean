/-! ===== HOPS: both sides ===== -/
def nxM (an bn : Nat) (h : Nat → Nat → Int) (i j : Nat) : Int :=
  if i + 1 < an then (if j + 1 < bn then min (min (h (i + 1) (j + 1)) (h (i + 1) j)) (h i (j + 1)) else h (i + 1) j) else (if j + 1 < bn then h i (j + 1) else 0)
def hv (a b : WY) (i j : Nat) : Int :=
  max (qd a i b j) (if i + 1 < wn a then (if j + 1 < wn b then min (min (hv a b (i + 1) (j + 1)) (hv a b (i + 1) j)) (hv a b i (j + 1)) else hv a b (i + 1) j) else (if j + 1 < wn b then hv a b i (j + 1) else 0))
termination_by (wn a - i) + (wn b - j)
decreasing_by all_goals omega
theorem hv_e (a b : WY) (i j : Nat) : hv a b i j = max (qd a i b j) (nxM (wn a) (wn b) (hv a b) i j) := by rw [hv.eq_def]; rfl
theorem hv_b {a b : WY} (ga : gW a) (gb : gW b) : ∀ s i j, (wn a - i) + (wn b - j) ≤ s → i < wn a → j < wn b → 0 ≤ hv a b i j ∧ hv a b i j ≤ 648 := by
  intro s
  induction s with
  | zero => intro i j h; omega
  | succ s ih =>
    intro i j h hi hj
    have q := qd_b ga gb hi hj
    rw [hv_e]
    unfold nxM
    by_cases c1 : i + 1 < wn a
    · rw [if_pos c1]
      have h1 := ih (i + 1) j (by omega) c1 hj
      by_cases c2 : j + 1 < wn b
      · rw [if_pos c2]
        have h2 := ih (i + 1) (j + 1) (by omega) c1 c2
        have h3 := ih i (j + 1) (by omega) hi c2
        omega
      · rw [if_neg c2]; omega
    · rw [if_neg c1]
      by_cases c2 : j + 1 < wn b
      · rw [if_pos c2]
        have h3 := ih i (j + 1) (by omega) hi c2
        omega
      · rw [if_neg c2]; omega
theorem hv_z {a b : WY} (ga : gW a) (gb : gW b) {i j : Nat} (hi : i < wn a) (hj : j < wn b) : 0 ≤ hv a b i j ∧ hv a b i j ≤ 648 := hv_b ga gb _ i j (Nat.le_refl _) hi hj
theorem hv_0 (a b : WY) (i j : Nat) : qd a i b j ≤ hv a b i j := by rw [hv_e]; omega
theorem hv_9 {a b : WY} : ∀ s i j, (wn a - i) + (wn b - j) ≤ s → i < wn a → j < wn b → qd a (wn a - 1) b (wn b - 1) ≤ hv a b i j := by
  intro s
  induction s with
  | zero => intro i j h; omega
  | succ s ih =>
    intro i j h hi hj
    by_cases c1 : i + 1 < wn a
    · have h1 := ih (i + 1) j (by omega) c1 hj
      rw [hv_e]
      unfold nxM
      rw [if_pos c1]
      by_cases c2 : j + 1 < wn b
      · rw [if_pos c2]
        have h2 := ih (i + 1) (j + 1) (by omega) c1 c2
        have h3 := ih i (j + 1) (by omega) hi c2
        omega
      · rw [if_neg c2]; omega
    · by_cases c2 : j + 1 < wn b
      · have h3 := ih i (j + 1) (by omega) hi c2
        rw [hv_e]
        unfold nxM
        rw [if_neg c1, if_pos c2]
        omega
      · have := hv_0 a b i j
        have e1 : wn a - 1 = i := by omega
        have e2 : wn b - 1 = j := by omega
        rw [e1, e2]
        exact this
theorem w70_s {M : MM} {x y : Int} {P : Int32 → MM → Prop} (h1 : -2147483648 ≤ x) (h2 : x < 2147483648) (h3 : -2147483648 ≤ y) (h4 : y < 2147483648) (hP : P (jI (min x y)) M) : w70 (jI x) (jI y) M P := by
  have hQ : ∀ r, r = min x y → P (jI r) M := fun r e => e ▸ hP
  simp (disch := omega) only [w70, w70_10, jI_eq, jI_le, jI_lt, jL_eq, jL_le, jL_lt, jI_l]
  exact And.intro (fun _ => hQ _ (by omega)) (fun _ => hQ _ (by omega))
theorem w42_s {M : MM} {t u i j : Nat} {a b : WY} {P : Int32 → MM → Prop} (hL : Lay M) (ht : isT t = true) (hu : isT u = true) (hA : TrC M t a) (hB : TrC M u b) (ga : gW a) (gb : gW b) (hi : i < wn a) (hj : j < wn b) (hP : P (jI (qd a i b j)) M) : w42 t (jI (i : Int)) (some u) (jI (j : Int)) M P := by
  have a2 := ga.2.1
  have b2 := gb.2.1
  have qa := hA.2 i hi
  have qb := hB.2 j hj
  refine ⟨u, rfl, kd_T hL hu, u + 1, rfx_T hL hu, inxj hL hu (by omega), kd_T hL ht, t + 1, rfx_T hL ht, inxj hL ht (by omega), kd_T hL hu, u + 2, rfy_T hL hu, inyj hL hu (by omega), kd_T hL ht, t + 2, rfy_T hL ht, inyj hL ht (by omega), ?_⟩
  rw [jI_cn (by omega), jI_cn (by omega), qa.1, qa.2, qb.1, qb.2, jI_sub, jI_sub, jI_mul, jI_mul, jI_add]
  rw [qd_sym] at hP
  exact hP
/-- the class: the least of the next three -/
def hvA (M : MM) (o : Nat) (h : Nat → Nat → Int) (an bn i j : Nat) : Prop := ∀ i' j', i' < an → j' < bn → (i < i' ∨ (i' = i ∧ j < j')) → mI M o (8 * i' + j') = jI (h i' j') ∧ 0 ≤ h i' j' ∧ h i' j' < 2147483647
def okV (an bn : Nat) (h : Nat → Nat → Int) (i j : Nat) : Int := if i < an ∧ j < bn then h i j else 2147483647
theorem w98_28_s {M : MM} {o an bn i j i0 j0 : Nat} {h : Nat → Nat → Int} {P : Int32 → MM → Prop} (hL : Lay M) (h5 : mI M 175 5 = jI ((an : Int) - 1)) (h6 : mI M 175 6 = jI ((bn : Int) - 1)) (a2 : an ≤ 8) (b2 : bn ≤ 8) (ho : ∀ k : Nat, k < 64 → inb M o 11 (jI (k : Int))) (hA : hvA M o h an bn i0 j0) (hi : i ≤ 8) (hj : j ≤ 8) (hn : i0 < i ∨ (i = i0 ∧ j0 < j)) (hP : P (jI (okV an bn h i j)) M) : w98_28 175 (some o) (jI (i : Int)) (jI (j : Int)) M P := by
  unfold okV at hP
  refine ⟨kd_175 hL, ?_⟩
  rw [h5, h6, jI_lt (by omega) (by omega) (by omega) (by omega), jI_le (by omega) (by omega) (by omega) (by omega)]
  refine ⟨fun z => ?_, fun z => ⟨kd_175 hL, fun y => ?_, fun y => ?_⟩⟩
  · rw [if_neg (by omega)] at hP; exact hP
  · rw [if_pos (by omega)] at hP
    refine ⟨o, rfl, ?_⟩
    rw [show jI (i : Int) * 8 + jI (j : Int) = jI ((8 * i + j : Nat) : Int) by rw [show (8 : Int32) = jI 8 from rfl, jI_mul, jI_add]; congr 1; omega]
    refine ⟨ho _ (by omega), ?_⟩
    rw [jI_cn (by omega), (hA i j (by omega) (by omega) hn).1]
    exact hP
  · rw [if_neg (by omega)] at hP; exact hP
theorem w97_s {M : MM} {o an bn i j : Nat} {h : Nat → Nat → Int} {P : Int32 → MM → Prop} (hL : Lay M) (h5 : mI M 175 5 = jI ((an : Int) - 1)) (h6 : mI M 175 6 = jI ((bn : Int) - 1)) (a2 : an ≤ 8) (b2 : bn ≤ 8) (ho : ∀ k : Nat, k < 64 → inb M o 11 (jI (k : Int))) (hA : hvA M o h an bn i j) (hi : i < an) (hj : j < bn) (hP : P (jI (nxM an bn h i j)) M) : w97 175 (some o) (jI (i : Int)) (jI (j : Int)) M P := by
  have ei : jI (i : Int) + 1 = jI ((i + 1 : Nat) : Int) := by rw [show (1 : Int32) = jI 1 from rfl, jI_add, c_s1]
  have ej : jI (j : Int) + 1 = jI ((j + 1 : Nat) : Int) := by rw [show (1 : Int32) = jI 1 from rfl, jI_add, c_s1]
  have bV : ∀ i' j', (i < i' ∨ (i' = i ∧ j < j')) → 0 ≤ okV an bn h i' j' ∧ okV an bn h i' j' ≤ 2147483647 := fun i' j' hn => by
    unfold okV
    by_cases c : i' < an ∧ j' < bn
    · rw [if_pos c]; have := (hA i' j' c.1 c.2 hn).2; omega
    · rw [if_neg c]; omega
  have v0 := bV (i + 1) (j + 1) (by omega)
  have v1 := bV (i + 1) j (by omega)
  have v2 := bV i (j + 1) (by omega)
  have go : ¬ (i + 1 = an ∧ j + 1 = bn) → w97_18 175 (some o) (jI (i : Int)) (jI (j : Int)) M P := fun hn => by
    refine ⟨4, br_f (by decide) ⟨kd_175 hL, br_t (by decide) (br_t (by decide) ?_)⟩⟩
    rw [ei, ej]
    refine w98_28_s hL h5 h6 a2 b2 ho hA (by omega) (by omega) (by omega) (w70_s (x := 2147483647) (by omega) (by omega) (by omega) (by omega) ?_)
    refine br_f (by decide) ⟨kd_175 hL, br_t (by decide) (br_f (by decide) ?_)⟩
    rw [ei]
    refine w98_28_s hL h5 h6 a2 b2 ho hA (by omega) (by omega) (by omega) (w70_s (by omega) (by omega) (by omega) (by omega) ?_)
    refine br_f (by decide) ⟨kd_175 hL, br_f (by decide) (br_t (by decide) ?_)⟩
    rw [ej]
    refine w98_28_s hL h5 h6 a2 b2 ho hA (by omega) (by omega) (by omega) (w70_s (by omega) (by omega) (by omega) (by omega) ?_)
    refine br_t (by decide) ?_
    have e : min (min (min 2147483647 (okV an bn h (i + 1) (j + 1))) (okV an bn h (i + 1) j)) (okV an bn h i (j + 1)) = nxM an bn h i j := by
      unfold nxM
      unfold okV at *
      by_cases c1 : i + 1 < an
      · by_cases c2 : j + 1 < bn
        · rw [if_pos c1, if_pos c2]
          rw [if_pos ⟨c1, c2⟩] at v0 ⊢
          rw [if_pos ⟨c1, hj⟩] at v1 ⊢
          rw [if_pos ⟨hi, c2⟩] at v2 ⊢
          omega
        · rw [if_pos c1, if_neg c2, if_neg (show ¬ (i + 1 < an ∧ j + 1 < bn) from fun z => c2 z.2), if_neg (show ¬ (i < an ∧ j + 1 < bn) from fun z => c2 z.2)]
          rw [if_pos ⟨c1, hj⟩] at v1 ⊢
          omega
      · by_cases c2 : j + 1 < bn
        · rw [if_neg c1, if_pos c2, if_neg (fun z => c1 z.1), if_neg (fun z => c1 z.1)]
          rw [if_pos ⟨hi, c2⟩] at v2 ⊢
          omega
        · omega
    rw [e]
    exact hP
  refine ⟨kd_175 hL, fun z => go (fun y => z ?_), fun z => ⟨kd_175 hL, fun y => go (fun x => y ?_), fun y => ?_⟩⟩
  · rw [h5]; congr 1; omega
  · rw [h6]; congr 1; omega
  · have z' : jI (i : Int) = mI M 175 5 := Classical.not_not.mp z
    have y' : jI (j : Int) = mI M 175 6 := Classical.not_not.mp y
    rw [h5, jI_eq (by omega) (by omega) (by omega) (by omega)] at z'
    rw [h6, jI_eq (by omega) (by omega) (by omega) (by omega)] at y'
    unfold nxM at hP
    rw [if_neg (by omega), if_neg (by omega)] at hP
    exact hP
