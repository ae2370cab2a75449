/-! WEAK: the class's sweeps -/
def SW (an bn : Nat) (G : GG) (x0 x : Int64) (D : Bool → Nat → Nat → Prop) : Prop :=
  (∀ p, bt x0 p = true → bt x p = true) ∧
  (∀ p, bt x p = true → ∃ i j, p = 7 * i + j ∧ i + 1 < an ∧ j + 1 < bn ∧ Sto an bn G i j) ∧
  (∀ i j, D true (i + 1) j → i + 2 < an → j + 1 < bn → gF G true (i + 1) j = true → (bt x0 (7 * i + j) = true ∨ bt x0 (7 * (i + 1) + j) = true) → bt x (7 * i + j) = true ∧ bt x (7 * (i + 1) + j) = true) ∧
  (∀ i j, D false i (j + 1) → i + 1 < an → j + 2 < bn → gF G false i (j + 1) = true → (bt x0 (7 * i + j) = true ∨ bt x0 (7 * i + (j + 1)) = true) → bt x (7 * i + j) = true ∧ bt x (7 * i + (j + 1)) = true)
theorem jn_m {x y : Int64} {c d p : Nat} (hy : ∀ p, bt y p = (bt x p || ((bt x c || bt x d) && (decide (p = c) || decide (p = d))))) (h : bt x p = true) : bt y p = true := by rw [hy, h, Bool.true_or]
theorem jn_c {x y : Int64} {c d : Nat} (hy : ∀ p, bt y p = (bt x p || ((bt x c || bt x d) && (decide (p = c) || decide (p = d))))) (h : bt x c = true ∨ bt x d = true) : bt y c = true ∧ bt y d = true := by
  have e : (bt x c || bt x d) = true := by rcases h with h | h <;> rw [h] <;> simp
  constructor
  · rw [hy, e, decide_eq_true (rfl : c = c)]; simp
  · rw [hy, e, decide_eq_true (rfl : d = d)]; simp
theorem jn_b {x y : Int64} {c d p : Nat} (hy : ∀ p, bt y p = (bt x p || ((bt x c || bt x d) && (decide (p = c) || decide (p = d))))) (h : bt y p = true) : bt x p = true ∨ ((bt x c = true ∨ bt x d = true) ∧ (p = c ∨ p = d)) := by
  rw [hy] at h
  simp only [Bool.or_eq_true, Bool.and_eq_true, decide_eq_true_eq] at h
  exact h
theorem SW_k {an bn : Nat} {G : GG} {x0 x : Int64} {D D' : Bool → Nat → Nat → Prop} (h : SW an bn G x0 x D) (hD : ∀ l i j, D' l i j → gF G l i j = true → (l = true → 0 < i) → (l = false → 0 < j) → D l i j) : SW an bn G x0 x D' :=
  ⟨h.1, h.2.1, fun i j d1 d2 d3 d4 d5 => h.2.2.1 i j (hD _ _ _ d1 d4 (fun _ => by omega) (fun w => (by cases w))) d2 d3 d4 d5, fun i j d1 d2 d3 d4 d5 => h.2.2.2 i j (hD _ _ _ d1 d4 (fun w => (by cases w)) (fun _ => by omega)) d2 d3 d4 d5⟩
theorem p7 {i j i' j' : Nat} (h : 7 * i + j = 7 * i' + j') (hj : j < 7) (hj' : j' < 7) : i = i' ∧ j = j' := by omega
theorem SW_t {an bn : Nat} {G : GG} {x0 x y : Int64} {D D' : Bool → Nat → Nat → Prop} {i j : Nat} (b7 : bn ≤ 8) (h : SW an bn G x0 x D) (h1 : i + 2 < an) (h2 : j + 1 < bn) (h3 : gF G true (i + 1) j = true)
    (hy : ∀ p, bt y p = (bt x p || ((bt x (7 * i + j) || bt x (7 * (i + 1) + j)) && (decide (p = 7 * i + j) || decide (p = 7 * (i + 1) + j))))) (hD : ∀ l i' j', D' l i' j' → D l i' j' ∨ (l = true ∧ i' = i + 1 ∧ j' = j)) : SW an bn G x0 y D' := by
  have hs := Sto_t h1 h2 h3
  refine ⟨fun p q => jn_m hy (h.1 p q), fun p q => ?_, fun i' j' d1 d2 d3 d4 d5 => ?_, fun i' j' d1 d2 d3 d4 d5 => ?_⟩
  · rcases jn_b hy q with q | ⟨q1, q2⟩
    · exact h.2.1 p q
    · have hst : Sto an bn G i j := by
        rcases q1 with q1 | q1
        · obtain ⟨i', j', e, e1, e2, e3⟩ := h.2.1 _ q1
          obtain ⟨rfl, rfl⟩ := p7 e (by omega) (by omega)
          exact e3
        · obtain ⟨i', j', e, e1, e2, e3⟩ := h.2.1 _ q1
          obtain ⟨z1, rfl⟩ := p7 e (by omega) (by omega)
          rw [← z1] at e3
          exact hs.mpr e3
      rcases q2 with q2 | q2
      · exact ⟨i, j, q2, by omega, h2, hst⟩
      · exact ⟨i + 1, j, q2, by omega, h2, hs.mp hst⟩
  · rcases hD _ _ _ d1 with d | ⟨_, z1, z2⟩
    · have := h.2.2.1 i' j' d d2 d3 d4 d5
      exact ⟨jn_m hy this.1, jn_m hy this.2⟩
    · have z1' : i' = i := by omega
      subst z1' z2
      exact jn_c hy (d5.imp (h.1 _) (h.1 _))
  · rcases hD _ _ _ d1 with d | ⟨z, _⟩
    · have := h.2.2.2 i' j' d d2 d3 d4 d5
      exact ⟨jn_m hy this.1, jn_m hy this.2⟩
    · cases z
theorem SW_f {an bn : Nat} {G : GG} {x0 x y : Int64} {D D' : Bool → Nat → Nat → Prop} {i j : Nat} (b7 : bn ≤ 8) (h : SW an bn G x0 x D) (h1 : i + 1 < an) (h2 : j + 2 < bn) (h3 : gF G false i (j + 1) = true)
    (hy : ∀ p, bt y p = (bt x p || ((bt x (7 * i + j) || bt x (7 * i + (j + 1))) && (decide (p = 7 * i + j) || decide (p = 7 * i + (j + 1)))))) (hD : ∀ l i' j', D' l i' j' → D l i' j' ∨ (l = false ∧ i' = i ∧ j' = j + 1)) : SW an bn G x0 y D' := by
  have hs := Sto_f h1 h2 h3
  refine ⟨fun p q => jn_m hy (h.1 p q), fun p q => ?_, fun i' j' d1 d2 d3 d4 d5 => ?_, fun i' j' d1 d2 d3 d4 d5 => ?_⟩
  · rcases jn_b hy q with q | ⟨q1, q2⟩
    · exact h.2.1 p q
    · have hst : Sto an bn G i j := by
        rcases q1 with q1 | q1
        · obtain ⟨i', j', e, e1, e2, e3⟩ := h.2.1 _ q1
          obtain ⟨rfl, rfl⟩ := p7 e (by omega) (by omega)
          exact e3
        · obtain ⟨i', j', e, e1, e2, e3⟩ := h.2.1 _ q1
          obtain ⟨rfl, z1⟩ := p7 e (by omega) (by omega)
          rw [← z1] at e3
          exact hs.mpr e3
      rcases q2 with q2 | q2
      · exact ⟨i, j, q2, h1, by omega, hst⟩
      · exact ⟨i, j + 1, q2, h1, by omega, hs.mp hst⟩
  · rcases hD _ _ _ d1 with d | ⟨z, _⟩
    · have := h.2.2.1 i' j' d d2 d3 d4 d5
      exact ⟨jn_m hy this.1, jn_m hy this.2⟩
    · cases z
  · rcases hD _ _ _ d1 with d | ⟨_, z1, z2⟩
    · have := h.2.2.2 i' j' d d2 d3 d4 d5
      exact ⟨jn_m hy this.1, jn_m hy this.2⟩
    · have z2' : j' = j := by omega
      subst z1 z2'
      exact jn_c hy (d5.imp (h.1 _) (h.1 _))
def dnE (i j : Nat) (ph : Bool) (l : Bool) (i' j' : Nat) : Prop := i' < i ∨ (i' = i ∧ j' < j) ∨ (i' = i ∧ j' = j ∧ l = true ∧ ph = true)
/-- the free flag of the two sides -/
theorem MS_fF {M : MM} {a b : WY} {n d : Int} {i j : Nat} (hM : MS M a b n d) (hi : i < wn a) (hj : j + 1 < wn b) : mI M (oF i j) 9 = bI (gF (geo a b n d) true i j) := (hM.2.2.1 i j hi hj).1.2.2.2.2.2
theorem MS_fL {M : MM} {a b : WY} {n d : Int} {i j : Nat} (hM : MS M a b n d) (hi : i + 1 < wn a) (hj : j < wn b) : mI M (oL i j) 9 = bI (gF (geo a b n d) false i j) := (hM.2.2.2 i j hi hj).1.2.2.2.2.2
theorem w101_106_s {M : MM} {a b : WY} {n d : Int} {i j : Nat} {x0 x l1 : Int64} {l7 : Int32} {k24 : Nat → Int64 → Int64 → Int64 → Int32 → MM → Prop} {k44 : Nat → Int64 → Int64 → Int64 → Int32 → Int32 → MM → Prop} {k56 : Nat → Int64 → Int64 → Int64 → Int32 → Int32 → Int32 → MM → Prop} {P : Int32 → MM → Prop} (hL : Lay M) (hM : MS M a b n d) (ga : gW a) (gb : gW b) (hi : i + 1 < wn a) (hj : j + 1 < wn b)
    (h : SW (wn a) (wn b) (geo a b n d) x0 x (dnE i j true)) (hX : ∀ y, SW (wn a) (wn b) (geo a b n d) x0 y (dnE i (j + 1) false) → k56 59 l1 y x0 l7 (jI (i : Int)) (jI ((j + 1 : Nat) : Int)) M) : w101_106 k24 k44 k56 59 l1 x x0 l7 (jI (i : Int)) (jI (j : Int)) M P := by
  have a2 := ga.2.1
  have b2 := gb.2.1
  have nx : ∀ y, SW (wn a) (wn b) (geo a b n d) x0 y (dnE i (j + 1) false) → w101_147 k24 k44 k56 59 l1 y x0 l7 (jI (i : Int)) (jI (j : Int)) M P := fun y hy => by
    have := hX y hy
    unfold w101_147
    rw [show (1 : Int32) = jI 1 from rfl, jI_add, c_s1]
    exact this
  unfold w101_106
  rw [show (0 : Int32) = jI 0 from rfl, jI_le (by omega) (by omega) (by omega) (by omega)]
  refine ⟨fun z => nx _ (SW_k h (fun l i' j' q _ _ q4 => ?_)), fun z => ?_⟩
  · unfold dnE at *
    cases l with
    | true => simp only [Bool.false_eq_true, and_true, and_false, or_false, true_and] at q ⊢; omega
    | false => have := q4 rfl; simp only [Bool.false_eq_true, and_false, false_and, or_false] at *; omega
  · obtain ⟨j, rfl⟩ : ∃ q, j = q + 1 := ⟨j - 1, by omega⟩
    refine ⟨kd_59 hL, w82_s hL (by omega) ⟨_, rfl, kd_S hL (by omega), ?_⟩⟩
    rw [MS_fL hM hi (by omega)]
    cases hf : gF (geo a b n d) false i (j + 1) with
    | false =>
      refine br_t rfl (nx _ (SW_k h (fun l i' j' q q2 _ _ => ?_)))
      unfold dnE at *
      cases l with
      | true => simp only [Bool.false_eq_true, and_true, and_false, or_false, true_and] at q ⊢; omega
      | false =>
        simp only [Bool.false_eq_true, and_false, false_and, or_false] at *
        by_cases e : i' = i ∧ j' = j + 1
        · rw [e.1, e.2, hf] at q2; cases q2
        · omega
    | true =>
      refine br_f (by decide) ?_
      rw [show jI ((j + 1 : Nat) : Int) - 1 = jI (j : Int) by rw [show (1 : Int32) = jI 1 from rfl, jI_sub]; congr 1; omega]
      refine w102_s (by omega) (by omega) (w102_s (by omega) (by omega) (w103_s (by omega) (by omega) (fun y hy => nx y (SW_f (by omega) h hi (by omega) hf hy (fun l i' j' q => ?_)))))
      unfold dnE at *
      cases l with
      | true => simp only [Bool.false_eq_true, and_true, and_false, or_false, true_and] at q ⊢; omega
      | false => simp only [Bool.false_eq_true, and_false, false_and, or_false, true_and] at *; omega
