/-! WEAK: the reference's sweeps -/
def jf (f : Nat → Nat → Bool) (ci cj di dj i j : Nat) : Bool := if (i = ci ∧ j = cj) ∨ (i = di ∧ j = dj) then (f ci cj || f di dj) else f i j
theorem jf_m {f : Nat → Nat → Bool} {ci cj di dj i j : Nat} (h : f i j = true) : jf f ci cj di dj i j = true := by
  unfold jf
  by_cases c : (i = ci ∧ j = cj) ∨ (i = di ∧ j = dj)
  · rw [if_pos c]
    rcases c with ⟨rfl, rfl⟩ | ⟨rfl, rfl⟩ <;> rw [h] <;> simp
  · rw [if_neg c]; exact h
theorem jf_c {f : Nat → Nat → Bool} {ci cj di dj : Nat} (h : f ci cj = true ∨ f di dj = true) : jf f ci cj di dj ci cj = true ∧ jf f ci cj di dj di dj = true := by
  unfold jf
  rw [if_pos (Or.inl ⟨rfl, rfl⟩), if_pos (Or.inr ⟨rfl, rfl⟩)]
  rcases h with h | h <;> rw [h] <;> simp
theorem jf_b {f : Nat → Nat → Bool} {ci cj di dj i j : Nat} (h : jf f ci cj di dj i j = true) : f i j = true ∨ ((f ci cj = true ∨ f di dj = true) ∧ ((i = ci ∧ j = cj) ∨ (i = di ∧ j = dj))) := by
  unfold jf at h
  by_cases c : (i = ci ∧ j = cj) ∨ (i = di ∧ j = dj)
  · rw [if_pos c, Bool.or_eq_true] at h; exact Or.inr ⟨h, c⟩
  · rw [if_neg c] at h; exact Or.inl h
theorem jf_e {f : Nat → Nat → Bool} {ci cj di dj : Nat} (h : f ci cj = f di dj) (i j : Nat) : jf f ci cj di dj i j = f i j := by
  unfold jf
  by_cases c : (i = ci ∧ j = cj) ∨ (i = di ∧ j = dj)
  · rw [if_pos c, h, Bool.or_self]
    rcases c with ⟨rfl, rfl⟩ | ⟨rfl, rfl⟩
    · exact h.symm
    · rfl
  · rw [if_neg c]
def SV (an bn : Nat) (G : GG) (f0 f : Nat → Nat → Bool) (D : Bool → Nat → Nat → Prop) : Prop :=
  (∀ i j, f0 i j = true → f i j = true) ∧
  (∀ i j, f i j = true → i + 1 < an ∧ j + 1 < bn ∧ Sto an bn G i j) ∧
  (∀ i j, D true i j → i + 2 < an → j + 1 < bn → gF G true (i + 1) j = true → (f0 i j = true ∨ f0 (i + 1) j = true) → f i j = true ∧ f (i + 1) j = true) ∧
  (∀ i j, D false i j → i + 1 < an → j + 2 < bn → gF G false i (j + 1) = true → (f0 i j = true ∨ f0 i (j + 1) = true) → f i j = true ∧ f i (j + 1) = true)
theorem SV_t {an bn : Nat} {G : GG} {f0 f : Nat → Nat → Bool} {D D' : Bool → Nat → Nat → Prop} {i j : Nat} (h : SV an bn G f0 f D) (h1 : i + 2 < an) (h2 : j + 1 < bn) (h3 : gF G true (i + 1) j = true) (hD : ∀ l i' j', D' l i' j' → D l i' j' ∨ (l = true ∧ i' = i ∧ j' = j)) : SV an bn G f0 (jf f i j (i + 1) j) D' := by
  have hs := Sto_t h1 h2 h3
  refine ⟨fun i' j' q => jf_m (h.1 i' j' q), fun i' j' q => ?_, fun i' j' d1 d2 d3 d4 d5 => ?_, fun i' j' d1 d2 d3 d4 d5 => ?_⟩
  · rcases jf_b q with q | ⟨q1, q2⟩
    · exact h.2.1 _ _ q
    · have hst : Sto an bn G i j := by
        rcases q1 with q1 | q1
        · exact (h.2.1 _ _ q1).2.2
        · exact hs.mpr (h.2.1 _ _ q1).2.2
      rcases q2 with ⟨rfl, rfl⟩ | ⟨rfl, rfl⟩
      · exact ⟨by omega, h2, hst⟩
      · exact ⟨by omega, h2, hs.mp hst⟩
  · rcases hD _ _ _ d1 with d | ⟨_, rfl, rfl⟩
    · have := h.2.2.1 i' j' d d2 d3 d4 d5
      exact ⟨jf_m this.1, jf_m this.2⟩
    · exact jf_c (d5.imp (h.1 _ _) (h.1 _ _))
  · rcases hD _ _ _ d1 with d | ⟨z, _⟩
    · have := h.2.2.2 i' j' d d2 d3 d4 d5
      exact ⟨jf_m this.1, jf_m this.2⟩
    · cases z
theorem SV_f {an bn : Nat} {G : GG} {f0 f : Nat → Nat → Bool} {D D' : Bool → Nat → Nat → Prop} {i j : Nat} (h : SV an bn G f0 f D) (h1 : i + 1 < an) (h2 : j + 2 < bn) (h3 : gF G false i (j + 1) = true) (hD : ∀ l i' j', D' l i' j' → D l i' j' ∨ (l = false ∧ i' = i ∧ j' = j)) : SV an bn G f0 (jf f i j i (j + 1)) D' := by
  have hs := Sto_f h1 h2 h3
  refine ⟨fun i' j' q => jf_m (h.1 i' j' q), fun i' j' q => ?_, fun i' j' d1 d2 d3 d4 d5 => ?_, fun i' j' d1 d2 d3 d4 d5 => ?_⟩
  · rcases jf_b q with q | ⟨q1, q2⟩
    · exact h.2.1 _ _ q
    · have hst : Sto an bn G i j := by
        rcases q1 with q1 | q1
        · exact (h.2.1 _ _ q1).2.2
        · exact hs.mpr (h.2.1 _ _ q1).2.2
      rcases q2 with ⟨rfl, rfl⟩ | ⟨rfl, rfl⟩
      · exact ⟨h1, by omega, hst⟩
      · exact ⟨h1, by omega, hs.mp hst⟩
  · rcases hD _ _ _ d1 with d | ⟨z, _⟩
    · have := h.2.2.1 i' j' d d2 d3 d4 d5
      exact ⟨jf_m this.1, jf_m this.2⟩
    · cases z
  · rcases hD _ _ _ d1 with d | ⟨_, rfl, rfl⟩
    · have := h.2.2.2 i' j' d d2 d3 d4 d5
      exact ⟨jf_m this.1, jf_m this.2⟩
    · exact jf_c (d5.imp (h.1 _ _) (h.1 _ _))
theorem SV_k {an bn : Nat} {G : GG} {f0 f : Nat → Nat → Bool} {D D' : Bool → Nat → Nat → Prop} (h : SV an bn G f0 f D) (h1 : ∀ i j, D' true i j → i + 2 < an → gF G true (i + 1) j = true → D true i j) (h2 : ∀ i j, D' false i j → j + 2 < bn → gF G false i (j + 1) = true → D false i j) : SV an bn G f0 f D' :=
  ⟨h.1, h.2.1, fun i j d1 d2 d3 d4 d5 => h.2.2.1 i j (h1 i j d1 d2 d4) d2 d3 d4 d5, fun i j d1 d2 d3 d4 d5 => h.2.2.2 i j (h2 i j d1 d3 d4) d2 d3 d4 d5⟩
theorem SV_fix {an bn : Nat} {G : GG} {f0 f : Nat → Nat → Bool} (h : SV an bn G f0 f allD) (he : ∀ i j, f i j = f0 i j) (h0 : f 0 0 = true) {i j : Nat} : f i j = true ↔ Sto an bn G i j := by
  constructor
  · intro q; exact (h.2.1 _ _ q).2.2
  · intro q
    refine q (fun i j => f i j = true) h0 ⟨fun i j d1 d2 d3 => ⟨fun z => (h.2.2.1 i j trivial d1 d2 d3 (Or.inl ((he _ _).symm.trans z))).2, fun z => (h.2.2.1 i j trivial d1 d2 d3 (Or.inr ((he _ _).symm.trans z))).1⟩, fun i j d1 d2 d3 => ⟨fun z => (h.2.2.2 i j trivial d1 d2 d3 (Or.inl ((he _ _).symm.trans z))).2, fun z => (h.2.2.2 i j trivial d1 d2 d3 (Or.inr ((he _ _).symm.trans z))).1⟩⟩
def sSw : Nat → Nat → Bool := sB 203 1 0 225 225
def m225 (M : MM) (f : Nat → Nat → Bool) : Prop := ∀ i j, i < 8 → j < 8 → mI M 225 (8 * i + j) = bI (f i j)
theorem i225 {M : MM} (h : Lay M) {k : Nat} (q : k < 64) : inb M 225 14 (jI (k : Int)) := by rw [← nI_j]; exact in_225 h q
theorem b_a1 (x : Bool) : bI x &&& 1 = bI x := by cases x <;> rfl
theorem m225_j {M : MM} {f : Nat → Nat → Bool} {ci cj di dj : Nat} (h : m225 M f) (c2 : cj < 8) (d2 : dj < 8) : m225 (sI (sI M 225 (8 * ci + cj) (bI (f ci cj || f di dj))) 225 (8 * di + dj) (bI (f ci cj || f di dj))) (jf f ci cj di dj) := by
  intro i j hi hj
  unfold jf
  by_cases e1 : i = di ∧ j = dj
  · rw [if_pos (Or.inr e1), gI_y ⟨rfl, by rw [e1.1, e1.2]⟩]
  · rw [gI_n (fun z => e1 (by omega))]
    by_cases e2 : i = ci ∧ j = cj
    · rw [if_pos (Or.inl e2), gI_y ⟨rfl, by rw [e2.1, e2.2]⟩]
    · rw [gI_n (fun z => e2 (by omega)), if_neg (fun z => z.elim e2 e1)]
      exact h i j hi hj
theorem w243_s {M : MM} {f : Nat → Nat → Bool} {ci cj di dj : Nat} {P : Int32 → MM → Prop} (hL : Lay M) (h : m225 M f) (c1 : ci < 8) (c2 : cj < 8) (d1 : di < 8) (d2 : dj < 8) (hX : ∀ M', Fr sSw M M' → m225 M' (jf f ci cj di dj) → P (bI (f ci cj != f di dj)) M') : w243 203 (jI ((8 * ci + cj : Nat) : Int)) (jI ((8 * di + dj : Nat) : Int)) M P := by
  have hc := h ci cj c1 c2
  have hd := h di dj d1 d2
  have hj := m225_j (di := di) (dj := dj) (ci := ci) (cj := cj) h c2 d2
  have hF : Fr sSw M (sI (sI M 225 (8 * ci + cj) (bI (f ci cj || f di dj))) 225 (8 * di + dj) (bI (f ci cj || f di dj))) := Fr_sI (Fr_sI Fr_r (sB_t2 (by omega))) (sB_t2 (by omega))
  have fin := hX _ hF hj
  have k1 : (jI ((8 * ci + cj : Nat) : Int)).toNatClampNeg = 8 * ci + cj := jI_cn (by omega)
  have k2 : (jI ((8 * di + dj : Nat) : Int)).toNatClampNeg = 8 * di + dj := jI_cn (by omega)
  have n1 := i225 hL (k := 8 * ci + cj) (by omega)
  have n2 := i225 hL (k := 8 * di + dj) (by omega)
  have g49 : ∀ v : Bool, v = (f ci cj || f di dj) → w243_49 203 (jI ((8 * ci + cj : Nat) : Int)) (jI ((8 * di + dj : Nat) : Int)) (bI (f ci cj != f di dj)) (some 225) (jI ((8 * ci + cj : Nat) : Int)) (bI v) M P := fun v hv => by
    subst hv
    refine ⟨225, rfl, n1, kd_203 hL, kd_203 hL, 225, rf_203_45 hL, n1, n2, bI_01 _, ?_⟩
    rw [k1, k2, gI_y ⟨rfl, rfl⟩, b_a1, b_a1]
    exact fin
  have g20 : w243_20 203 (jI ((8 * ci + cj : Nat) : Int)) (jI ((8 * di + dj : Nat) : Int)) (bI (f ci cj != f di dj)) M P := by
    refine ⟨kd_203 hL, kd_203 hL, 225, rf_203_45 hL, n1, ?_⟩
    rw [k1, hc]
    cases e1 : f ci cj with
    | true =>
      rw [e1] at g49
      exact br_t (by decide) (g49 true rfl)
    | false =>
      refine br_f (by decide) ⟨kd_203 hL, 225, rf_203_45 hL, n2, ?_⟩
      rw [k2, hd]
      rw [e1] at g49
      cases e2 : f di dj with
      | true => rw [e2] at g49; exact br_f (by decide) (g49 true rfl)
      | false => rw [e2] at g49; exact br_t rfl (g49 false rfl)
  refine ⟨kd_203 hL, 225, rf_203_45 hL, n1, kd_203 hL, 225, rf_203_45 hL, n2, ?_⟩
  rw [k1, k2, hc, hd]
  cases e1 : f ci cj <;> cases e2 : f di dj <;> rw [e1, e2] at g20
  · exact br_t rfl g20
  · exact br_f (by decide) g20
  · exact br_f (by decide) g20
  · exact br_t rfl g20
def RV (M1 : MM) (an bn : Nat) (G : GG) (f0 : Nat → Nat → Bool) (M : MM) (fl : Bool) (f : Nat → Nat → Bool) (D : Bool → Nat → Nat → Prop) : Prop :=
  Fr sSw M1 M ∧ m225 M f ∧ SV an bn G f0 f D ∧ (fl = false → ∀ i j, f i j = f0 i j) ∧ (fl = true → ∃ i j, i < 8 ∧ j < 8 ∧ f0 i j = false ∧ f i j = true)
/-- the flag behind a join -/
theorem RV_j {M1 M M' : MM} {an bn : Nat} {G : GG} {f0 f : Nat → Nat → Bool} {fl : Bool} {D D' : Bool → Nat → Nat → Prop} {ci cj di dj : Nat} (h : RV M1 an bn G f0 M fl f D) (hF : Fr sSw M M') (hm : m225 M' (jf f ci cj di dj)) (hS : SV an bn G f0 (jf f ci cj di dj) D') (c1 : ci < 8) (c2 : cj < 8) (d1 : di < 8) (d2 : dj < 8) : RV M1 an bn G f0 M' ((f ci cj != f di dj) || fl) (jf f ci cj di dj) D' := by
  have f0f : ∀ i j, f i j = false → f0 i j = false := fun i j q => by
    cases z : f0 i j with
    | false => rfl
    | true => rw [h.2.2.1.1 i j z] at q; cases q
  refine ⟨Fr_t h.1 hF, hm, hS, fun z => ?_, fun z => ?_⟩
  · rw [Bool.or_eq_false_iff] at z
    have e : f ci cj = f di dj := by
      have := z.1
      revert this
      cases f ci cj <;> cases f di dj <;> decide
    intro i j
    rw [jf_e e, h.2.2.2.1 z.2]
  · cases e : (f ci cj != f di dj) with
    | true =>
      cases e1 : f ci cj with
      | true =>
        cases e2 : f di dj with
        | true => rw [e1, e2] at e; cases e
        | false => exact ⟨di, dj, d1, d2, f0f _ _ e2, (jf_c (Or.inl e1)).2⟩
      | false =>
        cases e2 : f di dj with
        | true => exact ⟨ci, cj, c1, c2, f0f _ _ e1, (jf_c (Or.inr e2)).1⟩
        | false => rw [e1, e2] at e; cases e
    | false =>
      rw [e, Bool.false_or] at z
      obtain ⟨i, j, q1, q2, q3, q4⟩ := h.2.2.2.2 z
      exact ⟨i, j, q1, q2, q3, jf_m q4⟩
