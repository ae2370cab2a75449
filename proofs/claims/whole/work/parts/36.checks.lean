/-! ===== what calls are refused: the checks of class and reference ===== -/
def isWb (k : Nat) (w : Int32) : Bool := decide (¬ w < 0 ∧ ¬ nI k ≤ w)
def isPb (k : Nat) (c : Nat → Nat) (w i : Int32) : Bool := isWb k w && decide (¬ i < 0 ∧ ¬ nI (c w.toNatClampNeg) ≤ i)
def isEb (k : Nat) (c : Nat → Nat) (w i : Int32) : Bool := isWb k w && decide (¬ i < 0 ∧ ¬ nI (c w.toNatClampNeg - 1) ≤ i)
def chk2 (k : Nat) (w o : Int32) : Int32 := if (isWb k w && isWb k o) = true then (if w = o then 4 else 0) else 2
def lsb (n d : Int32) : Bool := decide (¬ n < 0 ∧ ¬ 100000 < n ∧ ¬ d < 1 ∧ ¬ 1000 < d)
def frb (q a b : Int32) : Bool := decide (¬ q < a ∧ ¬ b < q)
def chkS (k : Nat) (c : Nat → Nat) (w o : Int32) (l : Int32) (i j : Int32) : Int32 :=
  if (if l = 0 then isEb k c w i && isPb k c o j else isPb k c w i && isEb k c o j) = true then (if w = o then 4 else 0) else 2
/-- what the class has of its ways: how many, how many points -/
def CW (M : MM) (k : Nat) (c : Nat → Nat) : Prop := Lay M ∧ mI M 0 6 = nI k ∧ k ≤ 4 ∧ ∀ j, j < k → mI M (191 + 3 * j) 1 = nI (c j) ∧ 2 ≤ c j ∧ c j ≤ 8
/-- the same of the reference -/
def RW (M : MM) (k : Nat) (c : Nat → Nat) : Prop := Lay M ∧ mI M 203 5 = nI k ∧ k ≤ 4 ∧ ∀ j, j < k → mI M 204 (17 * j) = nI (c j) ∧ 2 ≤ c j ∧ c j ≤ 8
theorem isWb_of {k : Nat} {w : Int32} (hk : k ≤ 4) (h : isWb k w = true) : ∃ j, j < k ∧ w = nI j := by
  have q := of_decide_eq_true h
  obtain ⟨j, hj, rfl⟩ := nI_of q.1
  refine ⟨j, ?_, rfl⟩
  have := q.2
  rw [nI_leI (by omega) hj] at this
  omega
theorem isWb_in {k j : Nat} (hk : k ≤ 4) (h : j < k) : isWb k (nI j) = true := by
  refine decide_eq_true ⟨nI_pos (by omega), ?_⟩
  rw [nI_leI (by omega) (by omega)]; omega
theorem isWb_0 (w : Int32) : isWb 0 w = false := by
  refine decide_eq_false ?_
  intro q
  obtain ⟨j, hj, rfl⟩ := nI_of q.1
  exact q.2 (nI_le (Nat.zero_le _) hj)
/-- a test of two bounds -/
theorem two_b {a b : Prop} [Decidable a] [Decidable b] {P : Int32 → Prop} (h : P (bI (decide (¬ a ∧ ¬ b)))) : (a → P 0) ∧ (¬ a → ((b → P 0) ∧ (¬ b → P 1))) := by
  by_cases h1 : a
  · rw [decide_eq_false (fun q => q.1 h1)] at h
    exact br_t h1 h
  · refine br_f h1 ?_
    by_cases h2 : b
    · rw [decide_eq_false (fun q => q.2 h2)] at h
      exact br_t h2 h
    · rw [decide_eq_true ⟨h1, h2⟩] at h
      exact br_f h2 h
/-- a truth behind another one -/
theorem an_b {x : Bool} {q : Prop} {P : Int32 → Prop} {y : Bool} (h : P (bI (x && y))) (hf : x = false → P (bI false) → q) (ht : x = true → P (bI y) → q) : q := by
  cases x with
  | false => exact hf rfl h
  | true => exact ht rfl h
theorem w40_s {M : MM} {k : Nat} {c : Nat → Nat} {w : Int32} {P : Int32 → MM → Prop} (h : CW M k c) (hP : P (bI (isWb k w)) M) : w40 0 w M P := by
  have hk := kd_0 h.1
  unfold w40 w40_16 w40_17
  rw [h.2.1]
  by_cases h1 : w < 0
  · rw [isWb, decide_eq_false (fun q => q.1 h1)] at hP
    exact br_t h1 ⟨Or.inl rfl, hP⟩
  · refine br_f h1 ⟨hk, ?_⟩
    by_cases h2 : nI k ≤ w
    · rw [isWb, decide_eq_false (fun q => q.2 h2)] at hP
      exact br_t h2 ⟨Or.inl rfl, hP⟩
    · rw [isWb, decide_eq_true ⟨h1, h2⟩] at hP
      exact br_f h2 ⟨Or.inr rfl, hP⟩
theorem w45_s {M : MM} {k : Nat} {c : Nat → Nat} {w i : Int32} {P : Int32 → MM → Prop} (h : CW M k c) (hP : P (bI (isPb k c w i)) M) : w45 0 w i M P := by
  have hk := kd_0 h.1
  refine ⟨hk, w40_s h ?_⟩
  unfold w45_29 w45_30
  unfold isPb at hP
  cases hw : isWb k w with
  | false =>
    rw [hw, Bool.false_and] at hP
    exact br_t rfl ⟨Or.inl rfl, hP⟩
  | true =>
    obtain ⟨j, hj, rfl⟩ := isWb_of h.2.2.1 hw
    have hj4 : j < 4 := by have := h.2.2.1; omega
    have hc := h.2.2.2 j hj
    rw [hw, Bool.true_and, nI_clamp (by omega)] at hP
    refine br_f (by decide) ?_
    by_cases h1 : i < 0
    · rw [decide_eq_false (fun q => q.1 h1)] at hP
      exact br_t h1 ⟨Or.inl rfl, hP⟩
    · refine br_f h1 ⟨hk, 19, rf_0_5 h.1, in_19 h.1 hj4, 191 + 3 * j, ?_, kd_T h.1 (isT_way hj4), ?_⟩
      · rw [nI_clamp (by omega)]; exact rf_19 h.1 hj4
      rw [hc.1]
      by_cases h2 : nI (c j) ≤ i
      · rw [decide_eq_false (fun q => q.2 h2)] at hP
        exact br_t h2 ⟨Or.inl rfl, hP⟩
      · rw [decide_eq_true ⟨h1, h2⟩] at hP
        exact br_f h2 ⟨Or.inr rfl, hP⟩
theorem nI_sub1 {n : Nat} (h : 1 ≤ n) : nI n - 1 = nI (n - 1) := by
  obtain ⟨m, rfl⟩ : ∃ m, n = m + 1 := ⟨n - 1, by omega⟩
  rw [nI_pred]; rfl
theorem w47_s {M : MM} {k : Nat} {c : Nat → Nat} {w i : Int32} {P : Int32 → MM → Prop} (h : CW M k c) (hP : P (bI (isEb k c w i)) M) : w47 0 w i M P := by
  have hk := kd_0 h.1
  refine ⟨hk, w40_s h ?_⟩
  unfold w47_31 w47_32
  unfold isEb at hP
  cases hw : isWb k w with
  | false =>
    rw [hw, Bool.false_and] at hP
    exact br_t rfl ⟨Or.inl rfl, hP⟩
  | true =>
    obtain ⟨j, hj, rfl⟩ := isWb_of h.2.2.1 hw
    have hj4 : j < 4 := by have := h.2.2.1; omega
    have hc := h.2.2.2 j hj
    rw [hw, Bool.true_and, nI_clamp (by omega)] at hP
    refine br_f (by decide) ?_
    by_cases h1 : i < 0
    · rw [decide_eq_false (fun q => q.1 h1)] at hP
      exact br_t h1 ⟨Or.inl rfl, hP⟩
    · refine br_f h1 ⟨hk, 19, rf_0_5 h.1, in_19 h.1 hj4, 191 + 3 * j, ?_, kd_T h.1 (isT_way hj4), ?_⟩
      · rw [nI_clamp (by omega)]; exact rf_19 h.1 hj4
      rw [hc.1, nI_sub1 (by omega)]
      by_cases h2 : nI (c j - 1) ≤ i
      · rw [decide_eq_false (fun q => q.2 h2)] at hP
        exact br_t h2 ⟨Or.inl rfl, hP⟩
      · rw [decide_eq_true ⟨h1, h2⟩] at hP
        exact br_f h2 ⟨Or.inr rfl, hP⟩
theorem w62_s {M : MM} {k : Nat} {c : Nat → Nat} {b : Bool} {w o : Int32} {P : Int32 → MM → Prop} (h : CW M k c) (hP : P (if b = true then chk2 k w o else 1) M) : w62 0 (bI b) w o M P := by
  have hk := kd_0 h.1
  unfold w62 w62_22 w62_34
  cases b with
  | false => exact br_f (by decide) hP
  | true =>
    refine br_t (by decide) ⟨hk, w40_s h ?_⟩
    rw [if_pos rfl] at hP
    unfold chk2 at hP
    cases hw : isWb k w with
    | false =>
      rw [hw, Bool.false_and] at hP
      exact br_t rfl hP
    | true =>
      rw [hw, Bool.true_and] at hP
      refine br_f (by decide) ⟨hk, w40_s h ?_⟩
      cases ho : isWb k o with
      | false =>
        rw [ho] at hP
        exact br_f (by decide) hP
      | true =>
        rw [ho, if_pos rfl] at hP
        refine br_t (by decide) ?_
        by_cases e : w = o
        · rw [if_pos e] at hP
          exact br_f (fun q => q e) hP
        · rw [if_neg e] at hP
          exact br_t e hP
theorem w75_s {M : MM} {k : Nat} {c : Nat → Nat} {b : Bool} {w o l i j : Int32} {P : Int32 → MM → Prop} (h : CW M k c) (hP : P (if b = true then chkS k c w o l i j else 1) M) : w75 0 (bI b) w o l i j M P := by
  have hk := kd_0 h.1
  unfold w75 w75_35 w75_63 w75_64 w75_83
  cases b with
  | false => exact br_f (by decide) hP
  | true =>
    rw [if_pos rfl] at hP
    unfold chkS at hP
    refine br_t (by decide) ?_
    have fin : ∀ x : Bool, P (if x = true then (if w = o then 4 else 0) else 2) M → (bI x ≠ 0 → ((w ≠ o → P 0 M) ∧ (¬ w ≠ o → P 4 M))) ∧ (¬ bI x ≠ 0 → P 2 M) := by
      intro x hx
      cases x with
      | false => exact br_f (by decide) hx
      | true =>
        rw [if_pos rfl] at hx
        refine br_t (by decide) ?_
        by_cases e : w = o
        · rw [if_pos e] at hx
          exact br_f (fun q => q e) hx
        · rw [if_neg e] at hx
          exact br_t e hx
    by_cases hl : l = 0
    · rw [if_pos hl] at hP
      refine br_t hl ⟨hk, w47_s h ?_⟩
      cases h1 : isEb k c w i with
      | false => rw [h1, Bool.false_and] at hP; exact br_t rfl (fin false hP)
      | true =>
        rw [h1, Bool.true_and] at hP
        refine br_f (by decide) ⟨hk, w45_s h ?_⟩
        cases h2 : isPb k c o j with
        | false => rw [h2] at hP; exact br_t rfl (fin false hP)
        | true => rw [h2] at hP; exact br_f (by decide) (fin true hP)
    · rw [if_neg hl] at hP
      refine br_f hl ⟨hk, w45_s h ?_⟩
      cases h1 : isPb k c w i with
      | false => rw [h1, Bool.false_and] at hP; exact br_t rfl (fin false hP)
      | true =>
        rw [h1, Bool.true_and] at hP
        refine br_f (by decide) ⟨hk, w47_s h ?_⟩
        cases h2 : isEb k c o j with
        | false => rw [h2] at hP; exact br_t rfl (fin false hP)
        | true => rw [h2] at hP; exact br_f (by decide) (fin true hP)
theorem w74_s {M : MM} {n d : Int32} {P : Int32 → MM → Prop} (hP : P (bI (lsb n d)) M) : w74 n d M P := by
  unfold w74 w74_27 w74_28
  unfold lsb at hP
  by_cases h1 : n < 0
  · rw [decide_eq_false (fun q => q.1 h1)] at hP; exact br_t h1 ⟨Or.inl rfl, hP⟩
  · refine br_f h1 ?_
    by_cases h2 : 100000 < n
    · rw [decide_eq_false (fun q => q.2.1 h2)] at hP; exact br_t h2 ⟨Or.inl rfl, hP⟩
    · refine br_f h2 ?_
      by_cases h3 : d < 1
      · rw [decide_eq_false (fun q => q.2.2.1 h3)] at hP; exact br_t h3 ⟨Or.inl rfl, hP⟩
      · refine br_f h3 ?_
        by_cases h4 : 1000 < d
        · rw [decide_eq_false (fun q => q.2.2.2 h4)] at hP; exact br_t h4 ⟨Or.inl rfl, hP⟩
        · rw [decide_eq_true ⟨h1, h2, h3, h4⟩] at hP; exact br_f h4 ⟨Or.inr rfl, hP⟩
theorem w166_s {M : MM} {q a b : Int32} {P : Int32 → MM → Prop} (hP : P (bI (frb q a b)) M) : w166 q a b M P := by
  unfold w166 w166_14 w166_15
  unfold frb at hP
  by_cases h1 : q < a
  · rw [decide_eq_false (fun q => q.1 h1)] at hP; exact br_t h1 ⟨Or.inl rfl, hP⟩
  · refine br_f h1 ?_
    by_cases h2 : b < q
    · rw [decide_eq_false (fun q => q.2 h2)] at hP; exact br_t h2 ⟨Or.inl rfl, hP⟩
    · rw [decide_eq_true ⟨h1, h2⟩] at hP; exact br_f h2 ⟨Or.inr rfl, hP⟩
/-- the reference's upper bounds are those of the class, less 1 -/
theorem le_pred {n : Nat} {i : Int32} (h : n < 2 ^ 31) (hi : ¬ i < 0) : (nI n - 1 < i) ↔ nI n ≤ i := by
  obtain ⟨j, hj, rfl⟩ := nI_of hi
  rw [nI_leI h hj]
  cases n with
  | zero =>
    refine ⟨fun _ => Nat.zero_le _, fun _ => ?_⟩
    rw [Int32.lt_iff_toInt_lt, nI_toInt hj]
    have : (nI 0 - 1 : Int32).toInt = -1 := by decide
    omega
  | succ n =>
    rw [nI_pred, nI_ltI (by omega) hj]; omega
theorem frb_w {n : Nat} {w : Int32} (h : n < 2 ^ 31) : frb w 0 (nI n - 1) = decide (¬ w < 0 ∧ ¬ nI n ≤ w) := by
  unfold frb
  by_cases hw : w < 0
  · rw [decide_eq_false (fun q => q.1 hw), decide_eq_false (fun q => q.1 hw)]
  · have e := le_pred h hw
    by_cases h2 : nI n ≤ w
    · rw [decide_eq_false (fun q => q.2 (e.mpr h2)), decide_eq_false (fun q => q.2 h2)]
    · rw [decide_eq_true ⟨hw, fun q => h2 (e.mp q)⟩, decide_eq_true ⟨hw, h2⟩]
theorem w182_s {M : MM} {k : Nat} {c : Nat → Nat} {w : Int32} {P : Int32 → MM → Prop} (h : RW M k c) (hP : P (bI (isWb k w)) M) : w182 203 w M P := by
  refine ⟨kd_203 h.1, w166_s ?_⟩
  rw [h.2.1, frb_w (by have := h.2.2.1; omega)]
  exact ⟨bI_01 _, hP⟩
theorem nI_17 (j : Nat) : (17 : Int32) * nI j = nI (17 * j) := by
  show nI 17 * nI j = _
  unfold nI
  rw [Int32.ofNat_mul]
/-- POINTS of a way in the reference -/
theorem w180_s {M : MM} {k j : Nat} {c : Nat → Nat} {P : Int32 → MM → Prop} (h : RW M k c) (hj : j < k) (hP : P (nI (c j)) M) : w180 203 (nI j) M P := by
  have hk4 := h.2.2.1
  refine ⟨kd_203 h.1, 204, rf_203_0 h.1, ?_, ?_⟩
  · rw [nI_17]; exact in_204 h.1 (by omega)
  · rw [nI_17, nI_clamp (by omega), (h.2.2.2 j hj).1]; exact hP
theorem w183_s {M : MM} {k : Nat} {c : Nat → Nat} {w i : Int32} {P : Int32 → MM → Prop} (h : RW M k c) (hP : P (bI (isPb k c w i)) M) : w183 203 w i M P := by
  have hk := kd_203 h.1
  refine ⟨hk, w182_s h ?_⟩
  unfold w183_27 w183_28
  unfold isPb at hP
  cases hw : isWb k w with
  | false =>
    rw [hw, Bool.false_and] at hP
    exact br_t rfl ⟨Or.inl rfl, hP⟩
  | true =>
    obtain ⟨j, hj, rfl⟩ := isWb_of h.2.2.1 hw
    have hj4 : j < 4 := by have := h.2.2.1; omega
    have hc := h.2.2.2 j hj
    rw [hw, Bool.true_and, nI_clamp (by omega)] at hP
    refine br_f (by decide) ⟨hk, w180_s h hj (w166_s ?_)⟩
    rw [frb_w (by omega)]
    cases hq : decide (¬ i < 0 ∧ ¬ nI (c j) ≤ i) with
    | false => rw [hq] at hP; exact br_t rfl ⟨Or.inl rfl, hP⟩
    | true => rw [hq] at hP; exact br_f (by decide) ⟨Or.inr rfl, hP⟩
theorem w202_s {M : MM} {k : Nat} {c : Nat → Nat} {w o : Int32} {P : Int32 → MM → Prop} (h : RW M k c) (hP : P (chk2 k w o) M) : w202 203 w o M P := by
  have hk := kd_203 h.1
  refine ⟨hk, w182_s h ?_⟩
  unfold w202_16 w202_30
  unfold chk2 at hP
  cases hw : isWb k w with
  | false =>
    rw [hw, Bool.false_and] at hP
    exact br_t rfl hP
  | true =>
    rw [hw, Bool.true_and] at hP
    refine br_f (by decide) ⟨hk, w182_s h ?_⟩
    cases ho : isWb k o with
    | false =>
      rw [ho] at hP
      exact br_f (by decide) hP
    | true =>
      rw [ho, if_pos rfl] at hP
      refine br_t (by decide) ?_
      by_cases e : w = o
      · rw [if_pos e] at hP
        exact br_f (fun q => q e) hP
      · rw [if_neg e] at hP
        exact br_t e hP
theorem lsb_fr (n d : Int32) : lsb n d = (frb n 0 100000 && frb d 1 1000) := by
  unfold lsb frb
  by_cases h1 : n < 0
  · rw [decide_eq_false (fun q => q.1 h1), decide_eq_false (fun q => q.1 h1)]; rfl
  · by_cases h2 : 100000 < n
    · rw [decide_eq_false (fun q => q.2.1 h2), decide_eq_false (fun q => q.2 h2)]; rfl
    · rw [decide_eq_true (⟨h1, h2⟩ : ¬ n < 0 ∧ ¬ 100000 < n), Bool.true_and]
      by_cases h3 : d < 1
      · rw [decide_eq_false (fun q => q.2.2.1 h3), decide_eq_false (fun q => q.1 h3)]
      · by_cases h4 : 1000 < d
        · rw [decide_eq_false (fun q => q.2.2.2 h4), decide_eq_false (fun q => q.2 h4)]
        · rw [decide_eq_true ⟨h1, h2, h3, h4⟩, decide_eq_true ⟨h3, h4⟩]
theorem w209_s {M : MM} {n d : Int32} {P : Int32 → MM → Prop} (hP : P (bI (lsb n d)) M) : w209 n d M P := by
  refine w166_s ?_
  unfold w209_26 w209_27
  rw [lsb_fr] at hP
  cases h1 : frb n 0 100000 with
  | false => rw [h1, Bool.false_and] at hP; exact br_t rfl ⟨Or.inl rfl, hP⟩
  | true =>
    rw [h1, Bool.true_and] at hP
    refine br_f (by decide) (w166_s ?_)
    cases h2 : frb d 1 1000 with
    | false => rw [h2] at hP; exact br_t rfl ⟨Or.inl rfl, hP⟩
    | true => rw [h2] at hP; exact br_f (by decide) ⟨Or.inr rfl, hP⟩
theorem w237_s {M : MM} {k : Nat} {c : Nat → Nat} {w o n d : Int32} {P : Int32 → MM → Prop} (h : RW M k c) (hP : P (if lsb n d = true then chk2 k w o else 1) M) : w237 203 w o n d M P := by
  refine w209_s ?_
  unfold w237_19
  cases h1 : lsb n d with
  | false => rw [h1] at hP; exact br_f (by decide) hP
  | true => rw [h1, if_pos rfl] at hP; exact br_t (by decide) ⟨kd_203 h.1, w202_s h hP⟩
theorem spb {x y : Int32} {M : MM} {P : Int32 → MM → Prop} (hP : P (bI (frb x 0 18 && frb y 0 18)) M) : w284 x y M P := by
  refine w166_s ?_
  unfold w284_24 w284_25
  cases h1 : frb x 0 18 with
  | false => rw [h1, Bool.false_and] at hP; exact br_t rfl ⟨Or.inl rfl, hP⟩
  | true =>
    rw [h1, Bool.true_and] at hP
    refine br_f (by decide) (w166_s ?_)
    cases h2 : frb y 0 18 with
    | false => rw [h2] at hP; exact br_t rfl ⟨Or.inl rfl, hP⟩
    | true => rw [h2] at hP; exact br_f (by decide) ⟨Or.inr rfl, hP⟩
theorem w151_s {M : MM} {q : Int32} {P : Int32 → MM → Prop} (hP : P (bI (frb q 0 18)) M) : w151 q M P := by
  unfold w151 w151_14 w151_15
  unfold frb at hP
  by_cases h1 : q < 0
  · rw [decide_eq_false (fun q => q.1 h1)] at hP; exact br_t h1 ⟨Or.inl rfl, hP⟩
  · refine br_f h1 ?_
    by_cases h2 : 18 < q
    · rw [decide_eq_false (fun q => q.2 h2)] at hP; exact br_t h2 ⟨Or.inl rfl, hP⟩
    · rw [decide_eq_true ⟨h1, h2⟩] at hP; exact br_f h2 ⟨Or.inr rfl, hP⟩
theorem w94_s {M : MM} {q : Int32} {P : Int32 → MM → Prop} (hP : P (bI (frb q 0 2)) M) : w94 q M P := by
  unfold w94 w94_13 w94_14
  unfold frb at hP
  by_cases h1 : q < 0
  · rw [decide_eq_false (fun q => q.1 h1)] at hP; exact br_t h1 ⟨Or.inl rfl, hP⟩
  · refine br_f h1 ?_
    by_cases h2 : 2 < q
    · rw [decide_eq_false (fun q => q.2 h2)] at hP; exact br_t h2 ⟨Or.inl rfl, hP⟩
    · rw [decide_eq_true ⟨h1, h2⟩] at hP; exact br_f h2 ⟨Or.inr rfl, hP⟩
theorem nI_sub2 {n : Nat} (h : 2 ≤ n) : nI n - 2 = nI (n - 1) - 1 := by
  obtain ⟨m, rfl⟩ : ∃ m, n = m + 2 := ⟨n - 2, by omega⟩
  show nI (m + 2) - 2 = nI (m + 1) - 1
  rw [nI_pred, show nI (m + 2) = nI m + 2 from (nI_add m 2).symm, Int32.add_sub_cancel]
theorem w210_s {M : MM} {k : Nat} {c : Nat → Nat} {w o l i j : Int32} {P : Int32 → MM → Prop} (h : RW M k c) (hP : P (chkS k c w o l i j) M) : w210 203 w o l i j M P := by
  have hk := kd_203 h.1
  have hk4 := h.2.2.1
  unfold w210 w210_16 w210_58 w210_98 w210_99 w210_120
  unfold chkS at hP
  have fin : ∀ x : Bool, P (if x = true then (if w = o then 4 else 0) else 2) M → (bI x ≠ 0 → ((w ≠ o → P 0 M) ∧ (¬ w ≠ o → P 4 M))) ∧ (¬ bI x ≠ 0 → P 2 M) := by
    intro x hx
    cases x with
    | false => exact br_f (by decide) hx
    | true =>
      rw [if_pos rfl] at hx
      refine br_t (by decide) ?_
      by_cases e : w = o
      · rw [if_pos e] at hx
        exact br_f (fun q => q e) hx
      · rw [if_neg e] at hx
        exact br_t e hx
  refine ⟨hk, w182_s h ?_⟩
  unfold isPb isEb at hP
  cases hw : isWb k w with
  | false =>
    simp only [hw, Bool.false_and, ite_self] at hP
    exact br_t rfl hP
  | true =>
    refine br_f (by decide) ⟨hk, w182_s h ?_⟩
    cases ho : isWb k o with
    | false =>
      simp only [hw, ho, Bool.false_and, Bool.and_false, Bool.true_and, ite_self] at hP
      exact br_f (by decide) hP
    | true =>
      obtain ⟨a, ha, rfl⟩ := isWb_of h.2.2.1 hw
      obtain ⟨b, hb, rfl⟩ := isWb_of h.2.2.1 ho
      have hca := h.2.2.2 a ha
      have hcb := h.2.2.2 b hb
      simp only [hw, ho, Bool.true_and] at hP
      rw [nI_clamp (by omega), nI_clamp (by omega)] at hP
      refine br_t (by decide) ?_
      by_cases hl : l = 0
      · rw [if_pos hl] at hP
        refine br_t hl ⟨hk, w180_s h ha (w166_s ?_)⟩
        rw [nI_sub2 (by omega), frb_w (by omega)]
        cases h1 : decide (¬ i < 0 ∧ ¬ nI (c a - 1) ≤ i) with
        | false => rw [h1, Bool.false_and] at hP; exact br_t rfl (fin false hP)
        | true =>
          rw [h1, Bool.true_and] at hP
          refine br_f (by decide) ⟨hk, w180_s h hb (w166_s ?_)⟩
          rw [frb_w (by omega)]
          cases h2 : decide (¬ j < 0 ∧ ¬ nI (c b) ≤ j) with
          | false => rw [h2] at hP; exact br_t rfl (fin false hP)
          | true => rw [h2] at hP; exact br_f (by decide) (fin true hP)
      · rw [if_neg hl] at hP
        refine br_f hl ⟨hk, w180_s h ha (w166_s ?_)⟩
        rw [frb_w (by omega)]
        cases h1 : decide (¬ i < 0 ∧ ¬ nI (c a) ≤ i) with
        | false => rw [h1, Bool.false_and] at hP; exact br_t rfl (fin false hP)
        | true =>
          rw [h1, Bool.true_and] at hP
          refine br_f (by decide) ⟨hk, w180_s h hb (w166_s ?_)⟩
          rw [nI_sub2 (by omega), frb_w (by omega)]
          cases h2 : decide (¬ j < 0 ∧ ¬ nI (c b - 1) ≤ j) with
          | false => rw [h2] at hP; exact br_t rfl (fin false hP)
          | true => rw [h2] at hP; exact br_f (by decide) (fin true hP)
