/-! ===== calls that the reference refuses ===== -/
theorem chk2_pos {k : Nat} {w o : Int32} (h : chk2 k w o ≠ 0) : ¬ chk2 k w o ≤ 0 := by
  unfold chk2 at *
  by_cases h1 : (isWb k w && isWb k o) = true
  · rw [if_pos h1] at *
    by_cases h2 : w = o
    · rw [if_pos h2] at *; decide
    · rw [if_neg h2] at *; exact absurd rfl h
  · rw [if_neg h1] at *; decide
theorem chkS_pos {k : Nat} {c : Nat → Nat} {w o l i j : Int32} (h : chkS k c w o l i j ≠ 0) : ¬ chkS k c w o l i j ≤ 0 := by
  unfold chkS at *
  by_cases h1 : (if l = 0 then isEb k c w i && isPb k c o j else isPb k c w i && isEb k c o j) = true
  · rw [if_pos h1] at *
    by_cases h2 : w = o
    · rw [if_pos h2] at *; decide
    · rw [if_neg h2] at *; exact absurd rfl h
  · rw [if_neg h1] at *; decide
theorem if_pos' {b : Bool} {x : Int32} (hx : x ≠ 0 → ¬ x ≤ 0) (h : (if b = true then x else 1) ≠ 0) : ¬ (if b = true then x else 1) ≤ 0 := by
  cases b with
  | false => show ¬ (1 : Int32) ≤ 0; decide
  | true => rw [if_pos rfl] at *; exact hx h
theorem or2_fr (q : Int32) : or2 q = frb q 0 1 := by
  unfold or2 frb
  rw [decide_eq_decide]
  have e0 : (q = 0) ↔ q.toInt = 0 := by rw [← Int32.toInt_inj]; rfl
  have e1 : (q = 1) ↔ q.toInt = 1 := by rw [← Int32.toInt_inj]; rfl
  have l1 : (q < 0) ↔ q.toInt < 0 := by rw [Int32.lt_iff_toInt_lt]; rfl
  have l2 : (1 < q) ↔ 1 < q.toInt := by rw [Int32.lt_iff_toInt_lt]; rfl
  rw [e0, e1, l1, l2]; omega
theorem or3_fr (q : Int32) : or3 q = frb q (-1) 1 := by
  unfold or3 frb
  rw [decide_eq_decide]
  have hq1 := Int32.le_toInt q
  have hq2 := Int32.toInt_lt q
  have e0 : (q = 0) ↔ q.toInt = 0 := by rw [← Int32.toInt_inj]; rfl
  have e1 : (q = 1) ↔ q.toInt = 1 := by rw [← Int32.toInt_inj]; rfl
  have em : (q = -1) ↔ q.toInt = -1 := by rw [← Int32.toInt_inj]; rfl
  have l1 : (q < -1) ↔ q.toInt < -1 := by rw [Int32.lt_iff_toInt_lt]; rfl
  have l2 : (1 < q) ↔ 1 < q.toInt := by rw [Int32.lt_iff_toInt_lt]; rfl
  rw [e0, e1, em, l1, l2]; omega
theorem nlt_le {a b : Int32} : ¬ a < b ↔ b ≤ a := Int32.not_lt
theorem w236_p {M : MM} {k : Nat} {c : Nat → Nat} {l1 l2 l3 l4 l5 : Int32} {P : Int32 → MM → Prop} (h : RW M k c) (hq : w236_24 203 l1 l2 l3 l4 l5 (if (lsb l3 l4 && frb l5 0 2) = true then chk2 k l1 l2 else 1) M P) : w236 203 l1 l2 l3 l4 l5 M P := by
  refine ⟨kd_203 h.1, w237_s h (w166_s ?_)⟩
  cases h1 : frb l5 0 2 with
  | false => rw [h1, Bool.and_false] at hq; exact br_f (by decide) hq
  | true => rw [h1, Bool.and_true] at hq; exact br_t (by decide) hq
theorem w236_24_r {M : MM} {k : Nat} {c : Nat → Nat} {l1 l2 l3 l4 l5 : Int32} {P : Int32 → MM → Prop} {b : Bool} (h : RW M k c) (hs : (if b = true then chk2 k l1 l2 else 1) ≠ 0) (hP : P (-1) (sI M 203 9 (if b = true then chk2 k l1 l2 else 1))) : w236_24 203 l1 l2 l3 l4 l5 (if b = true then chk2 k l1 l2 else 1) M P :=
  br_f (if_pos' chk2_pos hs) ⟨kd_203 h.1, kd_203 h.1, hP⟩
theorem w238_p {M : MM} {k : Nat} {c : Nat → Nat} {l1 l2 l3 l4 l5 : Int32} {P : Int32 → MM → Prop} (h : RW M k c) (hq : w238_23 203 l1 l2 l3 l4 l5 (if (frb l3 0 2 && lsb l4 l5) = true then chk2 k l1 l2 else 1) M P) : w238 203 l1 l2 l3 l4 l5 M P := by
  refine w166_s ?_
  cases h1 : frb l3 0 2 with
  | false => rw [h1, Bool.false_and] at hq; exact br_f (by decide) hq
  | true => rw [h1, Bool.true_and] at hq; exact br_t (by decide) ⟨kd_203 h.1, w237_s h hq⟩
theorem w238_23_r {M : MM} {k : Nat} {c : Nat → Nat} {l1 l2 l3 l4 l5 : Int32} {P : Int32 → MM → Prop} {b : Bool} (h : RW M k c) (hs : (if b = true then chk2 k l1 l2 else 1) ≠ 0) (hP : P (-1) (sI M 203 9 (if b = true then chk2 k l1 l2 else 1))) : w238_23 203 l1 l2 l3 l4 l5 (if b = true then chk2 k l1 l2 else 1) M P :=
  br_f (if_pos' chk2_pos hs) ⟨kd_203 h.1, kd_203 h.1, hP⟩
theorem w244_p {M : MM} {k : Nat} {c : Nat → Nat} {l1 l2 l3 : Int32} {P : Int32 → MM → Prop} (h : RW M k c) (hq : w244_19 203 l1 l2 l3 (if (frb l3 0 2) = true then chk2 k l1 l2 else 1) M P) : w244 203 l1 l2 l3 M P := by
  refine w166_s ?_
  cases h1 : frb l3 0 2 with
  | false => rw [h1] at hq; exact br_f (by decide) hq
  | true => rw [h1, if_pos rfl] at hq; exact br_t (by decide) ⟨kd_203 h.1, w202_s h hq⟩
theorem w244_19_r {M : MM} {k : Nat} {c : Nat → Nat} {l1 l2 l3 : Int32} {P : Int32 → MM → Prop} {b : Bool} (h : RW M k c) (hs : (if b = true then chk2 k l1 l2 else 1) ≠ 0) (hP : P 0 (sI M 203 9 (if b = true then chk2 k l1 l2 else 1))) : w244_19 203 l1 l2 l3 (if b = true then chk2 k l1 l2 else 1) M P :=
  br_f (if_pos' chk2_pos hs) ⟨kd_203 h.1, kd_203 h.1, Or.inl rfl, hP⟩
theorem w250_p {M : MM} {k : Nat} {c : Nat → Nat} {l1 l2 l3 : Int32} {P : Int32 → MM → Prop} (h : RW M k c) (hq : w250_19 203 l1 l2 l3 (if (or3 l3) = true then chk2 k l1 l2 else 1) M P) : w250 203 l1 l2 l3 M P := by
  rw [or3_fr] at hq
  refine w166_s ?_
  cases h1 : frb l3 (-1) 1 with
  | false => rw [h1] at hq; exact br_f (by decide) hq
  | true => rw [h1, if_pos rfl] at hq; exact br_t (by decide) ⟨kd_203 h.1, w202_s h hq⟩
theorem w250_19_r {M : MM} {k : Nat} {c : Nat → Nat} {l1 l2 l3 : Int32} {P : Int32 → MM → Prop} {b : Bool} (h : RW M k c) (hs : (if b = true then chk2 k l1 l2 else 1) ≠ 0) (hP : P (-1) (sI M 203 9 (if b = true then chk2 k l1 l2 else 1))) : w250_19 203 l1 l2 l3 (if b = true then chk2 k l1 l2 else 1) M P :=
  br_f (if_pos' chk2_pos hs) ⟨kd_203 h.1, kd_203 h.1, hP⟩
theorem w251_p {M : MM} {k : Nat} {c : Nat → Nat} {l1 l2 l3 : Int32} {P : Int32 → MM → Prop} (h : RW M k c) (hq : w251_14 203 l1 l2 l3 (if (decide (¬ l3 < 0)) = true then chk2 k l1 l2 else 1) M P) : w251 203 l1 l2 l3 M P := by
  by_cases h1 : l3 < 0
  · rw [decide_eq_false (fun q => q h1)] at hq
    exact br_f (fun q => nlt_le.mpr q h1) hq
  · rw [decide_eq_true h1, if_pos rfl] at hq
    exact br_t (nlt_le.mp h1) ⟨kd_203 h.1, w202_s h hq⟩
theorem w251_14_r {M : MM} {k : Nat} {c : Nat → Nat} {l1 l2 l3 : Int32} {P : Int32 → MM → Prop} {b : Bool} (h : RW M k c) (hs : (if b = true then chk2 k l1 l2 else 1) ≠ 0) (hP : P 0 (sI M 203 9 (if b = true then chk2 k l1 l2 else 1))) : w251_14 203 l1 l2 l3 (if b = true then chk2 k l1 l2 else 1) M P :=
  br_f (if_pos' chk2_pos hs) ⟨kd_203 h.1, kd_203 h.1, Or.inl rfl, hP⟩
theorem w252_p {M : MM} {k : Nat} {c : Nat → Nat} {l1 l2 l3 l4 l5 l6 : Int32} {P : Int32 → MM → Prop} (h : RW M k c) (hq : w252_19 203 l1 l2 l3 l4 l5 l6 (if (lsb l3 l4 && decide (¬ l5 < -1)) = true then chk2 k l1 l2 else 1) M P) : w252 203 l1 l2 l3 l4 l5 l6 M P := by
  by_cases h1 : l5 < -1
  · rw [decide_eq_false (fun q => q h1), Bool.and_false] at hq
    exact br_f (fun q => nlt_le.mpr q h1) hq
  · rw [decide_eq_true h1, Bool.and_true] at hq
    exact br_t (nlt_le.mp h1) ⟨kd_203 h.1, w237_s h hq⟩
theorem w252_19_r {M : MM} {k : Nat} {c : Nat → Nat} {l1 l2 l3 l4 l5 l6 : Int32} {P : Int32 → MM → Prop} {b : Bool} (h : RW M k c) (hs : (if b = true then chk2 k l1 l2 else 1) ≠ 0) (hP : P (-1) (sI M 203 9 (if b = true then chk2 k l1 l2 else 1))) : w252_19 203 l1 l2 l3 l4 l5 l6 (if b = true then chk2 k l1 l2 else 1) M P :=
  br_f (if_pos' chk2_pos hs) ⟨kd_203 h.1, kd_203 h.1, hP⟩
theorem w255_p {M : MM} {k : Nat} {c : Nat → Nat} {l1 l2 l3 l4 : Int32} {P : Int32 → MM → Prop} (h : RW M k c) (hq : w255_15 203 l1 l2 l3 l4 (if (decide (¬ l3 < -1)) = true then chk2 k l1 l2 else 1) M P) : w255 203 l1 l2 l3 l4 M P := by
  by_cases h1 : l3 < -1
  · rw [decide_eq_false (fun q => q h1)] at hq
    exact br_f (fun q => nlt_le.mpr q h1) hq
  · rw [decide_eq_true h1, if_pos rfl] at hq
    exact br_t (nlt_le.mp h1) ⟨kd_203 h.1, w202_s h hq⟩
theorem w255_15_r {M : MM} {k : Nat} {c : Nat → Nat} {l1 l2 l3 l4 : Int32} {P : Int32 → MM → Prop} {b : Bool} (h : RW M k c) (hs : (if b = true then chk2 k l1 l2 else 1) ≠ 0) (hP : P (-1) (sI M 203 9 (if b = true then chk2 k l1 l2 else 1))) : w255_15 203 l1 l2 l3 l4 (if b = true then chk2 k l1 l2 else 1) M P :=
  br_f (if_pos' chk2_pos hs) ⟨kd_203 h.1, kd_203 h.1, hP⟩
theorem w257_p {M : MM} {k : Nat} {c : Nat → Nat} {l1 l2 l3 : Int32} {P : Int32 → MM → Prop} (h : RW M k c) (hq : w257_19 203 l1 l2 l3 (if (frb l3 0 2) = true then chk2 k l1 l2 else 1) M P) : w257 203 l1 l2 l3 M P := by
  refine w166_s ?_
  cases h1 : frb l3 0 2 with
  | false => rw [h1] at hq; exact br_f (by decide) hq
  | true => rw [h1, if_pos rfl] at hq; exact br_t (by decide) ⟨kd_203 h.1, w202_s h hq⟩
theorem w257_19_r {M : MM} {k : Nat} {c : Nat → Nat} {l1 l2 l3 : Int32} {P : Int32 → MM → Prop} {b : Bool} (h : RW M k c) (hs : (if b = true then chk2 k l1 l2 else 1) ≠ 0) (hP : P (-1) (sI M 203 9 (if b = true then chk2 k l1 l2 else 1))) : w257_19 203 l1 l2 l3 (if b = true then chk2 k l1 l2 else 1) M P :=
  br_f (if_pos' chk2_pos hs) ⟨kd_203 h.1, kd_203 h.1, hP⟩
theorem w259_p {M : MM} {k : Nat} {c : Nat → Nat} {l1 l2 l3 l4 l5 : Int32} {P : Int32 → MM → Prop} (h : RW M k c) (hq : w259_23 203 l1 l2 l3 l4 l5 (if (lsb l3 l4 && frb l5 0 2) = true then chk2 k l1 l2 else 1) M P) : w259 203 l1 l2 l3 l4 l5 M P := by
  refine w166_s ?_
  cases h1 : frb l5 0 2 with
  | false => rw [h1, Bool.and_false] at hq; exact br_f (by decide) hq
  | true => rw [h1, Bool.and_true] at hq; exact br_t (by decide) ⟨kd_203 h.1, w237_s h hq⟩
theorem w259_23_r {M : MM} {k : Nat} {c : Nat → Nat} {l1 l2 l3 l4 l5 : Int32} {P : Int32 → MM → Prop} {b : Bool} (h : RW M k c) (hs : (if b = true then chk2 k l1 l2 else 1) ≠ 0) (hP : P (-1) (sI M 203 9 (if b = true then chk2 k l1 l2 else 1))) : w259_23 203 l1 l2 l3 l4 l5 (if b = true then chk2 k l1 l2 else 1) M P :=
  br_f (if_pos' chk2_pos hs) ⟨kd_203 h.1, kd_203 h.1, hP⟩
theorem w260_p {M : MM} {k : Nat} {c : Nat → Nat} {l1 l2 l3 : Int32} {P : Int32 → MM → Prop} (h : RW M k c) (hq : w260_19 203 l1 l2 l3 (if (or2 l3) = true then chk2 k l1 l2 else 1) M P) : w260 203 l1 l2 l3 M P := by
  rw [or2_fr] at hq
  refine w166_s ?_
  cases h1 : frb l3 0 1 with
  | false => rw [h1] at hq; exact br_f (by decide) hq
  | true => rw [h1, if_pos rfl] at hq; exact br_t (by decide) ⟨kd_203 h.1, w202_s h hq⟩
theorem w260_19_r {M : MM} {k : Nat} {c : Nat → Nat} {l1 l2 l3 : Int32} {P : Int32 → MM → Prop} {b : Bool} (h : RW M k c) (hs : (if b = true then chk2 k l1 l2 else 1) ≠ 0) (hP : P (-1) (sI M 203 9 (if b = true then chk2 k l1 l2 else 1))) : w260_19 203 l1 l2 l3 (if b = true then chk2 k l1 l2 else 1) M P :=
  br_f (if_pos' chk2_pos hs) ⟨kd_203 h.1, kd_203 h.1, hP⟩
theorem w276_p {M : MM} {k : Nat} {c : Nat → Nat} {l1 l2 l3 : Int32} {P : Int32 → MM → Prop} (h : RW M k c) (hq : w276_19 203 l1 l2 l3 (if (frb l3 0 2) = true then chk2 k l1 l2 else 1) M P) : w276 203 l1 l2 l3 M P := by
  refine w166_s ?_
  cases h1 : frb l3 0 2 with
  | false => rw [h1] at hq; exact br_f (by decide) hq
  | true => rw [h1, if_pos rfl] at hq; exact br_t (by decide) ⟨kd_203 h.1, w202_s h hq⟩
theorem w276_19_r {M : MM} {k : Nat} {c : Nat → Nat} {l1 l2 l3 : Int32} {P : Int32 → MM → Prop} {b : Bool} (h : RW M k c) (hs : (if b = true then chk2 k l1 l2 else 1) ≠ 0) (hP : P 0 (sI M 203 9 (if b = true then chk2 k l1 l2 else 1))) : w276_19 203 l1 l2 l3 (if b = true then chk2 k l1 l2 else 1) M P :=
  br_f (if_pos' chk2_pos hs) ⟨kd_203 h.1, kd_203 h.1, Or.inl rfl, hP⟩
theorem w201_r {M : MM} {k : Nat} {c : Nat → Nat} {l1 l2 : Int32} {P : Int32 → MM → Prop} (h : RW M k c) (hs : chk2 k l1 l2 ≠ 0) (hP : P (-1) (sI M 203 9 (chk2 k l1 l2))) : w201 203 l1 l2 M P :=
  ⟨kd_203 h.1, w202_s h (br_f (chk2_pos hs) ⟨kd_203 h.1, kd_203 h.1, hP⟩)⟩
theorem w262_r {M : MM} {k : Nat} {c : Nat → Nat} {l1 l2 : Int32} {P : Int32 → MM → Prop} (h : RW M k c) (hs : chk2 k l1 l2 ≠ 0) (hP : P 0 (sI M 203 9 (chk2 k l1 l2))) : w262 203 l1 l2 M P :=
  ⟨kd_203 h.1, w202_s h (br_f (chk2_pos hs) ⟨kd_203 h.1, kd_203 h.1, Or.inl rfl, hP⟩)⟩
theorem w263_r {M : MM} {k : Nat} {c : Nat → Nat} {l1 l2 : Int32} {P : Int32 → MM → Prop} (h : RW M k c) (hs : chk2 k l1 l2 ≠ 0) (hP : P (-1) (sI M 203 9 (chk2 k l1 l2))) : w263 203 l1 l2 M P :=
  ⟨kd_203 h.1, w202_s h (br_f (chk2_pos hs) ⟨kd_203 h.1, kd_203 h.1, hP⟩)⟩
theorem w208_r {M : MM} {k : Nat} {c : Nat → Nat} {l1 l2 l3 l4 l5 l6 l7 l8 : Int32} {P : Int32 → MM → Prop} (h : RW M k c) (hs : (if (lsb l6 l7 && or2 l8) = true then chkS k c l1 l2 l3 l4 l5 else 1) ≠ 0) (hP : P (-1) (sI M 203 9 (if (lsb l6 l7 && or2 l8) = true then chkS k c l1 l2 l3 l4 l5 else 1))) : w208 203 l1 l2 l3 l4 l5 l6 l7 l8 M P := by
  rw [or2_fr] at hs hP
  refine w209_s ?_
  cases h1 : lsb l6 l7 with
  | false => rw [h1, Bool.false_and] at hP; exact br_t rfl ⟨kd_203 h.1, kd_203 h.1, hP⟩
  | true =>
    rw [h1, Bool.true_and] at hP hs
    refine br_f (by decide) (w166_s ?_)
    cases h2 : frb l8 0 1 with
    | false => rw [h2] at hP; exact br_f (by decide) ⟨kd_203 h.1, kd_203 h.1, hP⟩
    | true =>
      rw [h2, if_pos rfl] at hP hs
      exact br_t (by decide) ⟨kd_203 h.1, w210_s h (br_f (chkS_pos hs) ⟨kd_203 h.1, kd_203 h.1, hP⟩)⟩
theorem w229_r {M : MM} {k : Nat} {c : Nat → Nat} {l1 l2 l3 l4 l5 l6 l7 : Int32} {P : Int32 → MM → Prop} (h : RW M k c) (hs : (if lsb l6 l7 = true then chkS k c l1 l2 l3 l4 l5 else 1) ≠ 0) (hP : P (-1) (sI M 203 9 (if lsb l6 l7 = true then chkS k c l1 l2 l3 l4 l5 else 1))) : w229 203 l1 l2 l3 l4 l5 l6 l7 M P := by
  refine w209_s ?_
  cases h1 : lsb l6 l7 with
  | false => rw [h1] at hP; exact br_f (by decide) ⟨kd_203 h.1, kd_203 h.1, hP⟩
  | true =>
    rw [h1, if_pos rfl] at hP hs
    exact br_t (by decide) ⟨kd_203 h.1, w210_s h (br_f (chkS_pos hs) ⟨kd_203 h.1, kd_203 h.1, hP⟩)⟩
