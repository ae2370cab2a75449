/-! ===== calls that the class refuses ===== -/
/-- the tail of a check: STATUS is laid, the call ends -/
theorem st_r {M : MM} {r : Int32} {A B : Prop} (hs : r ≠ 0) (hB : B) : (mI (sI M 0 10 r) 0 10 = 0 → A) ∧ (¬ mI (sI M 0 10 r) 0 10 = 0 → B) :=
  br_f (by rw [mI_sI]; exact hs) hB
theorem st_a {M : MM} {r : Int32} {A B : Prop} (hs : r = 0) (hA : A) : (mI (sI M 0 10 r) 0 10 = 0 → A) ∧ (¬ mI (sI M 0 10 r) 0 10 = 0 → B) :=
  br_t (by rw [mI_sI]; exact hs) hA
theorem frb_b {q a b : Int32} {A : Int32 → Prop} (h : A (bI (frb q a b))) : (q < a → A 0) ∧ (¬ q < a → ((b < q → A 0) ∧ (¬ b < q → A 1))) := by
  unfold frb at h
  by_cases h1 : q < a
  · rw [decide_eq_false (fun q => q.1 h1)] at h; exact br_t h1 h
  · refine br_f h1 ?_
    by_cases h2 : b < q
    · rw [decide_eq_false (fun q => q.2 h2)] at h; exact br_t h2 h
    · rw [decide_eq_true ⟨h1, h2⟩] at h; exact br_f h2 h
theorem dn_b {a : Prop} [Decidable a] {A : Int32 → Prop} (h : A (bI (decide (¬ a)))) : (a → A 0) ∧ (¬ a → A 1) := by
  by_cases h1 : a
  · rw [decide_eq_false (fun q => q h1)] at h; exact br_t h1 h
  · rw [decide_eq_true h1] at h; exact br_f h1 h
theorem an_s {x y : Bool} {A : Int32 → Prop} {B : Prop} (h : A (bI (x && y))) (hB : A (bI y) → B) : (bI x = 0 → A 0) ∧ (¬ bI x = 0 → B) := by
  cases x with
  | false => exact br_t rfl h
  | true => exact br_f (by decide) (hB h)
def or2 (q : Int32) : Bool := decide (q = 0 ∨ q = 1)
theorem or2_b {q : Int32} {A : Int32 → Prop} (h : A (bI (or2 q))) : (q = 0 → A 1) ∧ (¬ q = 0 → ((q ≠ 1 → A 0) ∧ (¬ q ≠ 1 → A 1))) := by
  unfold or2 at h
  by_cases h1 : q = 0
  · rw [decide_eq_true (Or.inl h1)] at h; exact br_t h1 h
  · refine br_f h1 ?_
    by_cases h2 : q = 1
    · rw [decide_eq_true (Or.inr h2)] at h; exact br_f (fun n => n h2) h
    · rw [decide_eq_false (fun q => q.elim h1 h2)] at h; exact br_t h2 h
def or3 (q : Int32) : Bool := decide (q = -1 ∨ q = 0 ∨ q = 1)
theorem or3_b {q : Int32} {A : Int32 → Prop} (h : A (bI (or3 q))) : (q = -1 → A 1) ∧ (¬ q = -1 → ((q = 0 → A 1) ∧ (¬ q = 0 → ((q ≠ 1 → A 0) ∧ (¬ q ≠ 1 → A 1))))) := by
  unfold or3 at h
  by_cases h0 : q = -1
  · rw [decide_eq_true (Or.inl h0)] at h; exact br_t h0 h
  · refine br_f h0 ?_
    by_cases h1 : q = 0
    · rw [decide_eq_true (Or.inr (Or.inl h1))] at h; exact br_t h1 h
    · refine br_f h1 ?_
      by_cases h2 : q = 1
      · rw [decide_eq_true (Or.inr (Or.inr h2))] at h; exact br_f (fun n => n h2) h
      · rw [decide_eq_false (fun q => q.elim h0 (fun q => q.elim h1 h2))] at h; exact br_t h2 h
theorem w91_p {M : MM} {l1 l2 l3 l4 l5 : Int32} {P : Int32 → MM → Prop} (h : w91_27 0 l1 l2 l3 l4 l5 (some 0) (some 0) (bI (lsb l3 l4 && frb l5 0 2)) M P) : w91 0 l1 l2 l3 l4 l5 M P :=
  w74_s (an_s (A := fun q => w91_27 0 l1 l2 l3 l4 l5 (some 0) (some 0) q M P) h (fun h => frb_b (A := fun q => w91_27 0 l1 l2 l3 l4 l5 (some 0) (some 0) q M P) h))
theorem w91_27_r {M : MM} {k : Nat} {c : Nat → Nat} {l1 l2 l3 l4 l5 : Int32} {P : Int32 → MM → Prop} {b : Bool} (h : CW M k c) (hs : (if b = true then chk2 k l1 l2 else 1) ≠ 0) (hP : P (-1) (sI M 0 10 (if b = true then chk2 k l1 l2 else 1))) : w91_27 0 l1 l2 l3 l4 l5 (some 0) (some 0) (bI b) M P :=
  ⟨0, rfl, kd_0 h.1, w62_s h ⟨0, rfl, kd_0 h.1, kd_0 h.1, st_r hs hP⟩⟩
theorem w93_p {M : MM} {l1 l2 l3 l4 l5 : Int32} {P : Int32 → MM → Prop} (h : w93_24 0 l1 l2 l3 l4 l5 (some 0) (some 0) (bI (frb l3 0 2 && lsb l4 l5)) M P) : w93 0 l1 l2 l3 l4 l5 M P :=
  w94_s (an_s (A := fun q => w93_24 0 l1 l2 l3 l4 l5 (some 0) (some 0) q M P) h (fun h => w74_s (an_s (A := fun q => w93_24 0 l1 l2 l3 l4 l5 (some 0) (some 0) q M P) (y := true) (by rw [Bool.and_true]; exact h) (fun h => h))))
theorem w93_24_r {M : MM} {k : Nat} {c : Nat → Nat} {l1 l2 l3 l4 l5 : Int32} {P : Int32 → MM → Prop} {b : Bool} (h : CW M k c) (hs : (if b = true then chk2 k l1 l2 else 1) ≠ 0) (hP : P (-1) (sI M 0 10 (if b = true then chk2 k l1 l2 else 1))) : w93_24 0 l1 l2 l3 l4 l5 (some 0) (some 0) (bI b) M P :=
  ⟨0, rfl, kd_0 h.1, w62_s h ⟨0, rfl, kd_0 h.1, kd_0 h.1, st_r hs hP⟩⟩
theorem w112_p {M : MM} {l1 l2 l3 : Int32} {P : Int32 → MM → Prop} (h : w112_21 0 l1 l2 l3 (some 0) (some 0) (bI (or3 l3)) M P) : w112 0 l1 l2 l3 M P :=
  or3_b (A := fun q => w112_21 0 l1 l2 l3 (some 0) (some 0) q M P) h
theorem w112_21_r {M : MM} {k : Nat} {c : Nat → Nat} {l1 l2 l3 : Int32} {P : Int32 → MM → Prop} {b : Bool} (h : CW M k c) (hs : (if b = true then chk2 k l1 l2 else 1) ≠ 0) (hP : P (-1) (sI M 0 10 (if b = true then chk2 k l1 l2 else 1))) : w112_21 0 l1 l2 l3 (some 0) (some 0) (bI b) M P :=
  ⟨0, rfl, kd_0 h.1, w62_s h ⟨0, rfl, kd_0 h.1, kd_0 h.1, st_r hs hP⟩⟩
theorem w115_p {M : MM} {l1 l2 l3 : Int32} {P : Int32 → MM → Prop} (h : w115_11 0 l1 l2 l3 (some 0) (some 0) (bI (decide (¬ l3 < 0))) M P) : w115 0 l1 l2 l3 M P :=
  dn_b (A := fun q => w115_11 0 l1 l2 l3 (some 0) (some 0) q M P) h
theorem w115_11_r {M : MM} {k : Nat} {c : Nat → Nat} {l1 l2 l3 : Int32} {P : Int32 → MM → Prop} {b : Bool} (h : CW M k c) (hs : (if b = true then chk2 k l1 l2 else 1) ≠ 0) (hP : P 0 (sI M 0 10 (if b = true then chk2 k l1 l2 else 1))) : w115_11 0 l1 l2 l3 (some 0) (some 0) (bI b) M P :=
  ⟨0, rfl, kd_0 h.1, w62_s h ⟨0, rfl, kd_0 h.1, kd_0 h.1, st_r hs hP⟩⟩
theorem w116_p {M : MM} {l1 l2 l3 l4 l5 l6 : Int32} {P : Int32 → MM → Prop} (h : w116_22 0 l1 l2 l3 l4 l5 l6 (some 0) (some 0) (bI (lsb l3 l4 && decide (¬ l5 < -1))) M P) : w116 0 l1 l2 l3 l4 l5 l6 M P :=
  w74_s (an_s (A := fun q => w116_22 0 l1 l2 l3 l4 l5 l6 (some 0) (some 0) q M P) h (fun h => dn_b (A := fun q => w116_22 0 l1 l2 l3 l4 l5 l6 (some 0) (some 0) q M P) h))
theorem w116_22_r {M : MM} {k : Nat} {c : Nat → Nat} {l1 l2 l3 l4 l5 l6 : Int32} {P : Int32 → MM → Prop} {b : Bool} (h : CW M k c) (hs : (if b = true then chk2 k l1 l2 else 1) ≠ 0) (hP : P (-1) (sI M 0 10 (if b = true then chk2 k l1 l2 else 1))) : w116_22 0 l1 l2 l3 l4 l5 l6 (some 0) (some 0) (bI b) M P :=
  ⟨0, rfl, kd_0 h.1, w62_s h ⟨0, rfl, kd_0 h.1, kd_0 h.1, st_r hs hP⟩⟩
theorem w118_p {M : MM} {l1 l2 l3 l4 : Int32} {P : Int32 → MM → Prop} (h : w118_12 0 l1 l2 l3 l4 (some 0) (some 0) (bI (decide (¬ l3 < -1))) M P) : w118 0 l1 l2 l3 l4 M P :=
  dn_b (A := fun q => w118_12 0 l1 l2 l3 l4 (some 0) (some 0) q M P) h
theorem w118_12_r {M : MM} {k : Nat} {c : Nat → Nat} {l1 l2 l3 l4 : Int32} {P : Int32 → MM → Prop} {b : Bool} (h : CW M k c) (hs : (if b = true then chk2 k l1 l2 else 1) ≠ 0) (hP : P (-1) (sI M 0 10 (if b = true then chk2 k l1 l2 else 1))) : w118_12 0 l1 l2 l3 l4 (some 0) (some 0) (bI b) M P :=
  ⟨0, rfl, kd_0 h.1, w62_s h ⟨0, rfl, kd_0 h.1, kd_0 h.1, st_r hs hP⟩⟩
theorem w120_p {M : MM} {l1 l2 l3 : Int32} {P : Int32 → MM → Prop} (h : w120_16 0 l1 l2 l3 (some 0) (some 0) (bI (frb l3 0 2)) M P) : w120 0 l1 l2 l3 M P :=
  frb_b (A := fun q => w120_16 0 l1 l2 l3 (some 0) (some 0) q M P) h
theorem w120_16_r {M : MM} {k : Nat} {c : Nat → Nat} {l1 l2 l3 : Int32} {P : Int32 → MM → Prop} {b : Bool} (h : CW M k c) (hs : (if b = true then chk2 k l1 l2 else 1) ≠ 0) (hP : P (-1) (sI M 0 10 (if b = true then chk2 k l1 l2 else 1))) : w120_16 0 l1 l2 l3 (some 0) (some 0) (bI b) M P :=
  ⟨0, rfl, kd_0 h.1, w62_s h ⟨0, rfl, kd_0 h.1, kd_0 h.1, st_r hs hP⟩⟩
theorem w123_p {M : MM} {l1 l2 l3 l4 l5 : Int32} {P : Int32 → MM → Prop} (h : w123_27 0 l1 l2 l3 l4 l5 (some 0) (some 0) (bI (lsb l3 l4 && frb l5 0 2)) M P) : w123 0 l1 l2 l3 l4 l5 M P :=
  w74_s (an_s (A := fun q => w123_27 0 l1 l2 l3 l4 l5 (some 0) (some 0) q M P) h (fun h => frb_b (A := fun q => w123_27 0 l1 l2 l3 l4 l5 (some 0) (some 0) q M P) h))
theorem w123_27_r {M : MM} {k : Nat} {c : Nat → Nat} {l1 l2 l3 l4 l5 : Int32} {P : Int32 → MM → Prop} {b : Bool} (h : CW M k c) (hs : (if b = true then chk2 k l1 l2 else 1) ≠ 0) (hP : P (-1) (sI M 0 10 (if b = true then chk2 k l1 l2 else 1))) : w123_27 0 l1 l2 l3 l4 l5 (some 0) (some 0) (bI b) M P :=
  ⟨0, rfl, kd_0 h.1, w62_s h ⟨0, rfl, kd_0 h.1, kd_0 h.1, st_r hs hP⟩⟩
theorem w124_p {M : MM} {l1 l2 l3 : Int32} {P : Int32 → MM → Prop} (h : w124_16 0 l1 l2 l3 (some 0) (some 0) (bI (or2 l3)) M P) : w124 0 l1 l2 l3 M P :=
  or2_b (A := fun q => w124_16 0 l1 l2 l3 (some 0) (some 0) q M P) h
theorem w124_16_r {M : MM} {k : Nat} {c : Nat → Nat} {l1 l2 l3 : Int32} {P : Int32 → MM → Prop} {b : Bool} (h : CW M k c) (hs : (if b = true then chk2 k l1 l2 else 1) ≠ 0) (hP : P (-1) (sI M 0 10 (if b = true then chk2 k l1 l2 else 1))) : w124_16 0 l1 l2 l3 (some 0) (some 0) (bI b) M P :=
  ⟨0, rfl, kd_0 h.1, w62_s h ⟨0, rfl, kd_0 h.1, kd_0 h.1, st_r hs hP⟩⟩
theorem w73_p {M : MM} {l1 l2 l3 l4 l5 l6 l7 l8 : Int32} {P : Int32 → MM → Prop} (h : w73_28 0 l1 l2 l3 l4 l5 l6 l7 l8 (some 0) (some 0) (bI (lsb l6 l7 && or2 l8)) M P) : w73 0 l1 l2 l3 l4 l5 l6 l7 l8 M P :=
  w74_s (an_s (A := fun q => w73_28 0 l1 l2 l3 l4 l5 l6 l7 l8 (some 0) (some 0) q M P) h (fun h => or2_b (A := fun q => w73_28 0 l1 l2 l3 l4 l5 l6 l7 l8 (some 0) (some 0) q M P) h))
theorem w73_28_r {M : MM} {k : Nat} {c : Nat → Nat} {l1 l2 l3 l4 l5 l6 l7 l8 : Int32} {P : Int32 → MM → Prop} {b : Bool} (h : CW M k c) (hs : (if b = true then chkS k c l1 l2 l3 l4 l5 else 1) ≠ 0) (hP : P (-1) (sI M 0 10 (if b = true then chkS k c l1 l2 l3 l4 l5 else 1))) : w73_28 0 l1 l2 l3 l4 l5 l6 l7 l8 (some 0) (some 0) (bI b) M P :=
  ⟨0, rfl, kd_0 h.1, w75_s h ⟨0, rfl, kd_0 h.1, kd_0 h.1, st_r hs hP⟩⟩
theorem w61_r {M : MM} {k : Nat} {c : Nat → Nat} {l1 l2 : Int32} {P : Int32 → MM → Prop} (h : CW M k c) (hs : (chk2 k l1 l2) ≠ 0) (hP : P (-1) (sI M 0 10 (chk2 k l1 l2))) : w61 0 l1 l2 M P :=
  ⟨kd_0 h.1, w62_s (b := true) h ⟨kd_0 h.1, kd_0 h.1, st_r hs hP⟩⟩
theorem w126_r {M : MM} {k : Nat} {c : Nat → Nat} {l1 l2 : Int32} {P : Int32 → MM → Prop} (h : CW M k c) (hs : (chk2 k l1 l2) ≠ 0) (hP : P 0 (sI M 0 10 (chk2 k l1 l2))) : w126 0 l1 l2 M P :=
  ⟨kd_0 h.1, w62_s (b := true) h ⟨kd_0 h.1, kd_0 h.1, st_r hs hP⟩⟩
theorem w127_r {M : MM} {k : Nat} {c : Nat → Nat} {l1 l2 : Int32} {P : Int32 → MM → Prop} (h : CW M k c) (hs : (chk2 k l1 l2) ≠ 0) (hP : P (-1) (sI M 0 10 (chk2 k l1 l2))) : w127 0 l1 l2 M P :=
  ⟨kd_0 h.1, w62_s (b := true) h ⟨kd_0 h.1, kd_0 h.1, st_r hs hP⟩⟩
theorem w105_r {M : MM} {k : Nat} {c : Nat → Nat} {l1 l2 l3 : Int32} {P : Int32 → MM → Prop} (h : CW M k c) (hs : (if frb l3 0 2 = true then chk2 k l1 l2 else 1) ≠ 0) (hP : P 0 (sI M 0 10 (if frb l3 0 2 = true then chk2 k l1 l2 else 1))) : w105 0 l1 l2 l3 M P :=
  w94_s ⟨kd_0 h.1, w62_s h ⟨kd_0 h.1, kd_0 h.1, st_r hs hP⟩⟩
theorem w143_r {M : MM} {k : Nat} {c : Nat → Nat} {l1 l2 l3 : Int32} {P : Int32 → MM → Prop} (h : CW M k c) (hs : (if frb l3 0 2 = true then chk2 k l1 l2 else 1) ≠ 0) (hP : P 0 (sI M 0 10 (if frb l3 0 2 = true then chk2 k l1 l2 else 1))) : w143 0 l1 l2 l3 M P :=
  w94_s ⟨kd_0 h.1, w62_s h ⟨kd_0 h.1, kd_0 h.1, st_r hs hP⟩⟩
theorem w90_r {M : MM} {k : Nat} {c : Nat → Nat} {l1 l2 l3 l4 l5 l6 l7 : Int32} {P : Int32 → MM → Prop} (h : CW M k c) (hs : (if lsb l6 l7 = true then chkS k c l1 l2 l3 l4 l5 else 1) ≠ 0) (hP : P (-1) (sI M 0 10 (if lsb l6 l7 = true then chkS k c l1 l2 l3 l4 l5 else 1))) : w90 0 l1 l2 l3 l4 l5 l6 l7 M P :=
  w74_s ⟨kd_0 h.1, w75_s h ⟨kd_0 h.1, kd_0 h.1, st_r hs hP⟩⟩
