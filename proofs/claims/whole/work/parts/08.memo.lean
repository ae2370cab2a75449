/-! ===== fields and arrays ===== -/
theorem clOk : ∀ c, c < 11 → wCl[c]? = some (RXX c, TXX c, nF c)
  | 0, _ => rfl
  | 1, _ => rfl
  | 2, _ => rfl
  | 3, _ => rfl
  | 4, _ => rfl
  | 5, _ => rfl
  | 6, _ => rfl
  | 7, _ => rfl
  | 8, _ => rfl
  | 9, _ => rfl
  | 10, _ => rfl
  | n + 11, h => absurd h (by omega)
theorem tyOk : ∀ c, c < 11 → ∀ k, k < nF c → parseFieldDescriptor (TXX c k).2.2.1 = some (tyXX c k)
  | 0, _ => tyX0_ok
  | 1, _ => tyX1_ok
  | 2, _ => tyX2_ok
  | 3, _ => tyX3_ok
  | 4, _ => tyX4_ok
  | 5, _ => tyX5_ok
  | 6, _ => tyX6_ok
  | 7, _ => tyX7_ok
  | 8, _ => tyX8_ok
  | 9, _ => tyX9_ok
  | 10, _ => tyX10_ok
  | n + 11, h => absurd h (by omega)
theorem nmOk : ∀ c, c < 11 → ∀ a, a < nF c → ∀ b, b < nF c → a ≠ b → (TXX c a).2.1 ≠ (TXX c b).2.1
  | 0, _ => nmX0
  | 1, _ => nmX1
  | 2, _ => nmX2
  | 3, _ => nmX3
  | 4, _ => nmX4
  | 5, _ => nmX5
  | 6, _ => nmX6
  | 7, _ => nmX7
  | 8, _ => nmX8
  | 9, _ => nmX9
  | 10, _ => nmX10
  | n + 11, h => absurd h (by omega)
def tyChk (c k : Nat) : Bool := (match fT c k, tyXX c k with
  | 0, .int => true
  | 1, .long => true
  | 2, .object _ => true
  | 2, .array _ => true
  | 3, .boolean => true
  | _, _ => false) && (decide (fFin c k = (TXX c k).2.2.2) && (decide ((TXX c k).1 = cN c) && decide (RXX c = cN c)))
theorem tyChk_all : (List.range 11).all (fun c => (List.range (nF c)).all (fun k => tyChk c k)) = true := by decide +kernel
theorem tyChk_of {c k : Nat} (hc : c < 11) (hk : k < nF c) : tyChk c k = true := List.all_eq_true.mp (List.all_eq_true.mp tyChk_all c (List.mem_range.mpr hc)) k (List.mem_range.mpr hk)
theorem rxOk {c : Nat} (hc : c < 11) : RXX c = cN c := by
  match c, hc with
  | 0, _ => rfl
  | 1, _ => rfl
  | 2, _ => rfl
  | 3, _ => rfl
  | 4, _ => rfl
  | 5, _ => rfl
  | 6, _ => rfl
  | 7, _ => rfl
  | 8, _ => rfl
  | 9, _ => rfl
  | 10, _ => rfl
  | n + 11, h => exact absurd h (by omega)
theorem wsChk_all : (List.range 11).all (fun c => (u_ws (RXX c) (TXX c) (nF c)).all (fun w => decide (w ∈ lw_tbl) && goodWord w)) = true := by decide +kernel
theorem wsOk {c : Nat} (hc : c < 11) : ∀ w ∈ u_ws (RXX c) (TXX c) (nF c), w ∈ lw_good := fun w hw => by
  have h := List.all_eq_true.mp (List.all_eq_true.mp wsChk_all c (List.mem_range.mpr hc)) w hw
  simp only [Bool.and_eq_true, decide_eq_true_eq] at h
  exact List.mem_filter.mpr h
