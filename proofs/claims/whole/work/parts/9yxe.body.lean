/-! ===== the tokens, from a token on ===== -/
def tkV (T : Nat → Nat) (n q : Nat) (s : PS) : Nat × PS := stT s (tk T n q) (nl T q (te T n q - q)) (wl T q (te T n q - q))
def bq (T : Nat → Nat) (n m : Nat) (s : PS) (q : Nat) : Nat × Nat × PS := if tk T n q = 4 ∧ s.1 = 0 then (0, q, s) else if (tkV T n q s).1 = 0 then prs T n m (tkV T n q s).2 (te T n q) else ((tkV T n q s).1, q, (tkV T n q s).2)
theorem prs_b {T : Nat → Nat} {n m : Nat} {s : PS} {p : Nat} : prs T n (m + 1) s p = bq T n m s (sk T n p) := rfl
theorem bq_e {T : Nat → Nat} {n m : Nat} {s : PS} {q : Nat} (h : tk T n q = 4) (h0 : s.1 = 0) : bq T n m s q = (0, q, s) := if_pos ⟨h, h0⟩
theorem bq_z {T : Nat → Nat} {n m : Nat} {s : PS} {q : Nat} (h : ¬ (tk T n q = 4 ∧ s.1 = 0)) (hf : (tkV T n q s).1 ≠ 0) : bq T n m s q = ((tkV T n q s).1, q, (tkV T n q s).2) := by unfold bq; rw [if_neg h, if_neg hf]
theorem bq_s {T : Nat → Nat} {n m : Nat} {s : PS} {q : Nat} (h : ¬ (tk T n q = 4 ∧ s.1 = 0)) (hf : (tkV T n q s).1 = 0) : bq T n (m + 1) s q = bq T n m (tkV T n q s).2 (sk T n (te T n q)) := by
  show (if tk T n q = 4 ∧ s.1 = 0 then (0, q, s) else if (tkV T n q s).1 = 0 then prs T n (m + 1) (tkV T n q s).2 (te T n q) else ((tkV T n q s).1, q, (tkV T n q s).2)) = _
  rw [if_neg h, if_pos hf, prs_b]
/-- a step takes a byte at least -/
theorem bq_n {T : Nat → Nat} {n : Nat} {s : PS} {q : Nat} (h : ¬ (tk T n q = 4 ∧ s.1 = 0)) (hf : (tkV T n q s).1 = 0) : q + 1 ≤ te T n q ∧ te T n q ≤ n ∧ q < n := by
  have k0 : tk T n q ≠ 0 := fun x => by unfold tkV at hf; rw [x, stT_0] at hf; omega
  have k4 : tk T n q ≠ 4 := fun x => by unfold tkV at hf; rw [x, stT_4 (fun y => h ⟨x, y⟩)] at hf; omega
  have qn : q < n := by have := (tk_4 (T := T) (n := n) (q := q)).2; omega
  have tb := te_b qn k0
  exact ⟨tb.1, tb.2, qn⟩
