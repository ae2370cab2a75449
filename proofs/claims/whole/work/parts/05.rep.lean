/-! ===== what the heap holds of the small machine's memory ===== -/
def tv (B b : Nat) : VV → Value
  | .inl x => .int x
  | .inr (.inl x) => .long x
  | .inr (.inr (.inl r)) => va_rf (r.map (fun o => B + o))
  | .inr (.inr (.inr _)) => .ref b
theorem tv_cat (B b : Nat) (v : VV) : (tv B b v).category = c2 v := by
  rcases v with x | x | x | x
  · rfl
  · rfl
  · cases x <;> rfl
  · rfl
def mE (B b : Nat) (cA : Nat → ClassId) (M : MM) (o : Nat) (q : Nat × Nat) : va_E :=
  if q.1 < 11 then .inr (q.1, (List.range q.2).map (fun k => tv B b (rdF M q.1 o k)))
  else if q.1 = 12 then .inl (cA 12, q.2, .inr (.inl (mL M o)))
  else if q.1 = 15 ∨ q.1 = 16 then .inl (cA q.1, q.2, .inr (.inr (.inr (.inr (fun j => (mR M o j).map (fun a => B + a))))))
  else .inl (cA q.1, q.2, .inl (mI M o))
def mW (B b : Nat) (cA : Nat → ClassId) (M : MM) : va_W := (List.range (mS M).length).map (fun o => (B + o, mE B b cA M o ((mS M).getD o (0, 0))))
theorem mW_len {B b : Nat} {cA : Nat → ClassId} {M : MM} : (mW B b cA M).length = (mS M).length := by simp [mW]
theorem mW_at {B b : Nat} {cA : Nat → ClassId} {M : MM} {o : Nat} {q : Nat × Nat} (h : (mS M)[o]? = some q) : (mW B b cA M)[o]? = some (B + o, mE B b cA M o q) := by
  obtain ⟨hl, hq⟩ := List.getElem?_eq_some_iff.mp h
  simp [mW, hl, hq]
theorem mW_ad {B b : Nat} {cA : Nat → ClassId} {M : MM} {o : Nat} {x : Nat × va_E} (h : (mW B b cA M)[o]? = some x) : x.1 = B + o ∧ o < (mS M).length := by
  have hl := (List.getElem?_eq_some_iff.mp h).1
  rw [mW_len] at hl
  have h1 : (mS M)[o]? = some (mS M)[o] := List.getElem?_eq_getElem hl
  rw [mW_at h1] at h
  exact ⟨by rw [← Option.some.inj h], hl⟩
theorem mW_D {B b : Nat} {cA : Nat → ClassId} {M : MM} : va_D (fun q : Nat => B ≤ q) (mW B b cA M) := by
  refine ⟨fun i j p q hi hj h => ?_, fun k q h => ?_⟩
  · have h1 := (mW_ad hi).1
    have h2 := (mW_ad hj).1
    omega
  · have h1 := (mW_ad h).1
    show B ≤ q.1
    omega
theorem mW_set {B b : Nat} {cA : Nat → ClassId} {M M' : MM} {o : Nat} {q : Nat × Nat} {x : va_E} (hS : mS M' = mS M) (ho : (mS M)[o]? = some q) (hx : x = mE B b cA M' o q) (hne : ∀ a, a ≠ o → ∀ r, mE B b cA M' a r = mE B b cA M a r) : (mW B b cA M).set o (B + o, x) = mW B b cA M' := by
  subst hx
  apply List.ext_getElem?
  intro i
  by_cases hi : i = o
  · subst hi
    have hl : i < (mW B b cA M).length := by rw [mW_len]; exact (List.getElem?_eq_some_iff.mp ho).1
    rw [List.getElem?_set_self hl, mW_at (M := M') (q := q) (by rw [hS]; exact ho)]
  · rw [List.getElem?_set_ne (Ne.symm hi)]
    by_cases hl : i < (mS M).length
    · have h1 : (mS M)[i]? = some (mS M)[i] := List.getElem?_eq_getElem hl
      rw [mW_at h1, mW_at (M := M') (q := (mS M)[i]) (by rw [hS]; exact h1), hne i hi]
    · rw [List.getElem?_eq_none (by rw [mW_len]; omega), List.getElem?_eq_none (by rw [mW_len, hS]; omega)]
theorem rdF_sI {M : MM} {c a k o j : Nat} {v : Int32} (h : a ≠ o ∨ k ≠ j) : rdF (sI M o j v) c a k = rdF M c a k := by
  have e1 : mI (sI M o j v) a k = mI M a k := by
    unfold mI sI up2
    dsimp only
    by_cases ha : a = o
    · rcases h with h | h
      · exact absurd ha h
      · simp [ha, h]
    · simp [ha]
  unfold rdF
  rw [e1]
  rfl
theorem rdF_sL {M : MM} {c a k o j : Nat} {v : Int64} (h : a ≠ o ∨ k ≠ j) : rdF (sL M o j v) c a k = rdF M c a k := by
  have e1 : mL (sL M o j v) a k = mL M a k := by
    unfold mL sL up2
    dsimp only
    by_cases ha : a = o
    · rcases h with h | h
      · exact absurd ha h
      · simp [ha, h]
    · simp [ha]
  unfold rdF
  rw [e1]
  rfl
theorem rdF_sR {M : MM} {c a k o j : Nat} {v : Option Nat} (h : a ≠ o ∨ k ≠ j) : rdF (sR M o j v) c a k = rdF M c a k := by
  have e1 : mR (sR M o j v) a k = mR M a k := by
    unfold mR sR up2
    dsimp only
    by_cases ha : a = o
    · rcases h with h | h
      · exact absurd ha h
      · simp [ha, h]
    · simp [ha]
  unfold rdF
  rw [e1]
  rfl
theorem mE_sI {B b : Nat} {cA : Nat → ClassId} {M : MM} {o j : Nat} {v : Int32} (a : Nat) (h : a ≠ o) (r : Nat × Nat) : mE B b cA (sI M o j v) a r = mE B b cA M a r := by
  have e1 : mI (sI M o j v) a = mI M a := by funext k; unfold mI sI up2; simp [h]
  have e2 : mL (sI M o j v) a = mL M a := rfl
  have e3 : mR (sI M o j v) a = mR M a := rfl
  unfold mE
  simp only [rdF_sI (Or.inl h), e1, e2, e3]
theorem mE_sL {B b : Nat} {cA : Nat → ClassId} {M : MM} {o j : Nat} {v : Int64} (a : Nat) (h : a ≠ o) (r : Nat × Nat) : mE B b cA (sL M o j v) a r = mE B b cA M a r := by
  have e1 : mI (sL M o j v) a = mI M a := rfl
  have e2 : mL (sL M o j v) a = mL M a := by funext k; unfold mL sL up2; simp [h]
  have e3 : mR (sL M o j v) a = mR M a := rfl
  unfold mE
  simp only [rdF_sL (Or.inl h), e1, e2, e3]
theorem mE_sR {B b : Nat} {cA : Nat → ClassId} {M : MM} {o j : Nat} {v : Option Nat} (a : Nat) (h : a ≠ o) (r : Nat × Nat) : mE B b cA (sR M o j v) a r = mE B b cA M a r := by
  have e1 : mI (sR M o j v) a = mI M a := rfl
  have e2 : mL (sR M o j v) a = mL M a := rfl
  have e3 : mR (sR M o j v) a = mR M a := by funext k; unfold mR sR up2; simp [h]
  unfold mE
  simp only [rdF_sR (Or.inl h), e1, e2, e3]
theorem rg_set {n k : Nat} {f g : Nat → Value} {v : Value} (hk : g k = v) (hn : ∀ j, j ≠ k → g j = f j) : ((List.range n).map f).set k v = (List.range n).map g := by
  apply List.ext_getElem?
  intro i
  by_cases hi : i = k
  · subst hi
    by_cases hl : i < n
    · rw [List.getElem?_set_self (by simpa using hl)]
      simp [hl, hk]
    · rw [List.getElem?_eq_none (by simp; omega), List.getElem?_eq_none (by simp; omega)]
  · rw [List.getElem?_set_ne (Ne.symm hi)]
    by_cases hl : i < n
    · simp [hl, hn i hi]
    · rw [List.getElem?_eq_none (by simp; omega), List.getElem?_eq_none (by simp; omega)]
theorem mE_new {B b : Nat} {cA : Nat → ClassId} {M : MM} {c n : Nat} (a : Nat) (h : a < (mS M).length) (r : Nat × Nat) : mE B b cA (mN M c n) a r = mE B b cA M a r := by
  have h2 : a ≠ M.1.length := Nat.ne_of_lt h
  have e1 : mI (mN M c n) a = mI M a := by unfold mI mN up1; simp [h2]
  have e2 : mL (mN M c n) a = mL M a := by unfold mL mN up1; simp [h2]
  have e3 : mR (mN M c n) a = mR M a := by unfold mR mN up1; simp [h2]
  have e4 : ∀ q k, rdF (mN M c n) q a k = rdF M q a k := fun q k => by unfold rdF; rw [e1, e2, e3]
  unfold mE
  simp only [e1, e2, e3, e4]
theorem mW_new {B b : Nat} {cA : Nat → ClassId} {M : MM} {c n : Nat} : mW B b cA (mN M c n) = mW B b cA M ++ [(B + (mS M).length, mE B b cA (mN M c n) (mS M).length (c, n))] := by
  have hs : mS (mN M c n) = mS M ++ [(c, n)] := rfl
  apply List.ext_getElem?
  intro i
  by_cases hi : i < (mS M).length
  · rw [List.getElem?_append_left (by rw [mW_len]; exact hi)]
    have h1 : (mS M)[i]? = some (mS M)[i] := List.getElem?_eq_getElem hi
    rw [mW_at h1, mW_at (M := mN M c n) (q := (mS M)[i]) (by rw [hs, List.getElem?_append_left hi]; exact h1), mE_new i hi]
  · rw [List.getElem?_append_right (by rw [mW_len]; omega), mW_len]
    by_cases he : i = (mS M).length
    · subst he
      rw [mW_at (M := mN M c n) (q := (c, n)) (by rw [hs]; simp)]
      simp
    · rw [List.getElem?_eq_none (by rw [mW_len, hs]; simp; omega), List.getElem?_eq_none (by simp; omega)]
