/-! way: the reference's question -/
def wayV (a : WY) (l2 : Int32) : Int32 := if l2 = 0 then jI (wn a : Int) else if l2 = 1 then jI (sumE a (wn a - 1)) else jI (lngE a (wn a - 1) : Int)
def wayA (k : Nat) (W : Nat → WY) (l1 l2 : Int32) : Int32 × Int32 :=
  if frb l2 0 2 = true then (if isWb k l1 = true then (wayV (W l1.toNatClampNeg) l2, 0) else (-1, 2))
  else if frb l2 10 17 = true then (if isPb k (cnt W) l1 (l2 - 10) = true then (jI (wx (W l1.toNatClampNeg) (l2 - 10).toNatClampNeg), 0) else (-1, 2))
  else if frb l2 20 27 = true then (if isPb k (cnt W) l1 (l2 - 20) = true then (jI (wy (W l1.toNatClampNeg) (l2 - 20).toNatClampNeg), 0) else (-1, 2))
  else (-1, 1)
theorem frb_j {l a b : Int32} {x y : Int} (ha : a = jI x) (hb : b = jI y) (x0 : 0 ≤ x) (y0 : y < 100) (xy : x ≤ y) (h : frb l a b = true) : ∃ q : Nat, l = jI (q : Int) ∧ x ≤ (q : Int) ∧ (q : Int) ≤ y := by
  have h' := of_decide_eq_true h
  obtain ⟨z, e, z1, z2⟩ := jI_of l
  subst e ha hb
  rw [jI_lt (by omega) (by omega) (by omega) (by omega), jI_lt (by omega) (by omega) (by omega) (by omega)] at h'
  exact ⟨z.toNat, by rw [show ((z.toNat : Nat) : Int) = z by omega], by omega, by omega⟩
