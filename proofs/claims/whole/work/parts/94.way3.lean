/-! way: the reference's question -/
def wayV (a : WY) (l2 : Int32) : Int32 := if l2 = 0 then jI (wn a : Int) else if l2 = 1 then jI (sumE a (wn a - 1)) else jI (lngE a (wn a - 1) : Int)
def wayA (k : Nat) (W : Nat → WY) (l1 l2 : Int32) : Int32 × Int32 :=
  if frb l2 0 2 = true then (if isWb k l1 = true then (wayV (W l1.toNatClampNeg) l2, 0) else (-1, 2))
  else if frb l2 10 17 = true then (if isPb k (cnt W) l1 (l2 - 10) = true then (jI (wx (W l1.toNatClampNeg) (l2 - 10).toNatClampNeg), 0) else (-1, 2))
  else if frb l2 20 27 = true then (if isPb k (cnt W) l1 (l2 - 20) = true then (jI (wy (W l1.toNatClampNeg) (l2 - 20).toNatClampNeg), 0) else (-1, 2))
  else (-1, 1)
theorem frb_j {l a b : Int32} {x y : Int} (ha : a = jI x) (hb : b = jI y) (x0 : 0 ≤ x) (y0 : y < 100) (xy : x ≤ y) (h : frb l a b = true) : ∃ q : Nat, l = jI (q : Int) ∧ x ≤ (q : Int) ∧ (q : Int) ≤ y := by
  have h' := of_decide_eq_true h
  obtain ⟨z, e, z1, z2⟩ := jI_of l
  subst e ha hb
  rw [jI_lt (by omega) (by omega) (by omega) (by omega), jI_lt (by omega) (by omega) (by omega) (by omega)] at h'
  exact ⟨z.toNat, by rw [show ((z.toNat : Nat) : Int) = z by omega], by omega, by omega⟩
theorem w181_q {M : MM} {k : Nat} {W : Nat → WY} {l1 l2 : Int32} {P : Int32 → MM → Prop} (hL : Lay M) (hW : RWs M k W) (hX : ∀ M' r st, Fr sRQ M M' → mI M' 203 9 = st → (r, st) = wayA k W l1 l2 → P r M') : w181 203 l1 l2 M P := by
  have hC := RWs_RW hL hW
  have k4 := hW.2.1
  have hg : ∀ w, w < k → gW (W w) := fun w hw => (hW.2.2 w hw).1
  have md : ∀ (q : Nat) (b : Int), 0 ≤ b → b ≤ 7 → ∀ c : Int, (c = 1 ∨ c = 2) → (q : Int) = 10 * c + b → jI (q : Int) - jI (q : Int) / 10 * 10 = jI b := fun q b b0 b7 c hc e => by
    rw [show (10 : Int32) = jI 10 from rfl, jI_div (by omega) (by omega) (by omega) (by omega), jI_mul, jI_sub]; congr 1; omega
  unfold wayA at hX
  refine w166_s ?_
  cases c0 : frb l2 0 2 with
  | true =>
    rw [if_pos c0] at hX
    obtain ⟨q, rfl, q0, q1⟩ := frb_j (x := 0) (y := 2) rfl rfl (by omega) (by omega) (by omega) c0
    refine br_t (by decide) ⟨kd_203 hL, w182_s hC ?_⟩
    cases c1 : isWb k l1 with
    | false =>
      rw [if_neg (by rw [c1]; decide)] at hX
      exact br_f (by decide) ⟨kd_203 hL, kd_203 hL, hX _ _ _ (Fr_s9 Fr_r) (gI_y ⟨rfl, rfl⟩) rfl⟩
    | true =>
      rw [if_pos c1] at hX
      obtain ⟨w, hw, rfl⟩ := isWb_j k4 c1
      rw [jI_cn (by omega)] at hX
      have a1 := (hg w hw).1
      refine br_t (by decide) (br_t ?_ ⟨wn (W w) - 1 + 1, w181_115_s hL hW hw (hX _ _ _ (Fr_s9 Fr_r) (gI_y ⟨rfl, rfl⟩) rfl) (wn (W w) - 1) 0 (by omega)⟩)
      rw [show (10 : Int32) = jI 10 from rfl, jI_lt (by omega) (by omega) (by omega) (by omega)]; omega
  | false =>
    rw [if_neg (by rw [c0]; decide)] at hX
    refine br_f (by decide) (w166_s ?_)
    cases c3 : frb l2 10 17 with
    | true =>
      rw [if_pos c3] at hX
      obtain ⟨q, rfl, q0, q1⟩ := frb_j (x := 10) (y := 17) rfl rfl (by omega) (by omega) (by omega) c3
      have e10 : jI (q : Int) - 10 = jI ((q : Int) - 10) := by rw [show (10 : Int32) = jI 10 from rfl, jI_sub]
      rw [e10] at hX
      have em := md q ((q : Int) - 10) (by omega) (by omega) 1 (by omega) (by omega)
      refine br_t (by decide) ⟨kd_203 hL, w182_s hC ?_⟩
      cases c1 : isWb k l1 with
      | false =>
        rw [if_neg (by unfold isPb; rw [c1, Bool.false_and]; decide)] at hX
        exact br_f (by decide) ⟨kd_203 hL, kd_203 hL, hX _ _ _ (Fr_s9 Fr_r) (gI_y ⟨rfl, rfl⟩) rfl⟩
      | true =>
        refine br_t (by decide) (br_f ?_ ⟨by decide, kd_203 hL, ?_⟩)
        · rw [show (10 : Int32) = jI 10 from rfl, jI_lt (by omega) (by omega) (by omega) (by omega)]; omega
        rw [em]
        refine w183_s hC ?_
        cases c2 : isPb k (cnt W) l1 (jI ((q : Int) - 10)) with
        | false =>
          rw [if_neg (by rw [c2]; decide)] at hX
          exact br_f (by decide) ⟨kd_203 hL, kd_203 hL, hX _ _ _ (Fr_s9 Fr_r) (gI_y ⟨rfl, rfl⟩) rfl⟩
        | true =>
          rw [if_pos c2] at hX
          obtain ⟨w, i, rfl, ei, hw, hi, f1, f2⟩ := isPb_j k4 hg c2
          rw [f1, f2] at hX
          refine br_t (by decide) (br_f ?_ ⟨kd_203 hL, ?_⟩)
          · rw [show (20 : Int32) = jI 20 from rfl, jI_le (by omega) (by omega) (by omega) (by omega)]; omega
          rw [e10, ei]
          exact w184_q hL hW hw hi ⟨203, rfl, kd_203 hL, kd_203 hL, hX _ _ _ (Fr_s9 Fr_r) (gI_y ⟨rfl, rfl⟩) rfl⟩
    | false =>
      rw [if_neg (by rw [c3]; decide)] at hX
      refine br_f (by decide) (w166_s ?_)
      cases c4 : frb l2 20 27 with
      | true =>
        rw [if_pos c4] at hX
        obtain ⟨q, rfl, q0, q1⟩ := frb_j (x := 20) (y := 27) rfl rfl (by omega) (by omega) (by omega) c4
        have e20 : jI (q : Int) - 20 = jI ((q : Int) - 20) := by rw [show (20 : Int32) = jI 20 from rfl, jI_sub]
        rw [e20] at hX
        have em := md q ((q : Int) - 20) (by omega) (by omega) 2 (by omega) (by omega)
        refine br_t (by decide) ⟨kd_203 hL, w182_s hC ?_⟩
        cases c1 : isWb k l1 with
        | false =>
          rw [if_neg (by unfold isPb; rw [c1, Bool.false_and]; decide)] at hX
          exact br_f (by decide) ⟨kd_203 hL, kd_203 hL, hX _ _ _ (Fr_s9 Fr_r) (gI_y ⟨rfl, rfl⟩) rfl⟩
        | true =>
          refine br_t (by decide) (br_f ?_ ⟨by decide, kd_203 hL, ?_⟩)
          · rw [show (10 : Int32) = jI 10 from rfl, jI_lt (by omega) (by omega) (by omega) (by omega)]; omega
          rw [em]
          refine w183_s hC ?_
          cases c2 : isPb k (cnt W) l1 (jI ((q : Int) - 20)) with
          | false =>
            rw [if_neg (by rw [c2]; decide)] at hX
            exact br_f (by decide) ⟨kd_203 hL, kd_203 hL, hX _ _ _ (Fr_s9 Fr_r) (gI_y ⟨rfl, rfl⟩) rfl⟩
          | true =>
            rw [if_pos c2] at hX
            obtain ⟨w, i, rfl, ei, hw, hi, f1, f2⟩ := isPb_j k4 hg c2
            rw [f1, f2] at hX
            refine br_t (by decide) (br_t ?_ ⟨kd_203 hL, ?_⟩)
            · rw [show (20 : Int32) = jI 20 from rfl, jI_le (by omega) (by omega) (by omega) (by omega)]; omega
            rw [e20, ei]
            exact w185_q hL hW hw hi ⟨203, rfl, kd_203 hL, kd_203 hL, hX _ _ _ (Fr_s9 Fr_r) (gI_y ⟨rfl, rfl⟩) rfl⟩
      | false =>
        rw [if_neg (by rw [c4]; decide)] at hX
        exact br_f (by decide) ⟨kd_203 hL, kd_203 hL, hX _ _ _ (Fr_s9 Fr_r) (gI_y ⟨rfl, rfl⟩) rfl⟩
