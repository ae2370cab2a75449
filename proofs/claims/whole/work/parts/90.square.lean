/-! ===== square: both sides ===== -/
theorem isPb_j {k : Nat} {W : Nat → WY} {w i : Int32} (hk : k ≤ 4) (hg : ∀ w, w < k → gW (W w)) (h : isPb k (cnt W) w i = true) : ∃ w' i' : Nat, w = jI (w' : Int) ∧ i = jI (i' : Int) ∧ w' < k ∧ i' < wn (W w') ∧ w.toNatClampNeg = w' ∧ i.toNatClampNeg = i' := by
  obtain ⟨q1, q2⟩ := Bool.and_eq_true_iff.mp h
  obtain ⟨w', h1, rfl⟩ := isWb_j hk q1
  rw [jI_cn (by omega)] at q2
  have a2 := (hg w' h1).2.1
  obtain ⟨i', h2, rfl⟩ := rng_j (n := cnt W w') (by show wn (W w') < 2147483648; omega) q2
  have h2' : i' < wn (W w') := h2
  exact ⟨w', i', rfl, rfl, h1, h2', jI_cn (by omega), jI_cn (by omega)⟩
def squA (k : Nat) (W : Nat → WY) (l1 l2 l3 l4 : Int32) : Int32 × Int32 :=
  if (isPb k (cnt W) l1 l2 && isPb k (cnt W) l3 l4) = true then (jI (qd (W l1.toNatClampNeg) l2.toNatClampNeg (W l3.toNatClampNeg) l4.toNatClampNeg), 0) else (-1, 2)
theorem w44_q {M : MM} {k : Nat} {W : Nat → WY} {l1 l2 l3 l4 : Int32} {P : Int32 → MM → Prop} (hL : Lay M) (hW : CWs M k W) (hX : ∀ M' r st, Fr sCQ M M' → mI M' 0 10 = st → (r, st) = squA k W l1 l2 l3 l4 → P r M') : w44 0 l1 l2 l3 l4 M P := by
  have hC := CWs_CW hL hW
  have k4 := hW.2.1
  have hg : ∀ w, w < k → gW (W w) := fun w hw => (hW.2.2 w hw).1
  unfold squA at hX
  have no : (isPb k (cnt W) l1 l2 && isPb k (cnt W) l3 l4) = false → w44_19 0 M P := fun e => by
    rw [e, if_neg (by decide)] at hX
    exact ⟨kd_0 hL, kd_0 hL, hX _ _ _ (Fr_s0 Fr_r) (gI_y ⟨rfl, rfl⟩) rfl⟩
  refine ⟨kd_0 hL, w45_s hC ?_⟩
  cases c1 : isPb k (cnt W) l1 l2 with
  | false => exact br_t rfl (no (by rw [c1, Bool.false_and]))
  | true =>
    refine br_f (by decide) ⟨kd_0 hL, w45_s hC ?_⟩
    cases c2 : isPb k (cnt W) l3 l4 with
    | false => exact br_f (fun z => z rfl) (no (by rw [c2, Bool.and_false]))
    | true =>
      rw [c1, c2, if_pos (by decide)] at hX
      obtain ⟨w, i, rfl, rfl, hw, hi, e1, e2⟩ := isPb_j k4 hg c1
      obtain ⟨o, j, rfl, rfl, ho, hj, e3, e4⟩ := isPb_j k4 hg c2
      rw [e1, e2, e3, e4] at hX
      refine br_t (by decide) ⟨kd_0 hL, 19, rf_0_5 hL, i19 hL (by omega), kd_0 hL, 19, rf_0_5 hL, i19 hL (by omega), ?_⟩
      rw [e1, e3, rf_19 hL (by omega), rf_19 hL (by omega)]
      exact ⟨_, rfl, kd_T hL (isT_way (by omega)), w42_s hL (isT_way (by omega)) (isT_way (by omega)) (hW.2.2 w hw).2 (hW.2.2 o ho).2 (hg w hw) (hg o ho) hi hj ⟨kd_0 hL, kd_0 hL, hX _ _ _ (Fr_s0 Fr_r) (gI_y ⟨rfl, rfl⟩) rfl⟩⟩
theorem w188_q {M : MM} {k : Nat} {W : Nat → WY} {l1 l2 l3 l4 : Int32} {P : Int32 → MM → Prop} (hL : Lay M) (hW : RWs M k W) (hX : ∀ M' r st, Fr sRQ M M' → mI M' 203 9 = st → (r, st) = squA k W l1 l2 l3 l4 → P r M') : w188 203 l1 l2 l3 l4 M P := by
  have hC := RWs_RW hL hW
  have k4 := hW.2.1
  have hg : ∀ w, w < k → gW (W w) := fun w hw => (hW.2.2 w hw).1
  unfold squA at hX
  have no : (isPb k (cnt W) l1 l2 && isPb k (cnt W) l3 l4) = false → w188_19 203 M P := fun e => by
    rw [e, if_neg (by decide)] at hX
    exact ⟨kd_203 hL, kd_203 hL, hX _ _ _ (Fr_s9 Fr_r) (gI_y ⟨rfl, rfl⟩) rfl⟩
  refine ⟨kd_203 hL, w183_s hC ?_⟩
  cases c1 : isPb k (cnt W) l1 l2 with
  | false => exact br_t rfl (no (by rw [c1, Bool.false_and]))
  | true =>
    refine br_f (by decide) ⟨kd_203 hL, w183_s hC ?_⟩
    cases c2 : isPb k (cnt W) l3 l4 with
    | false => exact br_f (fun z => z rfl) (no (by rw [c2, Bool.and_false]))
    | true =>
      rw [c1, c2, if_pos (by decide)] at hX
      obtain ⟨w, i, rfl, rfl, hw, hi, e1, e2⟩ := isPb_j k4 hg c1
      obtain ⟨o, j, rfl, rfl, ho, hj, e3, e4⟩ := isPb_j k4 hg c2
      rw [e1, e2, e3, e4] at hX
      refine br_t (by decide) ⟨kd_203 hL, w184_q hL hW hw hi ⟨kd_203 hL, w185_q hL hW hw hi ⟨kd_203 hL, w184_q hL hW ho hj ⟨kd_203 hL, w185_q hL hW ho hj ?_⟩⟩⟩⟩
      unfold w187
      rw [jI_sub, jI_sub, jI_mul, jI_mul, jI_add]
      exact ⟨kd_203 hL, kd_203 hL, hX _ _ _ (Fr_s9 Fr_r) (gI_y ⟨rfl, rfl⟩) rfl⟩
