/-! way: the class's question, put together -/
theorem frb_i {z a b : Int} (z1 : -2147483648 ≤ z) (z2 : z < 2147483648) (a1 : -2147483648 ≤ a) (a2 : a < 2147483648) (b1 : -2147483648 ≤ b) (b2 : b < 2147483648) : frb (jI z) (jI a) (jI b) = decide (a ≤ z ∧ z ≤ b) := by
  unfold frb
  rw [decide_eq_decide, jI_lt z1 z2 a1 a2, jI_lt b1 b2 z1 z2]
  omega
theorem isWb_i {k w : Nat} (hk : k ≤ 4) (hw : w < k) : isWb k (jI (w : Int)) = true := by
  refine decide_eq_true ?_
  rw [nI_j, show (0 : Int32) = jI 0 from rfl, jI_lt (by omega) (by omega) (by omega) (by omega), jI_le (by omega) (by omega) (by omega) (by omega)]
  omega
theorem isPb_i {k w : Nat} {W : Nat → WY} {z : Int} (hk : k ≤ 4) (hw : w < k) (hg : gW (W w)) (z0 : -2147483648 ≤ z) (z1 : z < 2147483648) : isPb k (cnt W) (jI (w : Int)) (jI z) = decide (0 ≤ z ∧ z < wn (W w)) := by
  have a2 := hg.2.1
  unfold isPb
  rw [isWb_i hk hw, Bool.true_and, decide_eq_decide, jI_cn (by omega), nI_j, show (0 : Int32) = jI 0 from rfl, jI_lt (by omega) (by omega) (by omega) (by omega)]
  rw [jI_le (by show -2147483648 ≤ ((wn (W w) : Nat) : Int); omega) (by show ((wn (W w) : Nat) : Int) < 2147483648; omega) (by omega) (by omega)]
  show (¬ z < 0 ∧ ¬ ((wn (W w) : Nat) : Int) ≤ z) ↔ _
  omega
theorem w39_q {M : MM} {k : Nat} {W : Nat → WY} {l1 l2 : Int32} {P : Int32 → MM → Prop} (hL : Lay M) (hW : CWs M k W) (hX : ∀ M' r st, Fr sCQ M M' → mI M' 0 10 = st → (r, st) = wayA k W l1 l2 → P r M') : w39 0 l1 l2 M P := by
  have hC := CWs_CW hL hW
  have k4 := hW.2.1
  have hg : ∀ w, w < k → gW (W w) := fun w hw => (hW.2.2 w hw).1
  obtain ⟨z, rfl, z1, z2⟩ := jI_of l2
  unfold wayA at hX
  rw [show (0 : Int32) = jI 0 from rfl, show (2 : Int32) = jI 2 from rfl, show (10 : Int32) = jI 10 from rfl, show (17 : Int32) = jI 17 from rfl, show (20 : Int32) = jI 20 from rfl, show (27 : Int32) = jI 27 from rfl, frb_i (by omega) (by omega) (by omega) (by omega) (by omega) (by omega), frb_i (by omega) (by omega) (by omega) (by omega) (by omega) (by omega), frb_i (by omega) (by omega) (by omega) (by omega) (by omega) (by omega), jI_sub, jI_sub] at hX
  have L : ∀ c : Int, -1000 ≤ c → c ≤ 1000 → ((jI z < jI c) ↔ z < c) := fun c c1 c2 => jI_lt (by omega) (by omega) (by omega) (by omega)
  have G : ∀ c : Int, -1000 ≤ c → c ≤ 1000 → ((jI c ≤ jI z) ↔ c ≤ z) := fun c c1 c2 => jI_le (by omega) (by omega) (by omega) (by omega)
  have G' : ∀ c : Int, -1000 ≤ c → c ≤ 1000 → ((jI z ≤ jI c) ↔ z ≤ c) := fun c c1 c2 => jI_le (by omega) (by omega) (by omega) (by omega)
  have l0 := L 0 (by omega) (by omega)
  have l10 := L 10 (by omega) (by omega)
  have l20 := L 20 (by omega) (by omega)
  have g18 := G 18 (by omega) (by omega)
  have g28 := G 28 (by omega) (by omega)
  have g2 := G' 2 (by omega) (by omega)
  by_cases c0 : 0 ≤ z ∧ z ≤ 2
  · rw [if_pos (decide_eq_true c0)] at hX
    refine br_t (l10.mpr (by omega)) (br_t (l20.mpr (by omega)) (br_f (fun h => h rfl) (br_f (fun h => h rfl) (br_f (fun h => absurd (l0.mp h) (by omega)) (br_t (g2.mpr c0.2) ⟨kd_0 hL, w40_s hC ?_⟩)))))
    cases c1 : isWb k l1 with
    | false =>
      rw [if_neg (by rw [c1]; decide)] at hX
      exact br_f (by decide) ⟨kd_0 hL, kd_0 hL, hX _ _ _ (Fr_s0 Fr_r) (gI_y ⟨rfl, rfl⟩) rfl⟩
    | true =>
      rw [if_pos c1] at hX
      obtain ⟨w, hw, rfl⟩ := isWb_j k4 c1
      rw [jI_cn (by omega)] at hX
      have ht : isT (191 + 3 * w) = true := isT_way (by omega)
      have qw := hW.2.2 w hw
      refine br_t (by decide) ⟨kd_0 hL, 19, rf_0_5 hL, i19 hL (by omega), br_f (fun h => h rfl) (br_t rfl ?_)⟩
      rw [jI_cn (by omega), rf_19 hL (by omega)]
      unfold wayV at hX
      refine ⟨fun y => ⟨fun y1 => ⟨_, rfl, kd_T hL ht, w43_s hL ht qw.2 qw.1 ⟨0, rfl, kd_0 hL, kd_0 hL, ?_⟩⟩, fun y1 => ⟨_, rfl, kd_T hL ht, w41_s hL ht qw.2 qw.1 ⟨0, rfl, kd_0 hL, kd_0 hL, ?_⟩⟩⟩, fun y => ⟨_, rfl, kd_T hL ht, kd_0 hL, kd_0 hL, ?_⟩⟩
      · rw [if_neg y, if_neg y1] at hX
        exact hX _ _ _ (Fr_s0 Fr_r) (gI_y ⟨rfl, rfl⟩) rfl
      · rw [if_neg y, if_pos (Classical.not_not.mp y1)] at hX
        exact hX _ _ _ (Fr_s0 Fr_r) (gI_y ⟨rfl, rfl⟩) rfl
      · rw [if_pos (Classical.not_not.mp y)] at hX
        rw [qw.2.1]
        exact hX _ _ _ (Fr_s0 Fr_r) (gI_y ⟨rfl, rfl⟩) rfl
  rw [if_neg (fun h => c0 (of_decide_eq_true h))] at hX
  by_cases c1 : 10 ≤ z ∧ z ≤ 17
  · rw [if_pos (decide_eq_true c1)] at hX
    refine br_f (fun h => absurd (l10.mp h) (by omega)) (br_f (fun h => absurd (g18.mp h) (by omega)) (br_t (l20.mpr (by omega)) (br_t (by decide) ⟨kd_0 hL, w40_s hC ?_⟩)))
    cases c2 : isWb k l1 with
    | false =>
      rw [if_neg (by unfold isPb; rw [c2, Bool.false_and]; decide)] at hX
      exact br_f (by decide) ⟨kd_0 hL, kd_0 hL, hX _ _ _ (Fr_s0 Fr_r) (gI_y ⟨rfl, rfl⟩) rfl⟩
    | true =>
      obtain ⟨w, hw, rfl⟩ := isWb_j k4 c2
      rw [isPb_i k4 hw (hg w hw) (by omega) (by omega), jI_cn (by omega), jI_cl (by omega) (by omega)] at hX
      refine br_t (by decide) ⟨kd_0 hL, 19, rf_0_5 hL, i19 hL (by omega), br_t (by decide) (br_f (by decide) ?_)⟩
      rw [jI_cn (by omega), rf_19 hL (by omega)]
      refine w39_107_s (z := z - 10) hL hW hw (by rw [show (10 : Int32) = jI 10 from rfl, jI_sub]) (by omega) (by omega) (fun y => ?_) (fun y => ?_)
      · rw [if_pos (decide_eq_true ⟨by omega, y⟩)] at hX
        rw [if_neg (by decide)]
        exact hX _ _ _ (Fr_s0 Fr_r) (gI_y ⟨rfl, rfl⟩) rfl
      · rw [if_neg (fun h => y (of_decide_eq_true h).2)] at hX
        exact hX _ _ _ (Fr_s0 Fr_r) (gI_y ⟨rfl, rfl⟩) rfl
  rw [if_neg (fun h => c1 (of_decide_eq_true h))] at hX
  have to17 : w39_17 0 l1 (jI z) 0 M P → w39 0 l1 (jI z) M P := fun q => ⟨fun _ => q, fun y => ⟨fun _ => q, fun y' => absurd (show 10 ≤ z ∧ z ≤ 17 from ⟨Int.not_lt.mp (fun h => y (l10.mpr h)), by have := Int.not_le.mp (fun h => y' (g18.mpr h)); omega⟩) c1⟩⟩
  refine to17 ?_
  by_cases c3 : 20 ≤ z ∧ z ≤ 27
  · rw [if_pos (decide_eq_true c3)] at hX
    refine br_f (fun h => absurd (l20.mp h) (by omega)) (br_f (fun h => absurd (g28.mp h) (by omega)) (br_f (fun h => h rfl) (br_t (by decide) ⟨kd_0 hL, w40_s hC ?_⟩)))
    cases c2 : isWb k l1 with
    | false =>
      rw [if_neg (by unfold isPb; rw [c2, Bool.false_and]; decide)] at hX
      exact br_f (by decide) ⟨kd_0 hL, kd_0 hL, hX _ _ _ (Fr_s0 Fr_r) (gI_y ⟨rfl, rfl⟩) rfl⟩
    | true =>
      obtain ⟨w, hw, rfl⟩ := isWb_j k4 c2
      rw [isPb_i k4 hw (hg w hw) (by omega) (by omega), jI_cn (by omega), jI_cl (by omega) (by omega)] at hX
      refine br_t (by decide) ⟨kd_0 hL, 19, rf_0_5 hL, i19 hL (by omega), br_f (fun h => h rfl) (br_f (by decide) (br_t rfl ?_))⟩
      rw [jI_cn (by omega), rf_19 hL (by omega)]
      refine w39_107_s (z := z - 20) hL hW hw (by rw [show (20 : Int32) = jI 20 from rfl, jI_sub]) (by omega) (by omega) (fun y => ?_) (fun y => ?_)
      · rw [if_pos (decide_eq_true ⟨by omega, y⟩)] at hX
        rw [if_pos rfl]
        exact hX _ _ _ (Fr_s0 Fr_r) (gI_y ⟨rfl, rfl⟩) rfl
      · rw [if_neg (fun h => y (of_decide_eq_true h).2)] at hX
        exact hX _ _ _ (Fr_s0 Fr_r) (gI_y ⟨rfl, rfl⟩) rfl
  rw [if_neg (fun h => c3 (of_decide_eq_true h))] at hX
  have to35 : w39_35 0 l1 (jI z) 0 0 M P → w39_17 0 l1 (jI z) 0 M P := fun q => ⟨fun _ => q, fun y => ⟨fun _ => q, fun y' => absurd (show 20 ≤ z ∧ z ≤ 27 from ⟨Int.not_lt.mp (fun h => y (l20.mpr h)), by have := Int.not_le.mp (fun h => y' (g28.mpr h)); omega⟩) c3⟩⟩
  refine to35 ?_
  have no : w39_55 0 M P := ⟨kd_0 hL, kd_0 hL, hX _ _ _ (Fr_s0 Fr_r) (gI_y ⟨rfl, rfl⟩) rfl⟩
  exact br_f (fun h => h rfl) (br_f (fun h => h rfl) ⟨fun _ => no, fun y => ⟨fun y' => absurd (show 0 ≤ z ∧ z ≤ 2 from ⟨Int.not_lt.mp (fun h => y (l0.mpr h)), g2.mp y'⟩) c0, fun _ => no⟩⟩)
