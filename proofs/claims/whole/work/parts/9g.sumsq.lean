/-! sums: the class's question -/
theorem sJs_Q {x k : Nat} (h : sCQ x k = false) : sJs x k = false := by
  refine sB_f (fun z => ?_) (fun z => ?_)
  · rw [show sCQ x k = sB 0 10 10 55 190 x k from rfl, sB_t2 (by omega)] at h; cases h
  · rw [show sCQ x k = sB 0 10 10 55 190 x k from rfl, sB_t2 (by omega)] at h; cases h
theorem w120_q {M : MM} {k : Nat} {W : Nat → WY} {l1 l2 l3 : Int32} {P : Int32 → MM → Prop} (hL : Lay M) (hW : CWs M k W) (hX : ∀ M' r st, Fr sCQ M M' → mI M' 0 10 = st → (r, st) = sumA k W l1 l2 l3 → P r M') : w120 0 l1 l2 l3 M P := by
  have hC := CWs_CW hL hW
  have k4 := hW.2.1
  unfold sumA at hX
  by_cases hf : frb l3 0 2 = true
  · rw [if_pos hf] at hX
    have hh := of_decide_eq_true hf
    refine br_f hh.1 (br_f hh.2 ⟨0, rfl, kd_0 hL, w62_s (b := true) hC ?_⟩)
    rw [if_pos rfl]
    have h1 : Fr sCQ M (sI M 0 10 (chk2 k l1 l2)) := Fr_s0 Fr_r
    have g1 : mI (sI M 0 10 (chk2 k l1 l2)) 0 10 = chk2 k l1 l2 := gI_y ⟨rfl, rfl⟩
    have hL1 := h1.1 hL
    have hW1 := CWs_Q h1 hW
    refine ⟨0, rfl, kd_0 hL, kd_0 hL1, ?_⟩
    rw [g1]
    by_cases c : chk2 k l1 l2 = 0
    · rw [if_pos c] at hX
      refine br_t c ?_
      obtain ⟨w, o, rfl, rfl, hw, ho, hne⟩ := chk2_0 k4 c
      rw [jI_cn (by omega), jI_cn (by omega)] at hX ⊢
      generalize sI M 0 10 (chk2 k (jI (w : Int)) (jI (o : Int))) = M1 at *
      have ga := (hW.2.2 w hw).1
      have gb := (hW.2.2 o ho).1
      have a1 := ga.1
      have b1 := gb.1
      refine ⟨kd_0 hL1, 58, rf_0_15 hL1, kd_58 hL1, kd_0 hL1, 19, rf_0_5 hL1, i19 hL1 (by omega), kd_0 hL1, 19, rf_0_5 hL1, i19 hL1 (by omega), 175, rf_58_1 hL1, kd_175 hL1, ?_⟩
      rw [rf_19 hL1 (by omega), rf_19 hL1 (by omega)]
      refine w96_s hL1 (isT_way (by omega)) (isT_way (by omega)) (by omega) (by omega) (hW1.2.2 w hw).2 (hW1.2.2 o ho).2 ga gb (fun M2 h2 => ?_)
      have hL2 := h2.1.1 hL1
      refine ⟨kd_175 hL2, w121_s hL2 ga gb h2.2.1 h2.2.2.1 (fun i j hi hj => (h2.2.2.2 i j hi hj (by omega)).1) (fun M3 h3 => ?_)⟩
      have hL3 := h3.1.1 hL2
      have hF3 : Fr sCQ M M3 := Fr_t h1 (Fr_t (Fr_w h2.1 (fun x k h => sJp_Q h)) (Fr_w h3.1 (fun x k h => sJs_Q h)))
      obtain ⟨v1, v2, v3⟩ := h3.2 0 0 (by omega) (by omega) (by omega)
      unfold sumV at hX
      rw [show (0 : Int32).toNatClampNeg = 8 * 0 + 0 from rfl]
      refine ⟨fun z => ⟨fun y => ⟨kd_175 hL3, 180, rf_175_4 hL3, i180 (k := 0) hL3 (by omega), ?_⟩, fun y => ⟨kd_175 hL3, 179, rf_175_3 hL3, i179 (k := 0) hL3 (by omega), ?_⟩⟩, fun z => ⟨kd_175 hL3, 178, rf_175_2 hL3, i178 (k := 0) hL3 (by omega), kd_0 hL3, kd_0 hL3, ?_⟩⟩
      · rw [if_neg z, if_neg y] at hX
        refine ⟨0, rfl, kd_0 hL3, kd_0 hL3, ?_⟩
        rw [v3]
        exact hX _ _ _ (Fr_s0 hF3) (gI_y ⟨rfl, rfl⟩) rfl
      · rw [if_neg z, if_pos (Classical.not_not.mp y)] at hX
        refine ⟨0, rfl, kd_0 hL3, kd_0 hL3, ?_⟩
        rw [v2]
        exact hX _ _ _ (Fr_s0 hF3) (gI_y ⟨rfl, rfl⟩) rfl
      · rw [if_pos (Classical.not_not.mp z)] at hX
        rw [v1]
        exact hX _ _ _ (Fr_s0 hF3) (gI_y ⟨rfl, rfl⟩) rfl
    · rw [if_neg c] at hX
      exact br_f c (hX _ _ _ h1 g1 rfl)
  · rw [if_neg hf] at hX
    have no : w120_15 0 l1 l2 l3 (some 0) (some 0) M P := by
      refine ⟨0, rfl, kd_0 hL, w62_s (b := false) hC ?_⟩
      rw [if_neg (by decide)]
      refine ⟨0, rfl, kd_0 hL, kd_0 hL, ?_⟩
      rw [gI_y ⟨rfl, rfl⟩]
      exact br_f (by decide) (hX _ _ _ (Fr_s0 Fr_r) (gI_y ⟨rfl, rfl⟩) rfl)
    exact ⟨fun _ => no, fun z => ⟨fun _ => no, fun y => absurd (decide_eq_true ⟨z, y⟩) hf⟩⟩
