/-! hops: the reference's question -/
theorem sHW_Q {x k : Nat} (h : sRQ x k = false) : sHW x k = false := by
  refine sB_f (fun z => ?_) (fun z => ?_)
  · rw [z.1, sRQ_1 (by omega)] at h; cases h
  · rw [sRQ_2 (by omega)] at h; cases h
theorem w255_q {M : MM} {k : Nat} {W : Nat → WY} {l1 l2 l3 l4 : Int32} {P : Int32 → MM → Prop} (hL : Lay M) (hW : RWs M k W) (hX : ∀ M' r st, Fr sRQ M M' → mI M' 203 9 = st → (r, st) = hopA k W l1 l2 l3 l4 → P r M') : w255 203 l1 l2 l3 l4 M P := by
  have hC := RWs_RW hL hW
  refine w255_p hC ?_
  by_cases hs : hopC k l1 l2 l3 = 0
  · obtain ⟨hb, hs2, w, o, rfl, rfl, hw, ho, hwo, e1, e2⟩ := clH_0 hW.2.1 hs
    have h3 : ¬ l3 < -1 := of_decide_eq_true hb
    have eA : hopA k W (jI (w : Int)) (jI (o : Int)) l3 l4 = hopV (W w) (W o) l3 l4 := by
      unfold hopA; rw [if_pos hs, e1, e2]
    rw [eA] at hX
    unfold hopV at hX
    have k4 := hW.2.1
    have ga := (hW.2.2 w hw).1
    have gb := (hW.2.2 o ho).1
    obtain ⟨t1, t2, t3⟩ := hopT_ok ga gb
    rw [hb, if_pos rfl, hs2]
    refine br_t (by decide) ⟨kd_203 hL, w211_s hL hW hw ho (fun M1 hF1 hR1 => ?_)⟩
    have hL1 := hF1.1 hL
    refine ⟨kd_203 hL1, w256_s hL1 hR1 ga gb (fun M2 hF2 h59 hE => ?_)⟩
    have hL2 := hF2.1 hL1
    have hF3 : Fr sRQ M M2 := Fr_t (Fr_w hF1 (fun x k => sRL_Q)) (Fr_w hF2 (fun x k => sHW_Q))
    by_cases c1 : l3 = -1
    · rw [if_pos c1] at hX
      refine br_f (fun z => z c1) ⟨kd_203 hL2, kd_203 hL2, kd_203 hL2, ?_⟩
      rw [h59, show jI ((hopT (W w) (W o) + 1 : Nat) : Int) - 1 = jI (hopT (W w) (W o) : Int) by rw [show (1 : Int32) = jI 1 from rfl, jI_sub]; congr 1; omega]
      exact hX _ _ _ (Fr_s9 hF3) (gI_y ⟨rfl, rfl⟩) rfl
    · rw [if_neg c1] at hX
      obtain ⟨x, rfl, x0, x1⟩ := nb_x h3 c1
      refine br_t c1 ⟨kd_203 hL2, ?_⟩
      have eT : jI x ≤ jI (hopT (W w) (W o) : Int) ↔ x ≤ (hopT (W w) (W o) : Int) := jI_le (by omega) (by omega) (by omega) (by omega)
      rw [h59, jI_le (by omega) (by omega) (by omega) (by omega)]
      rw [jI_cl (by omega) (by omega)] at hX
      refine ⟨fun z => ?_, fun z => ?_⟩
      · rw [if_neg (fun y => by have := eT.mp y; omega)] at hX
        exact ⟨kd_203 hL2, kd_203 hL2, hX _ _ _ (Fr_s9 hF3) (gI_y ⟨rfl, rfl⟩) rfl⟩
      · rw [if_pos (eT.mpr (by omega))] at hX
        have ex : x = ((x.toNat : Nat) : Int) := by omega
        have hent := hE x.toNat (by omega)
        generalize x.toNat = q at *
        subst ex
        rw [jI_cn (by omega)]
        refine ⟨fun y => ⟨kd_203 hL2, 229, rf_203_57 hL2, i229 hL2 (by omega), 203, rfl, kd_203 hL2, kd_203 hL2, ?_⟩, fun y => ⟨kd_203 hL2, 230, rf_203_58 hL2, i230 hL2 (by omega), 203, rfl, kd_203 hL2, kd_203 hL2, ?_⟩⟩
        · rw [if_pos y] at hX
          rw [hent.1]
          exact hX _ _ _ (Fr_s9 hF3) (gI_y ⟨rfl, rfl⟩) rfl
        · rw [if_neg y] at hX
          rw [hent.2]
          exact hX _ _ _ (Fr_s9 hF3) (gI_y ⟨rfl, rfl⟩) rfl
  · refine w255_15_r hC hs (hX _ _ _ (Fr_s9 Fr_r) (gI_y ⟨rfl, rfl⟩) ?_)
    unfold hopA
    rw [if_neg hs]; rfl
