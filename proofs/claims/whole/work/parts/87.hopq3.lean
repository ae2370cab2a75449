/-! hops: the class's question, and the reference's path -/
def hopV (a b : WY) (l3 l4 : Int32) : Int32 × Int32 := if l3 = -1 then (jI (hopT a b : Int), 0) else if l3 ≤ jI (hopT a b : Int) then (jI ((if l4 = 0 then (hopP a b l3.toNatClampNeg).1 else (hopP a b l3.toNatClampNeg).2 : Nat) : Int), 0) else (-1, 5)
def hopC (k : Nat) (l1 l2 l3 : Int32) : Int32 := if (decide (¬ l3 < -1)) = true then chk2 k l1 l2 else 1
def hopA (k : Nat) (W : Nat → WY) (l1 l2 l3 l4 : Int32) : Int32 × Int32 := if hopC k l1 l2 l3 = 0 then hopV (W l1.toNatClampNeg) (W l2.toNatClampNeg) l3 l4 else (-1, hopC k l1 l2 l3)
theorem clH_0 {k : Nat} {c : Bool} {l1 l2 : Int32} (hk : k ≤ 4) (hs : (if c = true then chk2 k l1 l2 else 1) = 0) : c = true ∧ chk2 k l1 l2 = 0 ∧ ∃ (w o : Nat), l1 = jI (w : Int) ∧ l2 = jI (o : Int) ∧ w < k ∧ o < k ∧ w ≠ o ∧ l1.toNatClampNeg = w ∧ l2.toNatClampNeg = o := by
  have hb : c = true := by
    by_cases z : c = true
    · exact z
    · rw [if_neg z] at hs; exact absurd hs (by decide)
  rw [if_pos hb] at hs
  have hs2 := hs
  obtain ⟨w, o, rfl, rfl, hw, ho, hwo⟩ := chk2_0 hk hs
  exact ⟨hb, hs2, w, o, rfl, rfl, hw, ho, hwo, jI_cn (by omega), jI_cn (by omega)⟩
theorem JI_JP {M0 M : MM} {a b : WY} (h : JI M0 a b 0 0 M) : JP M a b := ⟨h.2.1, h.2.2.1, fun i' j' h1 h2 => (h.2.2.2 i' j' h1 h2 (by omega)).2⟩
theorem sJ8_Q {x k : Nat} (h : sCQ x k = false) : sJ8 x k = false := by
  have e : ∀ y q, 55 ≤ y → y ≤ 190 → sCQ y q = true := fun y q h1 h2 => sB_t2 ⟨h1, h2⟩
  refine sJ8_f (fun z => ?_)
  rw [e x k (by omega) (by omega)] at h; cases h
theorem nb_x {l : Int32} (h1 : ¬ l < -1) (h2 : l ≠ -1) : ∃ x : Int, l = jI x ∧ 0 ≤ x ∧ x < 2147483648 := by
  obtain ⟨x, e, x1, x2⟩ := jI_of l
  subst e
  rw [show (-1 : Int32) = jI (-1) from rfl] at h1 h2
  rw [jI_lt (by omega) (by omega) (by omega) (by omega)] at h1
  have h2' : x ≠ -1 := fun z => h2 (by rw [z])
  exact ⟨x, rfl, by omega, x2⟩
theorem w118_q {M : MM} {k : Nat} {W : Nat → WY} {l1 l2 l3 l4 : Int32} {P : Int32 → MM → Prop} (hL : Lay M) (hW : CWs M k W) (hX : ∀ M' r st, Fr sCQ M M' → mI M' 0 10 = st → (r, st) = hopA k W l1 l2 l3 l4 → P r M') : w118 0 l1 l2 l3 l4 M P := by
  have hC := CWs_CW hL hW
  refine w118_p ?_
  by_cases hs : hopC k l1 l2 l3 = 0
  · obtain ⟨hb, hs2, w, o, rfl, rfl, hw, ho, hwo, e1, e2⟩ := clH_0 hW.2.1 hs
    have h3 : ¬ l3 < -1 := of_decide_eq_true hb
    have eA : hopA k W (jI (w : Int)) (jI (o : Int)) l3 l4 = hopV (W w) (W o) l3 l4 := by
      unfold hopA; rw [if_pos hs, e1, e2]
    rw [eA] at hX
    unfold hopV at hX
    have k4 := hW.2.1
    have ga := (hW.2.2 w hw).1
    have gb := (hW.2.2 o ho).1
    obtain ⟨t1, t2, t3⟩ := hopT_ok ga gb
    rw [hb]
    have hF1 : Fr sCQ M (sI M 0 10 (if true = true then chk2 k (jI (w : Int)) (jI (o : Int)) else 1)) := Fr_s0 Fr_r
    have hL1 := hF1.1 hL
    have hW1 := CWs_Q hF1 hW
    refine ⟨0, rfl, kd_0 hL, w62_s (b := true) hC ⟨0, rfl, kd_0 hL, kd_0 hL, st_a (by rw [if_pos rfl]; exact hs2) ⟨kd_0 hL, 58, rf_0_15 hL1, kd_58 hL1, kd_0 hL, 19, rf_0_5 hL1, i19 hL1 (by omega), kd_0 hL, 19, rf_0_5 hL1, i19 hL1 (by omega), 175, rf_58_1 hL1, kd_175 hL1, ?_⟩⟩⟩
    rw [jI_cn (by omega), jI_cn (by omega), rf_19 hL1 (by omega), rf_19 hL1 (by omega)]
    refine w96_s hL1 (isT_way (by omega)) (isT_way (by omega)) (by omega) (by omega) (hW1.2.2 w hw).2 (hW1.2.2 o ho).2 ga gb (fun M2 h2 => ?_)
    have hL2 := h2.1.1 hL1
    have hF2 : Fr sCQ M M2 := Fr_t hF1 (Fr_w h2.1 (fun x k => sJp_Q))
    have hJ := JI_JP h2
    by_cases c1 : l3 = -1
    · rw [if_pos c1] at hX
      refine br_f (fun z => z c1) ⟨kd_175 hL2, w119_s (m := 16) hL2 hJ ga gb ⟨16, rfl, by omega, by omega, by omega⟩ (fun M3 h3 _ _ => ?_)⟩
      have hL3 := h3.1 hL2
      have hF3 : Fr sCQ M M3 := Fr_t hF2 (Fr_w h3 (fun x k => sJ8_Q))
      refine ⟨kd_0 hL3, kd_0 hL3, ?_⟩
      rw [show min 16 (hopT (W w) (W o)) = hopT (W w) (W o) by omega]
      exact hX _ _ _ (Fr_s0 hF3) (gI_y ⟨rfl, rfl⟩) rfl
    · rw [if_neg c1] at hX
      obtain ⟨x, rfl, x0, x1⟩ := nb_x h3 c1
      refine br_t c1 ⟨kd_175 hL2, w119_s (m := (min x 16).toNat) hL2 hJ ga gb ⟨x, rfl, x0, x1, by omega⟩ (fun M3 h3 h7 h8 => ?_)⟩
      have hL3 := h3.1 hL2
      have hF3 : Fr sCQ M M3 := Fr_t hF2 (Fr_w h3 (fun x k => sJ8_Q))
      have eT : jI x ≤ jI (hopT (W w) (W o) : Int) ↔ x ≤ (hopT (W w) (W o) : Int) := jI_le (by omega) (by omega) (by omega) (by omega)
      rw [jI_le (by omega) (by omega) (by omega) (by omega)]
      rw [jI_cl (by omega) (by omega)] at hX
      refine ⟨fun z => ?_, fun z => ?_⟩
      · rw [show min (min x 16).toNat (hopT (W w) (W o)) = x.toNat by omega] at h7 h8
        rw [if_pos (eT.mpr (by omega))] at hX
        refine ⟨fun y => ⟨kd_175 hL3, 0, rfl, kd_0 hL3, kd_0 hL3, ?_⟩, fun y => ⟨kd_175 hL3, 0, rfl, kd_0 hL3, kd_0 hL3, ?_⟩⟩
        · rw [if_pos y] at hX
          rw [h7]
          exact hX _ _ _ (Fr_s0 hF3) (gI_y ⟨rfl, rfl⟩) rfl
        · rw [if_neg y] at hX
          rw [h8]
          exact hX _ _ _ (Fr_s0 hF3) (gI_y ⟨rfl, rfl⟩) rfl
      · rw [if_neg (fun y => by have := eT.mp y; omega)] at hX
        exact ⟨kd_0 hL3, kd_0 hL3, hX _ _ _ (Fr_s0 hF3) (gI_y ⟨rfl, rfl⟩) rfl⟩
  · refine w118_12_r hC hs (hX _ _ _ (Fr_s0 Fr_r) (gI_y ⟨rfl, rfl⟩) ?_)
    unfold hopA
    rw [if_neg hs]; rfl
/-! the reference's list of places -/
def WP (p : Nat → Nat × Nat) (M0 : MM) (t : Nat) (M : MM) : Prop := Fr sTw M0 M ∧ mI M 203 59 = jI (t : Int) ∧ ∀ t', t' < t → mI M 229 t' = jI ((p t').1 : Int) ∧ mI M 230 t' = jI ((p t').2 : Int)
theorem w254_g {p : Nat → Nat × Nat} {t i j : Nat} {M0 M : MM} {P : MM → Prop} (hL0 : Lay M0) (h : WP p M0 t M) (ht : t < 16) (e : p t = (i, j)) (hX : ∀ M', WP p M0 (t + 1) M' → P M') : w254 203 (jI (i : Int)) (jI (j : Int)) M P := by
  have hL := h.1.1 hL0
  have h' : WP p M0 (t + 1) (sI (sI (sI M 229 t (jI (i : Int))) 230 t (jI (j : Int))) 203 59 (jI ((t + 1 : Nat) : Int))) := by
    refine ⟨Fr_sI (Fr_sI (Fr_sI h.1 (sB_t2 (by omega))) (sB_t2 (by omega))) (sB_t1 (by omega)), gI_y ⟨rfl, rfl⟩, fun t' ht => ?_⟩
    by_cases c : t' = t
    · subst c
      rw [e]
      constructor <;> simp (disch := omega) only [gI_y, gI_n, gL_y, gL_n, gR_y, gR_n, gI_sL, gI_sR, gL_sI, gL_sR, gR_sI, gR_sL]
    · have := h.2.2 t' (by omega)
      simp (disch := omega) only [gI_y, gI_n, gL_y, gL_n, gR_y, gR_n, gI_sL, gI_sR, gL_sI, gL_sR, gR_sI, gR_sL, this.1, this.2, true_and, and_self]
  simp (disch := omega) only [w254, w254_30, kd_sI, kd_sL, kd_sR, true_and, and_true, Option.some.injEq, exists_eq_left', kd_203 hL, rf_203_57 hL, rf_203_58 hL, gR_sI, i229 hL, gI_y, gI_n, gL_y, gL_n, gR_y, gR_n, gI_sL, gI_sR, gL_sI, gL_sR, gR_sI, gR_sL, jI_cn, h.2.1, jI_lit, jI_add, c_s1]
  exact ⟨i230 hL ht, hX _ h'⟩
