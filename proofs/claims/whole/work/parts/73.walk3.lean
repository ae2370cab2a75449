/-! walk: the two questions -/
theorem clG_0 {k : Nat} {c : Bool} {l1 l2 l3 l4 : Int32} (hk : k ≤ 4) (hs : (if (lsb l3 l4 && c) = true then chk2 k l1 l2 else 1) = 0) : (lsb l3 l4 && c) = true ∧ c = true ∧ chk2 k l1 l2 = 0 ∧ ∃ (w o : Nat) (n d : Int), l1 = jI (w : Int) ∧ l2 = jI (o : Int) ∧ l3 = jI n ∧ l4 = jI d ∧ w < k ∧ o < k ∧ w ≠ o ∧ 0 ≤ n ∧ n ≤ 100000 ∧ 1 ≤ d ∧ d ≤ 1000 ∧ l1.toNatClampNeg = w ∧ l2.toNatClampNeg = o ∧ l3.toInt = n ∧ l4.toInt = d := by
  have hb : (lsb l3 l4 && c) = true := by
    by_cases z : (lsb l3 l4 && c) = true
    · exact z
    · rw [if_neg z] at hs; exact absurd hs (by decide)
  rw [if_pos hb] at hs
  have hs2 := hs
  have hb2 := hb
  obtain ⟨n, d, rfl, rfl, n0, n1, d0, d1⟩ := lsb_j (Bool.and_eq_true_iff.mp hb).1
  obtain ⟨w, o, rfl, rfl, hw, ho, hwo⟩ := chk2_0 hk hs
  exact ⟨hb2, (Bool.and_eq_true_iff.mp hb).2, hs2, w, o, n, d, rfl, rfl, rfl, rfl, hw, ho, hwo, n0, n1, d0, d1, jI_cn (by omega), jI_cn (by omega), jI_toInt (by omega) (by omega), jI_toInt (by omega) (by omega)⟩
def walV (a b : WY) (n d : Int) (l5 l6 : Int32) : Int32 × Int32 :=
  if srv (wn a) (wn b) (geo a b n d) = true then
    (if l5 = -1 then (jI ((wn a - 2 + (wn b - 2) + 1 : Nat) : Int), 0) else if l5 < jI ((wn a - 2 + (wn b - 2) + 1 : Nat) : Int) then (jI ((if l6 = 0 then (stA (geo a b n d) (wn a - 2) (wn b - 2) (wn a - 2 + (wn b - 2) - l5.toNatClampNeg)).1 else (stA (geo a b n d) (wn a - 2) (wn b - 2) (wn a - 2 + (wn b - 2) - l5.toNatClampNeg)).2.1 : Nat) : Int), 0) else (-1, 5))
  else (-1, 5)
def walC (k : Nat) (l1 l2 l3 l4 l5 : Int32) : Int32 := if (lsb l3 l4 && decide (¬ l5 < -1)) = true then chk2 k l1 l2 else 1
def walA (k : Nat) (W : Nat → WY) (l1 l2 l3 l4 l5 l6 : Int32) : Int32 × Int32 :=
  if walC k l1 l2 l3 l4 l5 = 0 then walV (W l1.toNatClampNeg) (W l2.toNatClampNeg) l3.toInt l4.toInt l5 l6 else (-1, walC k l1 l2 l3 l4 l5)
theorem nb_j {l5 : Int32} {c : Nat} (h1 : ¬ l5 < -1) (h2 : l5 ≠ -1) (hc : c < 100) (h3 : l5 < jI (c : Int)) : ∃ q : Nat, l5 = jI (q : Int) ∧ q < c := by
  obtain ⟨x, e, x1, x2⟩ := jI_of l5
  subst e
  rw [show (-1 : Int32) = jI (-1) from rfl] at h1 h2
  rw [jI_lt (by omega) (by omega) (by omega) (by omega)] at h1 h3
  have h2' : x ≠ -1 := fun z => h2 (by rw [z])
  exact ⟨x.toNat, by rw [show ((x.toNat : Nat) : Int) = x by omega], by omega⟩
theorem sTr_Q {x k : Nat} (h : sCQ x k = false) : sTr x k = false := by
  have e : ∀ y q, 55 ≤ y → y ≤ 190 → sCQ y q = true := fun y q h1 h2 => sB_t2 ⟨h1, h2⟩
  refine sTr_f (fun z => ?_) (fun z => ?_)
  · rw [e x k (by omega) (by omega)] at h; cases h
  · rw [e x k (by omega) (by omega)] at h; cases h
theorem sTw_Q {x k : Nat} (h : sRQ x k = false) : sTw x k = false := by
  refine sTw_f (fun z => ?_) (fun z => ?_)
  · rw [z.1, sRQ_1 (by omega)] at h; cases h
  · rw [sRQ_2 (by omega)] at h; cases h
theorem w116_q {M : MM} {k : Nat} {W : Nat → WY} {l1 l2 l3 l4 l5 l6 : Int32} {P : Int32 → MM → Prop} (hL : Lay M) (hW : CWs M k W) (hX : ∀ M' r st, Fr sCQ M M' → mI M' 0 10 = st → (r, st) = walA k W l1 l2 l3 l4 l5 l6 → P r M') : w116 0 l1 l2 l3 l4 l5 l6 M P := by
  have hC := CWs_CW hL hW
  refine w116_p ?_
  by_cases hs : walC k l1 l2 l3 l4 l5 = 0
  · obtain ⟨hb, hc, hs2, w, o, n, d, rfl, rfl, rfl, rfl, hw, ho, hwo, n0, n1, d0, d1, e1, e2, e3, e4⟩ := clG_0 hW.2.1 hs
    have h5 : ¬ l5 < -1 := of_decide_eq_true hc
    have eA : walA k W (jI (w : Int)) (jI (o : Int)) (jI n) (jI d) l5 l6 = walV (W w) (W o) n d l5 l6 := by
      unfold walA; rw [if_pos hs, e1, e2, e3, e4]
    rw [eA] at hX
    unfold walV at hX
    have ga := (hW.2.2 w hw).1
    have gb := (hW.2.2 o ho).1
    have a1 := ga.1
    have b1 := gb.1
    have a2 := ga.2.1
    have b2 := gb.2.1
    rw [hb]
    have hF1 : Fr sCQ M (sI M 0 10 (if true = true then chk2 k (jI (w : Int)) (jI (o : Int)) else 1)) := Fr_s0 Fr_r
    refine ⟨0, rfl, kd_0 hL, w62_s (b := true) hC ⟨0, rfl, kd_0 hL, kd_0 hL, st_a (by rw [if_pos rfl]; exact hs2) ⟨kd_0 hL, ?_⟩⟩⟩
    refine w77_s (lay_sI hL) (CWs_Q hF1 hW) hw ho n0 n1 d0 d1 (fun M' hF hM => ?_)
    have hL' := hF.1 (lay_sI hL)
    have hF2 := Fr_mq hF1 hF
    refine ⟨59, rfl, kd_59 hL', w100_s hL' hM ga gb ?_⟩
    cases hv : srv (wn (W w)) (wn (W o)) (geo (W w) (W o) n d) with
    | false =>
      rw [if_neg (by rw [hv]; decide)] at hX
      exact br_f (by decide) ⟨kd_0 hL', kd_0 hL', hX _ _ _ (Fr_s0 hF2) (gI_y ⟨rfl, rfl⟩) rfl⟩
    | true =>
      rw [if_pos hv] at hX
      refine br_t (by decide) ⟨kd_59 hL', w117_s hL' hM ga gb (fun M3 h3 => ?_)⟩
      have hL3 := h3.1.1 hL'
      have hF3 : Fr sCQ M M3 := Fr_t hF2 (Fr_w h3.1 (fun x k => sTr_Q))
      by_cases c1 : l5 = -1
      · rw [if_pos c1] at hX
        refine br_f (fun z => z c1) ⟨kd_59 hL3, kd_0 hL3, kd_0 hL3, ?_⟩
        rw [h3.2.1]
        exact hX _ _ _ (Fr_s0 hF3) (gI_y ⟨rfl, rfl⟩) rfl
      · rw [if_neg c1] at hX
        refine br_t c1 ⟨kd_59 hL3, ?_⟩
        rw [h3.2.1]
        by_cases c2 : l5 < jI ((wn (W w) - 2 + (wn (W o) - 2) + 1 : Nat) : Int)
        · rw [if_pos c2] at hX
          obtain ⟨q, rfl, hq⟩ := nb_j h5 c1 (by omega) c2
          rw [jI_cn (by omega)] at hX
          have ej : jI ((wn (W w) - 2 + (wn (W o) - 2) + 1 : Nat) : Int) - 1 - jI (q : Int) = jI ((wn (W w) - 2 + (wn (W o) - 2) - q : Nat) : Int) := by
            rw [show (1 : Int32) = jI 1 from rfl, jI_sub, jI_sub]; congr 1; omega
          have hent := h3.2.2 (wn (W w) - 2 + (wn (W o) - 2) - q) (by omega)
          refine br_t c2 ⟨kd_59 hL3, ?_⟩
          rw [ej, jI_cn (by omega)]
          by_cases c3 : l6 = 0
          · rw [if_pos c3] at hX
            refine br_t c3 ⟨kd_59 hL3, 61, rf_59_3 hL3, i61 hL3 (by omega), 0, rfl, kd_0 hL3, kd_0 hL3, ?_⟩
            rw [hent.1]
            exact hX _ _ _ (Fr_s0 hF3) (gI_y ⟨rfl, rfl⟩) rfl
          · rw [if_neg c3] at hX
            refine br_f c3 ⟨kd_59 hL3, 62, rf_59_4 hL3, i62 hL3 (by omega), 0, rfl, kd_0 hL3, kd_0 hL3, ?_⟩
            rw [hent.2]
            exact hX _ _ _ (Fr_s0 hF3) (gI_y ⟨rfl, rfl⟩) rfl
        · rw [if_neg c2] at hX
          exact br_f c2 ⟨kd_0 hL3, kd_0 hL3, hX _ _ _ (Fr_s0 hF3) (gI_y ⟨rfl, rfl⟩) rfl⟩
  · refine w116_22_r hC hs (hX _ _ _ (Fr_s0 Fr_r) (gI_y ⟨rfl, rfl⟩) ?_)
    unfold walA
    rw [if_neg hs]; rfl
theorem w252_q {M : MM} {k : Nat} {W : Nat → WY} {l1 l2 l3 l4 l5 l6 : Int32} {P : Int32 → MM → Prop} (hL : Lay M) (hW : RWs M k W) (hX : ∀ M' r st, Fr sRQ M M' → mI M' 203 9 = st → (r, st) = walA k W l1 l2 l3 l4 l5 l6 → P r M') : w252 203 l1 l2 l3 l4 l5 l6 M P := by
  have hC := RWs_RW hL hW
  refine w252_p hC ?_
  by_cases hs : walC k l1 l2 l3 l4 l5 = 0
  · obtain ⟨hb, hc, hs2, w, o, n, d, rfl, rfl, rfl, rfl, hw, ho, hwo, n0, n1, d0, d1, e1, e2, e3, e4⟩ := clG_0 hW.2.1 hs
    have h5 : ¬ l5 < -1 := of_decide_eq_true hc
    have eA : walA k W (jI (w : Int)) (jI (o : Int)) (jI n) (jI d) l5 l6 = walV (W w) (W o) n d l5 l6 := by
      unfold walA; rw [if_pos hs, e1, e2, e3, e4]
    rw [eA] at hX
    unfold walV at hX
    have ga := (hW.2.2 w hw).1
    have gb := (hW.2.2 o ho).1
    have a1 := ga.1
    have b1 := gb.1
    have a2 := ga.2.1
    have b2 := gb.2.1
    have hE := gE_l n0 n1 d0 d1
    rw [hb, if_pos rfl, hs2]
    refine br_t (by decide) ⟨kd_203 hL, ?_⟩
    refine lays_q hL hW hw ho n0 n1 d0 d1 (fun M1 hL1 hF1 hR1 hD1 => ?_)
    refine ⟨kd_203 hL1, w239_0 hL1 hR1 hD1 ga gb hE (fun M2 h2 hS => ?_)⟩
    have hL2 := h2.1 hL1
    have hR2 := RAB_A h2 hR1
    have hF2 : Fr sRQ M M2 := Fr_t hF1 (Fr_w h2 (fun x k => sFA_Q))
    cases hv : srv (wn (W w)) (wn (W o)) (geo (W w) (W o) n d) with
    | false =>
      rw [if_neg (by rw [hv]; decide)] at hX
      exact br_f (by decide) ⟨kd_203 hL2, kd_203 hL2, hX _ _ _ (Fr_s9 hF2) (gI_y ⟨rfl, rfl⟩) rfl⟩
    | true =>
      rw [if_pos hv] at hX
      refine br_t (by decide) ⟨kd_203 hL2, w253_s hL2 hR2 (hS hv) ga gb (fun M3 h3 => ?_)⟩
      have hL3 := h3.1.1 hL2
      have hF3 : Fr sRQ M M3 := Fr_t hF2 (Fr_w h3.1 (fun x k => sTw_Q))
      by_cases c1 : l5 = -1
      · rw [if_pos c1] at hX
        refine br_f (fun z => z c1) ⟨kd_203 hL3, kd_203 hL3, kd_203 hL3, ?_⟩
        rw [h3.2.1]
        exact hX _ _ _ (Fr_s9 hF3) (gI_y ⟨rfl, rfl⟩) rfl
      · rw [if_neg c1] at hX
        refine br_t c1 ⟨kd_203 hL3, ?_⟩
        rw [h3.2.1]
        by_cases c2 : l5 < jI ((wn (W w) - 2 + (wn (W o) - 2) + 1 : Nat) : Int)
        · rw [if_pos c2] at hX
          obtain ⟨q, rfl, hq⟩ := nb_j h5 c1 (by omega) c2
          rw [jI_cn (by omega)] at hX
          have ej : jI ((wn (W w) - 2 + (wn (W o) - 2) + 1 : Nat) : Int) - 1 - jI (q : Int) = jI ((wn (W w) - 2 + (wn (W o) - 2) - q : Nat) : Int) := by
            rw [show (1 : Int32) = jI 1 from rfl, jI_sub, jI_sub]; congr 1; omega
          have hent := h3.2.2 (wn (W w) - 2 + (wn (W o) - 2) - q) (by omega)
          refine br_t c2 ?_
          rw [ej, jI_cn (by omega)]
          by_cases c3 : l6 = 0
          · rw [if_pos c3] at hX
            refine br_t c3 ⟨kd_203 hL3, kd_203 hL3, 229, rf_203_57 hL3, i229 hL3 (by omega), 203, rfl, kd_203 hL3, kd_203 hL3, ?_⟩
            rw [hent.1]
            exact hX _ _ _ (Fr_s9 hF3) (gI_y ⟨rfl, rfl⟩) rfl
          · rw [if_neg c3] at hX
            refine br_f c3 ⟨kd_203 hL3, kd_203 hL3, 230, rf_203_58 hL3, i230 hL3 (by omega), 203, rfl, kd_203 hL3, kd_203 hL3, ?_⟩
            rw [hent.2]
            exact hX _ _ _ (Fr_s9 hF3) (gI_y ⟨rfl, rfl⟩) rfl
        · rw [if_neg c2] at hX
          exact br_f c2 ⟨kd_203 hL3, kd_203 hL3, hX _ _ _ (Fr_s9 hF3) (gI_y ⟨rfl, rfl⟩) rfl⟩
  · refine w252_19_r hC hs (hX _ _ _ (Fr_s9 Fr_r) (gI_y ⟨rfl, rfl⟩) ?_)
    unfold walA
    rw [if_neg hs]; rfl
