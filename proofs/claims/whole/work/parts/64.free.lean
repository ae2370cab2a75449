/-! ===== free, low: both sides ===== -/
def frV (a b : WY) (l : Bool) (i j : Nat) (n d : Int) (first : Bool) : Int32 × Int32 :=
  if frB (xL a b l i j) n d (xF a b l i j) (xS a b l i j) = true then (jI (if first = true then thou (xL a b l i j) d (if fsB n d (xS a b l i j) = true then 0 else xF a b l i j) (-1) (if fsB n d (xS a b l i j) = true then 0 else dD (xL a b l i j) n d (xF a b l i j) (xS a b l i j)) else thou (xL a b l i j) d (if teB (xL a b l i j) n d (xF a b l i j) (xS a b l i j) = true then xL a b l i j else xF a b l i j) 1 (if teB (xL a b l i j) n d (xF a b l i j) (xS a b l i j) = true then 0 else dD (xL a b l i j) n d (xF a b l i j) (xS a b l i j))), 0) else (-1, 5)
def freeC (k : Nat) (W : Nat → WY) (l1 l2 l3 l4 l5 l6 l7 l8 : Int32) : Int32 := if (lsb l6 l7 && or2 l8) = true then chkS k (cnt W) l1 l2 l3 l4 l5 else 1
def freeA (k : Nat) (W : Nat → WY) (l1 l2 l3 l4 l5 l6 l7 l8 : Int32) : Int32 × Int32 :=
  if freeC k W l1 l2 l3 l4 l5 l6 l7 l8 = 0 then frV (W l1.toNatClampNeg) (W l2.toNatClampNeg) (decide (l3 ≠ 0)) l4.toNatClampNeg l5.toNatClampNeg l6.toInt l7.toInt (decide (l8 = 0)) else (-1, freeC k W l1 l2 l3 l4 l5 l6 l7 l8)
theorem Fr_s0 {M M' : MM} {v : Int32} (h : Fr sCQ M M') : Fr sCQ M (sI M' 0 10 v) := Fr_sI h (sB_t1 (by omega))
theorem Fr_s9 {M M' : MM} {v : Int32} (h : Fr sRQ M M') : Fr sRQ M (sI M' 203 9 v) := Fr_sI h (sRQ_1 (by omega))
theorem Fr_mq {M M' M'' : MM} (h : Fr sCQ M M') (h' : Fr sMat M' M'') : Fr sCQ M M'' := Fr_t h (Fr_w h' (fun x k => sMat_Q))
/-- the side that measuredSide gives -/
theorem w76_s {M : MM} {k w o i j : Nat} {W : Nat → WY} {l3 : Int32} {n d : Int} {P : Option Nat → MM → Prop} (hL : Lay M) (hW : CWs M k W) (hw : w < k) (ho : o < k) (hs : isSd (W w) (W o) (decide (l3 ≠ 0)) i j) (h1 : 0 ≤ n) (h2 : n ≤ 100000) (h3 : 1 ≤ d) (h4 : d ≤ 1000)
    (hX : ∀ M' q, Fr sMat M M' → MS M' (W w) (W o) n d → q < 112 → sdE M' (63 + q) (xL (W w) (W o) (decide (l3 ≠ 0)) i j) (xF (W w) (W o) (decide (l3 ≠ 0)) i j) (xS (W w) (W o) (decide (l3 ≠ 0)) i j) n d → mR M' (63 + q) 10 = (lG (geo (W w) (W o) n d) (decide (l3 ≠ 0)) i j).map (fun t => if l3 = 0 then oL i t else oF t j) → P (some (63 + q)) M') : w76 0 (jI (w : Int)) (jI (o : Int)) l3 (jI (i : Int)) (jI (j : Int)) (jI n) (jI d) M P := by
  have ga := (hW.2.2 w hw).1
  have gb := (hW.2.2 o ho).1
  have a2 := ga.2.1
  have b2 := gb.2.1
  refine ⟨kd_0 hL, w77_s hL hW hw ho h1 h2 h3 h4 (fun M' hF hM => ?_)⟩
  have hL' := hF.1 hL
  by_cases e : l3 = 0
  · have ed : decide (l3 ≠ 0) = false := decide_eq_false (fun z => z e)
    rw [ed] at hX hs
    have hs' : i + 1 < wn (W w) ∧ j < wn (W o) := hs
    have q := hM.2.2.2 i j hs'.1 hs'.2
    refine br_t e ⟨59, rfl, kd_59 hL', w82_s hL' (by omega) (hX M' (i * 8 + j) hF hM (by omega) q.1 ?_)⟩
    rw [show (63 + (i * 8 + j)) = oL i j from rfl, q.2]
    simp only [if_pos e]; rfl
  · have ed : decide (l3 ≠ 0) = true := decide_eq_true e
    rw [ed] at hX hs
    have hs' : i < wn (W w) ∧ j + 1 < wn (W o) := hs
    have q := hM.2.2.1 i j hs'.1 hs'.2
    refine br_f e ⟨59, rfl, kd_59 hL', w83_s hL' (by omega) (hX M' ((7 + j) * 8 + i) hF hM (by omega) q.1 ?_)⟩
    rw [show (63 + ((7 + j) * 8 + i)) = oF i j from rfl, q.2]
    simp only [if_neg e]; rfl
theorem w73_q {M : MM} {k : Nat} {W : Nat → WY} {l1 l2 l3 l4 l5 l6 l7 l8 : Int32} {P : Int32 → MM → Prop} (hL : Lay M) (hW : CWs M k W) (hX : ∀ M' r st, Fr sCQ M M' → mI M' 0 10 = st → (r, st) = freeA k W l1 l2 l3 l4 l5 l6 l7 l8 → P r M') : w73 0 l1 l2 l3 l4 l5 l6 l7 l8 M P := by
  have hC := CWs_CW hL hW
  refine w73_p ?_
  by_cases hs : freeC k W l1 l2 l3 l4 l5 l6 l7 l8 = 0
  · have hs' := hs
    unfold freeC at hs
    have hb : (lsb l6 l7 && or2 l8) = true := by
      by_cases z : (lsb l6 l7 && or2 l8) = true
      · exact z
      · rw [if_neg z] at hs; exact absurd hs (by decide)
    rw [if_pos hb] at hs
    obtain ⟨hb1, hb2⟩ := Bool.and_eq_true_iff.mp hb
    obtain ⟨n, d, rfl, rfl, n0, n1, d0, d1⟩ := lsb_j hb1
    obtain ⟨w, o, i, j, rfl, rfl, rfl, rfl, hw, ho, hwo, hij⟩ := chkS_0 hW.2.1 (fun w hw => (hW.2.2 w hw).1.2.1) hs
    have k4 := hW.2.1
    have a2 := (hW.2.2 w hw).1.2.1
    have b2 := (hW.2.2 o ho).1.2.1
    have hsd : isSd (W w) (W o) (decide (l3 ≠ 0)) i j := by
      by_cases e : l3 = 0
      · rw [if_pos e] at hij; rw [decide_eq_false (fun z => z e)]; exact hij
      · rw [if_neg e] at hij; rw [decide_eq_true e]; exact hij
    have hi8 : i < 8 ∧ j < 8 := by unfold isSd at hsd; split at hsd <;> omega
    have eA : freeA k W (jI (w : Int)) (jI (o : Int)) l3 (jI (i : Int)) (jI (j : Int)) (jI n) (jI d) l8 = frV (W w) (W o) (decide (l3 ≠ 0)) i j n d (decide (l8 = 0)) := by
      unfold freeA
      rw [if_pos hs', jI_cn (by omega), jI_cn (by omega), jI_cn (by omega), jI_cn (by omega), jI_toInt (by omega) (by omega), jI_toInt (by omega) (by omega)]
    rw [eA] at hX
    rw [hb]
    refine ⟨0, rfl, kd_0 hL, w75_s (b := true) hC ⟨0, rfl, kd_0 hL, kd_0 hL, st_a (by rw [if_pos rfl]; exact hs) ⟨kd_0 hL, ?_⟩⟩⟩
    have hF1 : Fr sCQ M (sI M 0 10 (if true = true then chkS k (cnt W) (jI (w : Int)) (jI (o : Int)) l3 (jI (i : Int)) (jI (j : Int)) else 1)) := Fr_s0 Fr_r
    have hE := gE_l n0 n1 d0 d1
    refine w76_s (lay_sI hL) (CWs_Q hF1 hW) hw ho hsd n0 n1 d0 d1 (fun M' q hF hM hq hsd' _ => ?_)
    have hL' := hF.1 (lay_sI hL)
    have hF2 := Fr_mq hF1 hF
    have hk := kd_S hL' hq
    have hB := xB (hW.2.2 w hw).1 (hW.2.2 o ho).1 hsd
    refine ⟨63 + q, rfl, hk, ?_⟩
    rw [hsd'.2.2.2.2.2]
    unfold frV at hX
    cases hf : frB (xL (W w) (W o) (decide (l3 ≠ 0)) i j) n d (xF (W w) (W o) (decide (l3 ≠ 0)) i j) (xS (W w) (W o) (decide (l3 ≠ 0)) i j) with
    | false =>
      rw [hf, if_neg (by decide)] at hX
      exact br_f (by decide) ⟨kd_0 hL', kd_0 hL', hX _ _ _ (Fr_s0 hF2) (gI_y ⟨rfl, rfl⟩) rfl⟩
    | true =>
      rw [hf, if_pos rfl] at hX
      refine br_t (by decide) ?_
      by_cases e8 : l8 = 0
      · rw [decide_eq_true e8, if_pos rfl] at hX
        refine br_f (fun z => z e8) ⟨hk, w87_s hk hsd' hB hE hf ⟨0, rfl, kd_0 hL', kd_0 hL', ?_⟩⟩
        exact hX _ _ _ (Fr_s0 hF2) (gI_y ⟨rfl, rfl⟩) rfl
      · rw [decide_eq_false e8, if_neg (by decide)] at hX
        refine br_t e8 ⟨hk, w89_s hk hsd' hB hE hf ⟨0, rfl, kd_0 hL', kd_0 hL', ?_⟩⟩
        exact hX _ _ _ (Fr_s0 hF2) (gI_y ⟨rfl, rfl⟩) rfl
  · refine w73_28_r hC hs (hX _ _ _ (Fr_s0 Fr_r) (gI_y ⟨rfl, rfl⟩) ?_)
    unfold freeA
    rw [if_neg hs]; rfl
theorem REd_s (M : MM) (n d : Int) : REd (sL (sL M 203 29 (jL n)) 203 30 (jL d)) n d := by
  refine ⟨?_, ?_⟩ <;> simp (disch := omega) only [gI_y, gI_n, gL_y, gL_n, gR_y, gR_n, gI_sL, gI_sR, gL_sI, gL_sR, gR_sI, gR_sL]
/-- ways and leash laid by the reference -/
theorem lays_q {M : MM} {k w o : Nat} {W : Nat → WY} {n d : Int} {P : MM → Prop} (hL : Lay M) (hW : RWs M k W) (hw : w < k) (ho : o < k) (h1 : 0 ≤ n) (h2 : n ≤ 100000) (h3 : 1 ≤ d) (h4 : d ≤ 1000) (hX : ∀ M', Lay M' → Fr sRQ M M' → RAB M' (W w) (W o) → REd M' n d → P M') : w211 203 (jI (w : Int)) (jI (o : Int)) M (fun M1 => kd M1 203 10 ∧ w215 203 (jI n) (jI d) M1 P) := by
  refine w211_s hL hW hw ho (fun M1 hF1 hR1 => ?_)
  have hL1 := hF1.1 hL
  refine ⟨kd_203 hL1, w215_s hL1 (by omega) (by omega) ?_⟩
  refine hX _ (lay_sL (lay_sL hL1)) (Fr_sL (Fr_sL (Fr_w hF1 (fun x k => sRL_Q)) (sRQ_1 (by omega))) (sRQ_1 (by omega))) ?_ (REd_s M1 n d)
  exact hR1
theorem w208_q {M : MM} {k : Nat} {W : Nat → WY} {l1 l2 l3 l4 l5 l6 l7 l8 : Int32} {P : Int32 → MM → Prop} (hL : Lay M) (hW : RWs M k W) (hX : ∀ M' r st, Fr sRQ M M' → mI M' 203 9 = st → (r, st) = freeA k W l1 l2 (bI (decide (l3 ≠ 0))) l4 l5 l6 l7 l8 → P r M') : w208 203 l1 l2 (bI (decide (l3 ≠ 0))) l4 l5 l6 l7 l8 M P := by
  have hC := RWs_RW hL hW
  generalize hl3 : bI (decide (l3 ≠ 0)) = l3' at *
  have hl01 : l3' = bI (decide (l3' ≠ 0)) := by
    rw [← hl3]
    cases decide (l3 ≠ 0) <;> decide
  by_cases hs : freeC k W l1 l2 l3' l4 l5 l6 l7 l8 = 0
  · have hs' := hs
    unfold freeC at hs
    have hb : (lsb l6 l7 && or2 l8) = true := by
      by_cases z : (lsb l6 l7 && or2 l8) = true
      · exact z
      · rw [if_neg z] at hs; exact absurd hs (by decide)
    rw [if_pos hb] at hs
    obtain ⟨hb1, hb2⟩ := Bool.and_eq_true_iff.mp hb
    have hl := hb1
    obtain ⟨n, d, rfl, rfl, n0, n1, d0, d1⟩ := lsb_j hb1
    have hs2 := hs
    obtain ⟨w, o, i, j, rfl, rfl, rfl, rfl, hw, ho, hwo, hij⟩ := chkS_0 hW.2.1 (fun w hw => (hW.2.2 w hw).1.2.1) hs
    have k4 := hW.2.1
    have ga := (hW.2.2 w hw).1
    have gb := (hW.2.2 o ho).1
    have a2 := ga.2.1
    have b2 := gb.2.1
    have hsd : isSd (W w) (W o) (decide (l3' ≠ 0)) i j := by
      by_cases e : l3' = 0
      · rw [if_pos e] at hij; rw [decide_eq_false (fun z => z e)]; exact hij
      · rw [if_neg e] at hij; rw [decide_eq_true e]; exact hij
    have hi8 : i < 8 ∧ j < 8 := by unfold isSd at hsd; split at hsd <;> omega
    have eA : freeA k W (jI (w : Int)) (jI (o : Int)) l3' (jI (i : Int)) (jI (j : Int)) (jI n) (jI d) l8 = frV (W w) (W o) (decide (l3' ≠ 0)) i j n d (decide (l8 = 0)) := by
      unfold freeA
      rw [if_pos hs', jI_cn (by omega), jI_cn (by omega), jI_cn (by omega), jI_cn (by omega), jI_toInt (by omega) (by omega), jI_toInt (by omega) (by omega)]
    rw [eA] at hX
    refine w209_s ?_
    rw [hl]
    refine br_f (by decide) (w166_s ?_)
    rw [← or2_fr, hb2]
    refine br_t (by decide) ⟨kd_203 hL, w210_s hC ?_⟩
    rw [hs2]
    refine br_t (by decide) ⟨kd_203 hL, ?_⟩
    refine lays_q hL hW hw ho n0 n1 d0 d1 (fun M1 hL1 hF1 hR1 hD1 => ?_)
    have hE := gE_l n0 n1 d0 d1
    refine ⟨kd_203 hL1, w216_s hL1 hR1 hD1 ga gb hE (fun M2 h2 => ?_)⟩
    have hL2 := h2.1.1 hL1
    have hF2 : Fr sRQ M M2 := Fr_t hF1 (Fr_w h2.1 (fun x k => sFA_Q))
    rw [hl01]
    refine w218_s ⟨kd_203 hL2, 214, rf_203_34 hL2, i214 hL2 (sX_lt ga gb hsd), ?_⟩
    have hr := h2.2.2.1 _ _ _ hsd
    have hB := xB ga gb hsd
    have hm := sdB_m hB hE
    have hB' := hB
    unfold sdB at hB'
    have hs8 := sX_lt ga gb hsd
    rw [jI_cn (by omega), hr.1]
    unfold frV at hX
    generalize xL (W w) (W o) (decide (l3' ≠ 0)) i j = L at *
    generalize xF (W w) (W o) (decide (l3' ≠ 0)) i j = f at *
    generalize xS (W w) (W o) (decide (l3' ≠ 0)) i j = q at *
    generalize sX (decide (l3' ≠ 0)) i j = sx at *
    cases hf : frB L n d f q with
    | false =>
      rw [hf, if_neg (by decide)] at hX
      exact br_f (by decide) ⟨kd_203 hL2, kd_203 hL2, hX _ _ _ (Fr_s9 hF2) (gI_y ⟨rfl, rfl⟩) rfl⟩
    | true =>
      rw [hf, if_pos rfl] at hX
      obtain ⟨r1, r2, r3, r4, _⟩ := hr.2.2.1 hf
      have D0 := fr_D hB.1 hE.2.2.1 hf
      have hed := (REd_A h2.1 hD1).2
      refine br_t (by decide) ?_
      by_cases e8 : l8 = 0
      · rw [decide_eq_true e8, if_pos rfl] at hX
        refine br_f (fun z => z e8) ?_
        simp (disch := omega) only [kd_203 hL2, true_and, rf_203_37 hL2, rf_203_38 hL2, rf_203_44 hL2, Option.some.injEq, exists_eq_left', i217 hL2, i218 hL2, i224 hL2, jI_cn, r1, r2, hr.2.1, jI_lit, jL_lit, jI_add, jI_sub, jI_mul, jI_neg, jL_add, jL_sub, jL_mul, jL_neg, jL_i]
        refine w228_s (L := L) (d := d) (base := if fsB n d q = true then 0 else f) (g := -1) (root := if fsB n d q = true then 0 else dD L n d f q) hL2 hed (by omega) (by omega) (Or.inr rfl) (by omega) (by omega) (by split <;> omega) (by split <;> omega) (by split <;> omega) (by split <;> omega) ?_
        refine ⟨203, rfl, kd_203 hL2, kd_203 hL2, ?_⟩
        exact hX _ _ _ (Fr_s9 hF2) (gI_y ⟨rfl, rfl⟩) rfl
      · rw [decide_eq_false e8, if_neg (by decide)] at hX
        refine br_t e8 ?_
        simp (disch := omega) only [kd_203 hL2, true_and, rf_203_39 hL2, rf_203_40 hL2, rf_203_44 hL2, Option.some.injEq, exists_eq_left', i219 hL2, i220 hL2, i224 hL2, jI_cn, r3, r4, hr.2.1, jI_lit, jL_lit, jI_add, jI_sub, jI_mul, jI_neg, jL_add, jL_sub, jL_mul, jL_neg, jL_i]
        refine w228_s (L := L) (d := d) (base := if teB L n d f q = true then L else f) (g := 1) (root := if teB L n d f q = true then 0 else dD L n d f q) hL2 hed (by omega) (by omega) (Or.inl rfl) (by omega) (by omega) (by split <;> omega) (by split <;> omega) (by split <;> omega) (by split <;> omega) ?_
        refine ⟨203, rfl, kd_203 hL2, kd_203 hL2, ?_⟩
        exact hX _ _ _ (Fr_s9 hF2) (gI_y ⟨rfl, rfl⟩) rfl
  · refine w208_r hC hs (hX _ _ _ (Fr_s9 Fr_r) (gI_y ⟨rfl, rfl⟩) ?_)
    unfold freeA
    rw [if_neg hs]; rfl
