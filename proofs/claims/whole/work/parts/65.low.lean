/-! ===== low: both sides ===== -/
def lowV (a b : WY) (l : Bool) (i j : Nat) (n d : Int) : Int32 × Int32 := match lG (geo a b n d) l i j with
  | none => (-1, 5)
  | some t => (jI (thou (xL a b l i j) d (if fsB n d (pS a b l i j t) = true then 0 else pF a b l i j t) (-1) (if fsB n d (pS a b l i j t) = true then 0 else dD (xL a b l i j) n d (pF a b l i j t) (pS a b l i j t))), 0)
def lowC (k : Nat) (W : Nat → WY) (l1 l2 l3 l4 l5 l6 l7 : Int32) : Int32 := if lsb l6 l7 = true then chkS k (cnt W) l1 l2 l3 l4 l5 else 1
def lowA (k : Nat) (W : Nat → WY) (l1 l2 l3 l4 l5 l6 l7 : Int32) : Int32 × Int32 :=
  if lowC k W l1 l2 l3 l4 l5 l6 l7 = 0 then lowV (W l1.toNatClampNeg) (W l2.toNatClampNeg) (decide (l3 ≠ 0)) l4.toNatClampNeg l5.toNatClampNeg l6.toInt l7.toInt else (-1, lowC k W l1 l2 l3 l4 l5 l6 l7)
/-- what a good call of low has -/
theorem lowC_0 {k : Nat} {W : Nat → WY} {l1 l2 l3 l4 l5 l6 l7 : Int32} (hk : k ≤ 4) (hg : ∀ w, w < k → gW (W w)) (hs : lowC k W l1 l2 l3 l4 l5 l6 l7 = 0) :
    lsb l6 l7 = true ∧ chkS k (cnt W) l1 l2 l3 l4 l5 = 0 ∧ ∃ (w o i j : Nat) (n d : Int), l1 = jI (w : Int) ∧ l2 = jI (o : Int) ∧ l4 = jI (i : Int) ∧ l5 = jI (j : Int) ∧ l6 = jI n ∧ l7 = jI d ∧ w < k ∧ o < k ∧ isSd (W w) (W o) (decide (l3 ≠ 0)) i j ∧ 0 ≤ n ∧ n ≤ 100000 ∧ 1 ≤ d ∧ d ≤ 1000 ∧ lowA k W l1 l2 l3 l4 l5 l6 l7 = lowV (W w) (W o) (decide (l3 ≠ 0)) i j n d := by
  have hs' := hs
  unfold lowC at hs
  have hb : lsb l6 l7 = true := by
    by_cases z : lsb l6 l7 = true
    · exact z
    · rw [if_neg z] at hs; exact absurd hs (by decide)
  rw [if_pos hb] at hs
  have hs2 := hs
  have hb2 := hb
  obtain ⟨n, d, rfl, rfl, n0, n1, d0, d1⟩ := lsb_j hb
  obtain ⟨w, o, i, j, rfl, rfl, rfl, rfl, hw, ho, hwo, hij⟩ := chkS_0 hk (fun w hw => (hg w hw).2.1) hs
  have a2 := (hg w hw).2.1
  have b2 := (hg o ho).2.1
  have hsd : isSd (W w) (W o) (decide (l3 ≠ 0)) i j := by
    by_cases e : l3 = 0
    · rw [if_pos e] at hij; rw [decide_eq_false (fun z => z e)]; exact hij
    · rw [if_neg e] at hij; rw [decide_eq_true e]; exact hij
  have hi8 : i < 8 ∧ j < 8 := by unfold isSd at hsd; split at hsd <;> omega
  refine ⟨hb2, hs2, w, o, i, j, n, d, rfl, rfl, rfl, rfl, rfl, rfl, hw, ho, hsd, n0, n1, d0, d1, ?_⟩
  unfold lowA
  rw [if_pos hs', jI_cn (by omega), jI_cn (by omega), jI_cn (by omega), jI_cn (by omega), jI_toInt (by omega) (by omega), jI_toInt (by omega) (by omega)]
theorem w90_q {M : MM} {k : Nat} {W : Nat → WY} {l1 l2 l3 l4 l5 l6 l7 : Int32} {P : Int32 → MM → Prop} (hL : Lay M) (hW : CWs M k W) (hX : ∀ M' r st, Fr sCQ M M' → mI M' 0 10 = st → (r, st) = lowA k W l1 l2 l3 l4 l5 l6 l7 → P r M') : w90 0 l1 l2 l3 l4 l5 l6 l7 M P := by
  have hC := CWs_CW hL hW
  by_cases hs : lowC k W l1 l2 l3 l4 l5 l6 l7 = 0
  · obtain ⟨hb, hs2, w, o, i, j, n, d, rfl, rfl, rfl, rfl, rfl, rfl, hw, ho, hsd, n0, n1, d0, d1, eA⟩ := lowC_0 hW.2.1 (fun w hw => (hW.2.2 w hw).1) hs
    rw [eA] at hX
    have ga := (hW.2.2 w hw).1
    have gb := (hW.2.2 o ho).1
    have a2 := ga.2.1
    have b2 := gb.2.1
    have hE := gE_l n0 n1 d0 d1
    have ok := geo_ok (n := n) ga gb hE.2.2.1
    refine w74_s ?_
    rw [hb]
    refine ⟨kd_0 hL, w75_s (b := true) hC ⟨kd_0 hL, kd_0 hL, st_a (by rw [if_pos rfl]; exact hs2) ⟨kd_0 hL, ?_⟩⟩⟩
    have hF1 : Fr sCQ M (sI M 0 10 (if true = true then chkS k (cnt W) (jI (w : Int)) (jI (o : Int)) l3 (jI (i : Int)) (jI (j : Int)) else 1)) := Fr_s0 Fr_r
    refine w76_s (lay_sI hL) (CWs_Q hF1 hW) hw ho hsd n0 n1 d0 d1 (fun M' q hF hM hq hsd' hlo => ?_)
    have hL' := hF.1 (lay_sI hL)
    have hF2 := Fr_mq hF1 hF
    have hk := kd_S hL' hq
    refine ⟨63 + q, rfl, hk, ?_⟩
    rw [hlo]
    unfold lowV at hX
    cases hg : lG (geo (W w) (W o) n d) (decide (l3 ≠ 0)) i j with
    | none =>
      rw [hg] at hX
      exact ⟨fun z => absurd rfl z, fun _ => ⟨kd_0 hL', kd_0 hL', hX _ _ _ (Fr_s0 hF2) (gI_y ⟨rfl, rfl⟩) rfl⟩⟩
    | some t =>
      rw [hg] at hX
      dsimp only at hX
      refine ⟨fun _ => ⟨if l3 = 0 then oL i t else oF t j, rfl, ?_⟩, fun z => absurd z (by simp)⟩
      by_cases e : l3 = 0
      · have ed : decide (l3 ≠ 0) = false := decide_eq_false (fun z => z e)
        rw [ed] at hX hsd hg
        have hs' : i + 1 < wn (W w) ∧ j < wn (W o) := hsd
        have z := lw_free ok hs'.1 hs'.2 hg
        have q1 := (hM.2.2.2 i t hs'.1 (by omega)).1
        have hk2 : kd M' (oL i t) 7 := kd_S hL' (by omega)
        rw [if_pos e]
        refine ⟨hk2, w87_s hk2 q1 (sdB_of ga gb hs'.1 (by omega)) hE z.2 ⟨kd_0 hL', kd_0 hL', ?_⟩⟩
        exact hX _ _ _ (Fr_s0 hF2) (gI_y ⟨rfl, rfl⟩) rfl
      · have ed : decide (l3 ≠ 0) = true := decide_eq_true e
        rw [ed] at hX hsd hg
        have hs' : i < wn (W w) ∧ j + 1 < wn (W o) := hsd
        have z := lf_free ok hs'.1 hs'.2 hg
        have q1 := (hM.2.2.1 t j (by omega) hs'.2).1
        have hk2 : kd M' (oF t j) 7 := kd_S hL' (by omega)
        rw [if_neg e]
        refine ⟨hk2, w87_s hk2 q1 (sdB_of gb ga hs'.2 (by omega)) hE z.2 ⟨kd_0 hL', kd_0 hL', ?_⟩⟩
        exact hX _ _ _ (Fr_s0 hF2) (gI_y ⟨rfl, rfl⟩) rfl
  · refine w90_r hC hs (hX _ _ _ (Fr_s0 Fr_r) (gI_y ⟨rfl, rfl⟩) ?_)
    unfold lowA
    rw [if_neg hs]; rfl
theorem lG_free {a b : WY} {n d : Int} {l : Bool} {i j t : Nat} (ga : gW a) (gb : gW b) (hE : gE n d) (hsd : isSd a b l i j) (h : lG (geo a b n d) l i j = some t) : sdB (xL a b l i j) (pF a b l i j t) (pS a b l i j t) ∧ frB (xL a b l i j) n d (pF a b l i j t) (pS a b l i j t) = true := by
  have ok := geo_ok (n := n) ga gb hE.2.2.1
  cases l with
  | true =>
    have hs' : i < wn a ∧ j + 1 < wn b := hsd
    have z := lf_free ok hs'.1 hs'.2 h
    exact ⟨sdB_of gb ga hs'.2 (by omega), z.2⟩
  | false =>
    have hs' : i + 1 < wn a ∧ j < wn b := hsd
    have z := lw_free ok hs'.1 hs'.2 h
    exact ⟨sdB_of ga gb hs'.1 (by omega), z.2⟩
theorem w229_q {M : MM} {k : Nat} {W : Nat → WY} {l1 l2 l3 l4 l5 l6 l7 : Int32} {P : Int32 → MM → Prop} (hL : Lay M) (hW : RWs M k W) (hX : ∀ M' r st, Fr sRQ M M' → mI M' 203 9 = st → (r, st) = lowA k W l1 l2 (bI (decide (l3 ≠ 0))) l4 l5 l6 l7 → P r M') : w229 203 l1 l2 (bI (decide (l3 ≠ 0))) l4 l5 l6 l7 M P := by
  have hC := RWs_RW hL hW
  generalize hl3 : bI (decide (l3 ≠ 0)) = l3' at *
  have hl01 : l3' = bI (decide (l3' ≠ 0)) := by
    rw [← hl3]
    cases decide (l3 ≠ 0) <;> decide
  by_cases hs : lowC k W l1 l2 l3' l4 l5 l6 l7 = 0
  · obtain ⟨hb, hs2, w, o, i, j, n, d, rfl, rfl, rfl, rfl, rfl, rfl, hw, ho, hsd, n0, n1, d0, d1, eA⟩ := lowC_0 hW.2.1 (fun w hw => (hW.2.2 w hw).1) hs
    rw [eA] at hX
    have ga := (hW.2.2 w hw).1
    have gb := (hW.2.2 o ho).1
    have hE := gE_l n0 n1 d0 d1
    refine w209_s ?_
    rw [hb]
    refine br_t (by decide) ⟨kd_203 hL, w210_s hC ?_⟩
    rw [hs2]
    refine br_t (by decide) ⟨kd_203 hL, ?_⟩
    refine lays_q hL hW hw ho n0 n1 d0 d1 (fun M1 hL1 hF1 hR1 hD1 => ?_)
    refine ⟨kd_203 hL1, w230_s hL1 hR1 hD1 ga gb hE (fun M2 h2 => ?_)⟩
    have hL2 := h2.1.1 hL1
    have hF2 : Fr sRQ M M2 := Fr_t hF1 (Fr_w h2.1 (fun x k => sFA_Q))
    have hed := (REd_A h2.1 hD1).2
    have hrf := h2.2.1 _ _ _ hsd
    have hrl := h2.2.2.2 _ _ _ hsd
    have hs8 := sX_lt ga gb hsd
    rw [hl01]
    refine w218_s ⟨kd_203 hL2, 215, rf_203_35 hL2, i215 hL2 hs8, ?_⟩
    rw [jI_cn (by omega), rl_some hrl]
    unfold lowV at hX
    cases hg : lG (geo (W w) (W o) n d) (decide (l3' ≠ 0)) i j with
    | none =>
      rw [hg] at hX
      exact br_t rfl ⟨kd_203 hL2, kd_203 hL2, hX _ _ _ (Fr_s9 hF2) (gI_y ⟨rfl, rfl⟩) rfl⟩
    | some t =>
      rw [hg] at hX hrl
      dsimp only at hX
      obtain ⟨q1, q2⟩ := lG_free ga gb hE hsd hg
      obtain ⟨_, r2, r3, g, r4, r5⟩ := hrl
      have r6 := hrf.2.1
      have hm := sdB_m q1 hE
      have D0 := fr_D q1.1 hE.2.2.1 q2
      have q1' := q1
      unfold sdB at q1'
      generalize xL (W w) (W o) (decide (l3' ≠ 0)) i j = L at *
      generalize pF (W w) (W o) (decide (l3' ≠ 0)) i j t = f at *
      generalize pS (W w) (W o) (decide (l3' ≠ 0)) i j t = q at *
      generalize sX (decide (l3' ≠ 0)) i j = sx at *
      have gg : g = 1 ∨ g = -1 := by
        rcases r5 with z | z
        · exact Or.inr z
        · exact Or.inl z.1
      refine br_f (show ¬ bI true = 0 by decide) ?_
      simp (disch := omega) only [kd_203 hL2, true_and, rf_203_41 hL2, rf_203_43 hL2, rf_203_42 hL2, rf_203_44 hL2, Option.some.injEq, exists_eq_left', i221 hL2, i223 hL2, i222 hL2, i224 hL2, jI_cn, r2, r3, r4, r6]
      refine w228_s (L := L) (d := d) (base := if fsB n d q = true then 0 else f) (g := g) (root := if fsB n d q = true then 0 else dD L n d f q) hL2 hed (by omega) (by omega) gg (by omega) (by omega) (by split <;> omega) (by split <;> omega) (by split <;> omega) (by split <;> omega) ?_
      refine ⟨kd_203 hL2, kd_203 hL2, ?_⟩
      rw [thou_g (g := g) (g' := -1) (by
        rcases r5 with z | z
        · exact Or.inl z
        · right; rw [if_pos z.2])]
      exact hX _ _ _ (Fr_s9 hF2) (gI_y ⟨rfl, rfl⟩) rfl
  · refine w229_r hC hs (hX _ _ _ (Fr_s9 Fr_r) (gI_y ⟨rfl, rfl⟩) ?_)
    unfold lowA
    rw [if_neg hs]; rfl
