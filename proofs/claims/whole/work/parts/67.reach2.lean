/-! ===== reach: outer loops ===== -/
theorem w123_64_s {M : MM} {a b : WY} {n d : Int} {what : Int32} {P : Int32 → MM → Prop} (hL : Lay M) (hM : MS M a b n d) (ga : gW a) (gb : gW b) :
    ∀ (q i : Nat) (s : T3), i + q + 1 = wn a → okT (8 * i) s → (∀ s', s' = allF (Rc (geo a b n d)) (wn b - 1) q i s → okT 64 s' → P (if what = 0 then jI s'.1 else if s'.1 = 0 then -1 else jI (pick what s')) (sI M 0 10 (if what = 0 then 0 else if s'.1 = 0 then 5 else 0))) → w123_64 (q + 1) 0 what (some 59) (jI s.1) (jI (pick what s)) (jI (i : Int)) M P := by
  have a2 := ga.2.1
  have b1 := gb.1
  intro q
  induction q with
  | zero =>
    intro i s hi hk hX
    refine ⟨59, rfl, kd_59 hL, ?_⟩
    rw [hM.1, jI_le (by omega) (by omega) (by omega) (by omega)]
    have hk' := hk
    unfold okT at hk
    have hX' := hX s rfl (by unfold okT; omega)
    refine br_t (by omega) ?_
    unfold w123_150 w123_163
    by_cases e0 : what = 0
    · rw [if_pos e0, if_pos e0] at hX'
      exact br_t e0 (br_f (fun z => z e0) ⟨0, rfl, kd_0 hL, kd_0 hL, hX'⟩)
    · rw [if_neg e0, if_neg e0] at hX'
      refine br_f e0 ?_
      by_cases c : s.1 = 0
      · rw [if_pos c, if_pos c] at hX'
        refine br_f (fun z => z (by rw [c]; rfl)) ⟨kd_0 hL, kd_0 hL, hX'⟩
      · rw [if_neg c, if_neg c] at hX'
        have c' : jI s.1 ≠ 0 := fun z => c ((jI_eq (a := s.1) (b := 0) (by omega) (by omega) (by omega) (by omega)).mp z)
        exact br_t c' (br_t e0 ⟨0, rfl, kd_0 hL, kd_0 hL, hX'⟩)
  | succ q ih =>
    intro i s hi hk hX
    refine ⟨59, rfl, kd_59 hL, ?_⟩
    rw [hM.1, jI_le (by omega) (by omega) (by omega) (by omega)]
    refine br_f (by omega) ⟨wn b - 1 + 1, ?_⟩
    refine w123_77_s hL hM ga gb (by omega) (wn b - 1) 0 s (by omega) hk (fun s' hs' hk' => ?_)
    exact ih (i + 1) s' (by omega) hk' (fun s'' e => hX s'' (by rw [e, hs']; rfl))
theorem w123_q {M : MM} {k : Nat} {W : Nat → WY} {l1 l2 l3 l4 l5 : Int32} {P : Int32 → MM → Prop} (hL : Lay M) (hW : CWs M k W) (hX : ∀ M' r st, Fr sCQ M M' → mI M' 0 10 = st → (r, st) = reaA k W l1 l2 l3 l4 l5 → P r M') : w123 0 l1 l2 l3 l4 l5 M P := by
  have hC := CWs_CW hL hW
  refine w123_p ?_
  by_cases hs : clC k l1 l2 l3 l4 l5 = 0
  · obtain ⟨hb, hs2, w, o, n, d, rfl, rfl, rfl, rfl, hw, ho, hwo, n0, n1, d0, d1, e1, e2, e3, e4⟩ := clC_0 hW.2.1 hs
    have eA : reaA k W (jI (w : Int)) (jI (o : Int)) (jI n) (jI d) l5 = reaV (W w) (W o) n d l5 := by
      unfold reaA; rw [if_pos hs, e1, e2, e3, e4]
    rw [eA] at hX
    have ga := (hW.2.2 w hw).1
    have gb := (hW.2.2 o ho).1
    have a1 := ga.1
    rw [hb]
    have hF1 : Fr sCQ M (sI M 0 10 (if true = true then chk2 k (jI (w : Int)) (jI (o : Int)) else 1)) := Fr_s0 Fr_r
    refine ⟨0, rfl, kd_0 hL, w62_s (b := true) hC ⟨0, rfl, kd_0 hL, kd_0 hL, st_a (by rw [if_pos rfl]; exact hs2) ⟨kd_0 hL, ?_⟩⟩⟩
    refine w77_s (lay_sI hL) (CWs_Q hF1 hW) hw ho n0 n1 d0 d1 (fun M' hF hM => ?_)
    have hL' := hF.1 (lay_sI hL)
    have hF2 := Fr_mq hF1 hF
    refine ⟨wn (W w) - 1 + 1, ?_⟩
    have := w123_64_s (what := l5) (P := P) hL' hM ga gb (wn (W w) - 1) 0 (0, -1, -1) (by omega) (by unfold okT; dsimp only; omega) (fun s' hs' _ => hX _ _ _ (Fr_s0 hF2) (gI_y ⟨rfl, rfl⟩) ?_)
    · have ep : jI (pick l5 (0, -1, -1)) = -1 := by unfold pick; rw [ite_self]; rfl
      rw [ep] at this
      exact this
    · unfold reaV
      rw [hs']
      by_cases c0 : l5 = 0
      · rw [if_pos c0, if_pos c0, if_pos c0]
      · rw [if_neg c0, if_neg c0, if_neg c0]
        split <;> rfl
  · refine w123_27_r hC hs (hX _ _ _ (Fr_s0 Fr_r) (gI_y ⟨rfl, rfl⟩) ?_)
    unfold reaA
    rw [if_neg hs]; rfl
theorem Rc_0 (G : GG) : Rc G 0 0 = gN G 0 0 := by
  unfold Rc
  rw [lf_0, lw_0]
  show ((if gN G 0 0 = true then some 0 else none).isSome || (if gN G 0 0 = true then some 0 else none).isSome) = gN G 0 0
  cases gN G 0 0 <;> rfl
theorem w259_80_s {M M0 : MM} {a b : WY} {n d : Int} {i : Nat} {what : Int32} {k66 : Nat → Int32 → Int32 → Int32 → Int32 → Int32 → MM → Prop} {P : Int32 → MM → Prop} (hL0 : Lay M0) (hR : RAB M0 a b) (hD : REd M0 n d) (hS : RST M0 a b n d (lG (geo a b n d)) M) (ga : gW a) (gb : gW b) (hE : gE n d) (hi : i + 1 < wn a) :
    ∀ (q j : Nat) (s : T3), j + q + 1 = wn b → okT (8 * i + j) s → (∀ s', s' = rowF (Rc (geo a b n d)) i q j s → okT (8 * (i + 1)) s' → k66 203 what (jI s'.1) (jI s'.2.1) (jI s'.2.2) (jI ((i + 1 : Nat) : Int)) M) → w259_80 k66 (q + 1) 203 what (jI s.1) (jI s.2.1) (jI s.2.2) (jI (i : Int)) (jI (j : Int)) M P := by
  have a2 := ga.2.1
  have b2 := gb.2.1
  have hL := hS.1.1 hL0
  have hR' := RAB_A hS.1 hR
  have hD' := REd_A hS.1 hD
  intro q
  induction q with
  | zero =>
    intro j s hj hk hX
    refine ⟨kd_203 hL, ?_⟩
    rw [hR'.2.1]
    simp (disch := omega) only [jI_lit, jL_lit, jI_add, jI_sub, jI_mul, jI_neg, jL_add, jL_sub, jL_mul, jL_neg, jL_i, jI_eq, jI_le, jI_lt, jL_eq, jL_le, jL_lt, jI_l, c_s1]
    refine br_t (by omega) (hX s rfl ?_)
    unfold okT at *
    omega
  | succ q ih =>
    intro j s hj hk hX
    refine ⟨kd_203 hL, ?_⟩
    rw [hR'.2.1]
    simp (disch := omega) only [jI_lit, jL_lit, jI_add, jI_sub, jI_mul, jI_neg, jL_add, jL_sub, jL_mul, jL_neg, jL_i, jI_eq, jI_le, jI_lt, jL_eq, jL_le, jL_lt, jI_l, lc_le, lc_ge, lc_lt, lc_gt, lc_eq, ne_eq]
    refine br_f (by omega) ?_
    have hk' := okT_s (R := Rc (geo a b n d)) (i := i) (j := j) hk (by omega) (by omega)
    have nx := ih (j + 1) (stp (Rc (geo a b n d)) i j s) (by omega) hk' hX
    unfold okT at hk
    have go : ∀ z : Bool, z = Rc (geo a b n d) i j → w259_149 k66 (fun z0 z1 z2 z3 z4 z5 z6 z7 => w259_80 k66 (q + 1) z0 z1 z2 z3 z4 z5 z6 z7 P) 203 what (jI s.1) (jI s.2.1) (jI s.2.2) (jI (i : Int)) (jI (j : Int)) (bI z) M P := by
      intro z hz
      unfold w259_149 w259_180
      unfold stp at nx
      rw [← hz] at nx
      cases z with
      | false =>
        rw [if_neg (by decide)] at nx
        refine br_f (by decide) ?_
        simp only [jI_lit, jL_lit, jI_add, jI_sub, jI_mul, jI_neg, jL_add, jL_sub, jL_mul, jL_neg, jL_i, c_s1]
        exact nx
      | true =>
        rw [if_pos rfl] at nx
        refine br_t (by decide) (w33_s (by omega) (by omega) (by omega) (by omega) (w33_s (by omega) (by omega) (by omega) (by omega) ?_))
        simp only [jI_lit, jL_lit, jI_add, jI_sub, jI_mul, jI_neg, jL_add, jL_sub, jL_mul, jL_neg, jL_i, c_s1]
        exact nx
    have sdF : isSd a b true i j := ⟨by omega, by omega⟩
    have sdW : isSd a b false i j := ⟨hi, by omega⟩
    have rF : mI M 215 (sX true i j) = bI (lf (geo a b n d) i j).isSome := rl_some (hS.2.2.2 true i j sdF)
    have rW : mI M 215 (sX false i j) = bI (lw (geo a b n d) i j).isSome := rl_some (hS.2.2.2 false i j sdW)
    refine ⟨fun c => ⟨kd_203 hL, w218_s (l := true) ?_⟩, fun c => ?_⟩
    · refine ⟨215, rf_203_35 hL, i215 hL (sX_lt ga gb sdF), ?_⟩
      rw [jI_cn (by have := sX_lt ga gb sdF; omega), rF]
      cases h1 : (lf (geo a b n d) i j).isSome with
      | true => exact br_t (by decide) (go true (by unfold Rc; rw [h1]; rfl))
      | false =>
        refine br_f (by decide) ⟨kd_203 hL, w218_s (l := false) ⟨215, rf_203_35 hL, i215 hL (sX_lt ga gb sdW), ?_⟩⟩
        rw [jI_cn (by have := sX_lt ga gb sdW; omega), rW]
        cases h2 : (lw (geo a b n d) i j).isSome with
        | true => exact br_f (by decide) (go true (by unfold Rc; rw [h1, h2]; rfl))
        | false => exact br_t rfl (go false (by unfold Rc; rw [h1, h2]; rfl))
    · have ei : i = 0 := by omega
      have ej : j = 0 := by omega
      subst ei ej
      have hq := qd_b ga gb (i := 0) (j := 0) (by omega) (by omega)
      refine ⟨kd_203 hL, w231_s (i := 0) (j := 0) hL hR' ga gb (by omega) (by omega) ⟨kd_203 hL, w232_s hL hD' hE hq.1 hq.2 ?_⟩⟩
      exact go _ (Rc_0 (geo a b n d)).symm
theorem w259_66_s {M M0 : MM} {a b : WY} {n d : Int} {what : Int32} {P : Int32 → MM → Prop} (hL0 : Lay M0) (hR : RAB M0 a b) (hD : REd M0 n d) (hS : RST M0 a b n d (lG (geo a b n d)) M) (ga : gW a) (gb : gW b) (hE : gE n d) :
    ∀ (q i : Nat) (s : T3), i + q + 1 = wn a → okT (8 * i) s → (∀ s', s' = allF (Rc (geo a b n d)) (wn b - 1) q i s → okT 64 s' → P (if what = 0 then jI s'.1 else if s'.1 = 0 then -1 else jI (pick what s')) (sI M 203 9 (if what = 0 then 0 else if s'.1 = 0 then 5 else 0))) → w259_66 (q + 1) 203 what (jI s.1) (jI s.2.1) (jI s.2.2) (jI (i : Int)) M P := by
  have a2 := ga.2.1
  have b1 := gb.1
  have hL := hS.1.1 hL0
  have hR' := RAB_A hS.1 hR
  intro q
  induction q with
  | zero =>
    intro i s hi hk hX
    refine ⟨kd_203 hL, ?_⟩
    rw [hR'.1, show jI (wn a : Int) - 1 = jI ((wn a : Int) - 1) from jI_sub _ 1, jI_le (by omega) (by omega) (by omega) (by omega)]
    unfold okT at hk
    have hX' := hX s rfl (by unfold okT; omega)
    refine br_t (by omega) ?_
    unfold w259_231 w259_234
    by_cases e0 : what = 0
    · rw [if_pos e0, if_pos e0] at hX'
      exact br_f (fun z => z e0) ⟨kd_203 hL, kd_203 hL, hX'⟩
    · rw [if_neg e0, if_neg e0] at hX'
      refine br_t e0 ?_
      by_cases c : s.1 = 0
      · rw [if_pos c, if_pos c] at hX'
        refine br_f (fun z => z (by rw [c]; rfl)) ⟨kd_203 hL, kd_203 hL, hX'⟩
      · rw [if_neg c, if_neg c] at hX'
        have c' : jI s.1 ≠ 0 := fun z => c ((jI_eq (a := s.1) (b := 0) (by omega) (by omega) (by omega) (by omega)).mp z)
        refine br_t c' ?_
        unfold pick at hX'
        by_cases e1 : what = 1
        · rw [if_pos e1] at hX'
          exact br_f (fun z => z e1) ⟨203, rfl, kd_203 hL, kd_203 hL, hX'⟩
        · rw [if_neg e1] at hX'
          exact br_t e1 ⟨203, rfl, kd_203 hL, kd_203 hL, hX'⟩
  | succ q ih =>
    intro i s hi hk hX
    refine ⟨kd_203 hL, ?_⟩
    rw [hR'.1, show jI (wn a : Int) - 1 = jI ((wn a : Int) - 1) from jI_sub _ 1, jI_le (by omega) (by omega) (by omega) (by omega)]
    refine br_f (by omega) ⟨wn b - 1 + 1, ?_⟩
    refine w259_80_s hL0 hR hD hS ga gb hE (by omega) (wn b - 1) 0 s (by omega) hk (fun s' hs' hk' => ?_)
    exact ih (i + 1) s' (by omega) hk' (fun s'' e => hX s'' (by rw [e, hs']; rfl))
theorem w259_q {M : MM} {k : Nat} {W : Nat → WY} {l1 l2 l3 l4 l5 : Int32} {P : Int32 → MM → Prop} (hL : Lay M) (hW : RWs M k W) (hX : ∀ M' r st, Fr sRQ M M' → mI M' 203 9 = st → (r, st) = reaA k W l1 l2 l3 l4 l5 → P r M') : w259 203 l1 l2 l3 l4 l5 M P := by
  have hC := RWs_RW hL hW
  refine w259_p hC ?_
  by_cases hs : clC k l1 l2 l3 l4 l5 = 0
  · obtain ⟨hb, hs2, w, o, n, d, rfl, rfl, rfl, rfl, hw, ho, hwo, n0, n1, d0, d1, e1, e2, e3, e4⟩ := clC_0 hW.2.1 hs
    have eA : reaA k W (jI (w : Int)) (jI (o : Int)) (jI n) (jI d) l5 = reaV (W w) (W o) n d l5 := by
      unfold reaA; rw [if_pos hs, e1, e2, e3, e4]
    rw [eA] at hX
    have ga := (hW.2.2 w hw).1
    have gb := (hW.2.2 o ho).1
    have a1 := ga.1
    have hE := gE_l n0 n1 d0 d1
    rw [hb, if_pos rfl, hs2]
    refine br_t (by decide) ⟨kd_203 hL, ?_⟩
    refine lays_q hL hW hw ho n0 n1 d0 d1 (fun M1 hL1 hF1 hR1 hD1 => ?_)
    refine ⟨kd_203 hL1, w230_s hL1 hR1 hD1 ga gb hE (fun M2 h2 => ?_)⟩
    have hF2 : Fr sRQ M M2 := Fr_t hF1 (Fr_w h2.1 (fun x k => sFA_Q))
    refine ⟨wn (W w) - 1 + 1, ?_⟩
    refine w259_66_s (what := l5) hL1 hR1 hD1 h2 ga gb hE (wn (W w) - 1) 0 (0, -1, -1) (by omega) (by unfold okT; dsimp only; omega) (fun s' hs' _ => hX _ _ _ (Fr_s9 hF2) (gI_y ⟨rfl, rfl⟩) ?_)
    unfold reaV
    rw [hs']
    by_cases c0 : l5 = 0
    · rw [if_pos c0, if_pos c0, if_pos c0]
    · rw [if_neg c0, if_neg c0, if_neg c0]
      split <;> rfl
  · refine w259_23_r hC hs (hX _ _ _ (Fr_s9 Fr_r) (gI_y ⟨rfl, rfl⟩) ?_)
    unfold reaA
    rw [if_neg hs]; rfl
