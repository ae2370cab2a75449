/-! ===== sides: the calls ===== -/
def rws (a b : WY) (n d : Int) (what : Int32) (r : Nat) : Int := sm (vRp a b n d what r) 8
theorem rws_b (a b : WY) (n d : Int) (what : Int32) (r : Nat) : 0 ≤ rws a b n d what r ∧ rws a b n d what r ≤ 8 := sm_b (vR_b a b n d what r) 8
theorem w92_4_s {M : MM} {a b : WY} {n d : Int} {what : Int32} {P : Int32 → MM → Prop} (hL : Lay M) (hM : MS M a b n d) (ga : gW a) (gb : gW b) (hP : P (jI (sm (rws a b n d what) 14)) M) :
    ∀ (q r : Nat), r + q = 14 → w92_4 (q + 1) 59 what (jI (sm (rws a b n d what) r)) (jI (r : Int)) M P := by
  intro q
  induction q with
  | zero =>
    intro r hr
    have : r = 14 := by omega
    subst this
    exact br_t (by decide) hP
  | succ q ih =>
    intro r hr
    have hb := sm_b8 (rws_b a b n d what) r
    unfold w92_4
    simp (disch := omega) only [jI_lit, jI_le]
    refine br_f (by omega) ⟨rN a b r + 1, ?_⟩
    have := w92_13_s (k4 := fun z0 z1 z2 z3 z4 => w92_4 (q + 1) z0 z1 z2 z3 z4 P) (P := P) hL hM ga gb (show r < 14 by omega) (sm (rws a b n d what) r) hb.1 (by omega) (ih (r + 1) (by omega)) (rN a b r) 0 (by omega)
    rw [show sm (vRp a b n d what r) 0 = 0 from rfl, Int.add_zero] at this
    exact this
def sidV (a b : WY) (n d : Int) (what : Int32) : Int32 × Int32 := (jI (sm (rws a b n d what) 14), 0)
def sidA (k : Nat) (W : Nat → WY) (l1 l2 l3 l4 l5 : Int32) : Int32 × Int32 :=
  if clC k l1 l2 l3 l4 l5 = 0 then sidV (W l1.toNatClampNeg) (W l2.toNatClampNeg) l3.toInt l4.toInt l5 else (-1, clC k l1 l2 l3 l4 l5)
theorem w91_q {M : MM} {k : Nat} {W : Nat → WY} {l1 l2 l3 l4 l5 : Int32} {P : Int32 → MM → Prop} (hL : Lay M) (hW : CWs M k W) (hX : ∀ M' r st, Fr sCQ M M' → mI M' 0 10 = st → (r, st) = sidA k W l1 l2 l3 l4 l5 → P r M') : w91 0 l1 l2 l3 l4 l5 M P := by
  have hC := CWs_CW hL hW
  refine w91_p ?_
  by_cases hs : clC k l1 l2 l3 l4 l5 = 0
  · obtain ⟨hb, hs2, w, o, n, d, rfl, rfl, rfl, rfl, hw, ho, hwo, n0, n1, d0, d1, e1, e2, e3, e4⟩ := clC_0 hW.2.1 hs
    have eA : sidA k W (jI (w : Int)) (jI (o : Int)) (jI n) (jI d) l5 = sidV (W w) (W o) n d l5 := by
      unfold sidA; rw [if_pos hs, e1, e2, e3, e4]
    rw [eA] at hX
    have ga := (hW.2.2 w hw).1
    have gb := (hW.2.2 o ho).1
    rw [hb]
    have hF1 : Fr sCQ M (sI M 0 10 (if true = true then chk2 k (jI (w : Int)) (jI (o : Int)) else 1)) := Fr_s0 Fr_r
    refine ⟨0, rfl, kd_0 hL, w62_s (b := true) hC ⟨0, rfl, kd_0 hL, kd_0 hL, st_a (by rw [if_pos rfl]; exact hs2) ⟨kd_0 hL, ?_⟩⟩⟩
    refine w77_s (lay_sI hL) (CWs_Q hF1 hW) hw ho n0 n1 d0 d1 (fun M' hF hM => ?_)
    have hL' := hF.1 (lay_sI hL)
    have hF2 := Fr_mq hF1 hF
    refine ⟨59, rfl, kd_59 hL', 15, ?_⟩
    refine w92_4_s hL' hM ga gb ?_ 14 0 rfl
    exact ⟨kd_0 hL', kd_0 hL', hX _ _ _ (Fr_s0 hF2) (gI_y ⟨rfl, rfl⟩) rfl⟩
  · refine w91_27_r hC hs (hX _ _ _ (Fr_s0 Fr_r) (gI_y ⟨rfl, rfl⟩) ?_)
    unfold sidA
    rw [if_neg hs]; rfl
/-- what the reference's rows have at a number -/
theorem RST_at {M M0 : MM} {a b : WY} {n d : Int} {s : Nat} (hS : RST M0 a b n d (lG (geo a b n d)) M) (ga : gW a) (gb : gW b) (hs : s < 128) :
    (∃ l i j, isSd a b l i j ∧ sX l i j = s ∧ (∀ what, uS a b n d what s = if pv a b n d what l i j = true then 1 else 0)) ∨ ((∀ what, uS a b n d what s = 0) ∧ mI M 214 s = bI false ∧ mI M 215 s = bI false ∧ mI M 216 s = bI false) := by
  have a2 := ga.2.1
  have b2 := gb.2.1
  by_cases h64 : s < 64
  · by_cases h : isSd a b true (s / 8) (s % 8)
    · left
      refine ⟨true, s / 8, s % 8, h, ?_, fun what => ?_⟩
      · unfold sX; rw [if_pos rfl]; omega
      · unfold uS; rw [if_pos h64]; exact cv_1 h
    · right
      refine ⟨fun what => by unfold uS; rw [if_pos h64]; exact cv_0 h, hS.2.2.1 s hs (fun l i j x e => ?_)⟩
      cases l with
      | true =>
        have x' : i < wn a ∧ j + 1 < wn b := x
        unfold sX at e
        rw [if_pos rfl] at e
        refine h ?_
        rw [show s / 8 = i by omega, show s % 8 = j by omega]; exact x
      | false =>
        unfold sX at e
        rw [if_neg (by decide)] at e
        omega
  · by_cases h : isSd a b false ((s - 64) / 8) ((s - 64) % 8)
    · left
      refine ⟨false, (s - 64) / 8, (s - 64) % 8, h, ?_, fun what => ?_⟩
      · unfold sX; rw [if_neg (by decide)]; omega
      · unfold uS; rw [if_neg h64]; exact cv_1 h
    · right
      refine ⟨fun what => by unfold uS; rw [if_neg h64]; exact cv_0 h, hS.2.2.1 s hs (fun l i j x e => ?_)⟩
      cases l with
      | true =>
        have x' : i < wn a ∧ j + 1 < wn b := x
        unfold sX at e
        rw [if_pos rfl] at e
        omega
      | false =>
        have x' : i + 1 < wn a ∧ j < wn b := x
        unfold sX at e
        rw [if_neg (by decide)] at e
        refine h ?_
        rw [show (s - 64) / 8 = i by omega, show (s - 64) % 8 = j by omega]; exact x
theorem uS_b (a b : WY) (n d : Int) (what : Int32) (s : Nat) : 0 ≤ uS a b n d what s ∧ uS a b n d what s ≤ 1 := by
  unfold uS cv
  split <;> split <;> omega
theorem w236_59_s {M M0 : MM} {a b : WY} {n d : Int} {what : Int32} {P : Int32 → MM → Prop} (hL0 : Lay M0) (hS : RST M0 a b n d (lG (geo a b n d)) M) (ga : gW a) (gb : gW b) (hP : P (jI (sm (uS a b n d what) 128)) (sI M 203 9 0)) :
    ∀ (q s : Nat), s + q = 128 → w236_59 (q + 1) 203 what (jI (sm (uS a b n d what) s)) (jI (s : Int)) M P := by
  have hL := hS.1.1 hL0
  intro q
  induction q with
  | zero =>
    intro s hs
    have : s = 128 := by omega
    subst this
    exact br_t (by decide) ⟨kd_203 hL, kd_203 hL, hP⟩
  | succ q ih =>
    intro s hs
    have hb := sm_b (uS_b a b n d what) s
    have nx := ih (s + 1) (by omega)
    have nx' : w236_59 (q + 1) 203 what (jI (sm (uS a b n d what) s + uS a b n d what s)) (jI ((s + 1 : Nat) : Int)) M P := nx
    have g0 : uS a b n d what s = 0 → w236_130 (fun z0 z1 z2 z3 z4 => w236_59 (q + 1) z0 z1 z2 z3 z4 P) 203 what (jI (s : Int)) (jI (sm (uS a b n d what) s)) M P := by
      intro e
      rw [e] at nx'
      unfold w236_130 w236_131
      simp only [jI_lit 0, jI_lit 1, jI_add, c_s1]
      exact nx'
    have g1 : uS a b n d what s = 1 → w236_126 (fun z0 z1 z2 z3 z4 => w236_59 (q + 1) z0 z1 z2 z3 z4 P) 203 what (jI (s : Int)) (jI (sm (uS a b n d what) s)) M P := by
      intro e
      rw [e] at nx'
      unfold w236_126 w236_131
      simp only [jI_lit 1, jI_add, c_s1]
      exact nx'
    have c128 : ¬ (128 : Int32) ≤ jI (s : Int) := by
      rw [show (128 : Int32) = jI 128 from rfl, jI_le (by omega) (by omega) (by omega) (by omega)]; omega
    refine br_f c128 ?_
    rcases RST_at hS ga gb (show s < 128 by omega) with ⟨l, i, j, hsd, rfl, hv⟩ | ⟨hv, h4, h5, h6⟩
    · have rf := hS.2.1 l i j hsd
      have rl := rl_some (hS.2.2.2 l i j hsd)
      have hv' := hv what
      unfold pv at hv'
      by_cases e0 : what = 0
      · rw [if_pos e0] at hv'
        refine br_f (fun y => y e0) ⟨kd_203 hL, 214, rf_203_34 hL, i214 hL (by omega), ?_⟩
        rw [jI_cn (by omega), rf.1]
        cases hf : frB (xL a b l i j) n d (xF a b l i j) (xS a b l i j) with
        | false => rw [hf] at hv'; exact br_t rfl (g0 hv')
        | true => rw [hf] at hv'; exact br_f (by decide) (g1 hv')
      · rw [if_neg e0] at hv'
        refine br_t e0 ?_
        by_cases e1 : what = 1
        · rw [if_pos e1] at hv'
          refine br_f (fun y => y e1) ⟨kd_203 hL, 215, rf_203_35 hL, i215 hL (by omega), ?_⟩
          rw [jI_cn (by omega), rl]
          cases hf : (lG (geo a b n d) l i j).isSome with
          | false => rw [hf] at hv'; exact br_t rfl (g0 hv')
          | true => rw [hf] at hv'; exact br_f (by decide) (g1 hv')
        · rw [if_neg e1] at hv'
          refine br_t e1 ⟨kd_203 hL, 214, rf_203_34 hL, i214 hL (by omega), ?_⟩
          rw [jI_cn (by omega), rf.1]
          cases hf : frB (xL a b l i j) n d (xF a b l i j) (xS a b l i j) with
          | false =>
            refine br_t rfl (g0 ?_)
            rw [hv', if_neg]
            intro z
            have z' := (Bool.and_eq_true_iff.mp z).1
            have : frB (xL a b l i j) n d (xF a b l i j) (xS a b l i j) = true := fr_i.mpr (Or.inl (of_decide_eq_true z'))
            rw [hf] at this; cases this
          | true =>
            refine br_f (by decide) ⟨kd_203 hL, 216, rf_203_36 hL, i216 hL (by omega), ?_⟩
            rw [(rf.2.2.1 hf).2.2.2.2]
            cases hw : (fsB n d (xS a b l i j) && teB (xL a b l i j) n d (xF a b l i j) (xS a b l i j)) with
            | false => rw [hw] at hv'; exact br_t rfl (g0 hv')
            | true => rw [hw] at hv'; exact br_f (by decide) (g1 hv')
    · have z := g0 (hv what)
      by_cases e0 : what = 0
      · refine br_f (fun y => y e0) ⟨kd_203 hL, 214, rf_203_34 hL, i214 hL (by omega), ?_⟩
        rw [jI_cn (by omega), h4]
        exact br_t rfl z
      · refine br_t e0 ?_
        by_cases e1 : what = 1
        · refine br_f (fun y => y e1) ⟨kd_203 hL, 215, rf_203_35 hL, i215 hL (by omega), ?_⟩
          rw [jI_cn (by omega), h5]
          exact br_t rfl z
        · refine br_t e1 ⟨kd_203 hL, 214, rf_203_34 hL, i214 hL (by omega), ?_⟩
          rw [jI_cn (by omega), h4]
          exact br_t rfl z
theorem w236_q {M : MM} {k : Nat} {W : Nat → WY} {l1 l2 l3 l4 l5 : Int32} {P : Int32 → MM → Prop} (hL : Lay M) (hW : RWs M k W) (hX : ∀ M' r st, Fr sRQ M M' → mI M' 203 9 = st → (r, st) = sidA k W l1 l2 l3 l4 l5 → P r M') : w236 203 l1 l2 l3 l4 l5 M P := by
  have hC := RWs_RW hL hW
  refine w236_p hC ?_
  by_cases hs : clC k l1 l2 l3 l4 l5 = 0
  · obtain ⟨hb, hs2, w, o, n, d, rfl, rfl, rfl, rfl, hw, ho, hwo, n0, n1, d0, d1, e1, e2, e3, e4⟩ := clC_0 hW.2.1 hs
    have eA : sidA k W (jI (w : Int)) (jI (o : Int)) (jI n) (jI d) l5 = sidV (W w) (W o) n d l5 := by
      unfold sidA; rw [if_pos hs, e1, e2, e3, e4]
    rw [eA] at hX
    have ga := (hW.2.2 w hw).1
    have gb := (hW.2.2 o ho).1
    have hE := gE_l n0 n1 d0 d1
    rw [hb, if_pos rfl, hs2]
    refine br_t (by decide) ⟨kd_203 hL, ?_⟩
    refine lays_q hL hW hw ho n0 n1 d0 d1 (fun M1 hL1 hF1 hR1 hD1 => ?_)
    refine ⟨kd_203 hL1, w230_s hL1 hR1 hD1 ga gb hE (fun M2 h2 => ?_)⟩
    have hF2 : Fr sRQ M M2 := Fr_t hF1 (Fr_w h2.1 (fun x k => sFA_Q))
    refine ⟨129, w236_59_s hL1 h2 ga gb ?_ 128 0 rfl⟩
    rw [cnt_eq ga gb]
    exact hX _ _ _ (Fr_s9 hF2) (gI_y ⟨rfl, rfl⟩) rfl
  · refine w236_24_r hC hs (hX _ _ _ (Fr_s9 Fr_r) (gI_y ⟨rfl, rfl⟩) ?_)
    unfold sidA
    rw [if_neg hs]; rfl
