/-! ===== near: both sides ===== -/
theorem isEb_j {k : Nat} {W : Nat → WY} {w i : Int32} (hk : k ≤ 4) (hg : ∀ w, w < k → gW (W w)) (h : isEb k (cnt W) w i = true) : ∃ w' i' : Nat, w = jI (w' : Int) ∧ i = jI (i' : Int) ∧ w' < k ∧ i' + 1 < wn (W w') ∧ w.toNatClampNeg = w' ∧ i.toNatClampNeg = i' := by
  obtain ⟨q1, q2⟩ := Bool.and_eq_true_iff.mp h
  obtain ⟨w', h1, rfl⟩ := isWb_j hk q1
  rw [jI_cn (by omega)] at q2
  have a2 := (hg w' h1).2.1
  obtain ⟨i', h2, rfl⟩ := rng_j (n := cnt W w' - 1) (by show wn (W w') - 1 < 2147483648; omega) q2
  have h2' : i' < wn (W w') - 1 := h2
  exact ⟨w', i', rfl, rfl, h1, by omega, jI_cn (by omega), jI_cn (by omega)⟩
/-- the least square as the reference has it -/
def lrA (L f s : Int) : Int := if 0 ≤ f ∧ f ≤ L then L * s - f * f else if f < 0 then s else s - 2 * f + L
def lrB (L f : Int) : Int := if 0 ≤ f ∧ f ≤ L then L else 1
theorem ls_lr {L f s : Int} (hL : 0 < L) : lsA L f s * lrB L f = lrA L f s * lsB L f := by
  unfold lsA lrB lrA lsB
  by_cases c : 0 < f ∧ f < L
  · rw [if_pos c, if_pos c, if_pos (by omega), if_pos (by omega)]
  · rw [if_neg c, if_neg c]
    by_cases c0 : f = 0
    · subst c0
      rw [if_pos (by omega), if_pos (by omega), Int.min_eq_left (by omega)]; grind
    · by_cases c1 : f = L
      · subst c1
        rw [if_pos (by omega), if_pos (by omega), Int.min_eq_right (by omega)]; grind
      · rw [if_neg (by omega), if_neg (by omega)]
        by_cases c2 : f < 0
        · rw [if_pos c2, Int.min_eq_left (by omega)]
        · rw [if_neg c2, Int.min_eq_right (by omega)]
def naA (a : WY) (i : Nat) (b : WY) (e : Nat) : Int := lsA (eL b e) (eF b e a i) (eS b e a i)
def naB (a : WY) (i : Nat) (b : WY) (e : Nat) : Int := lsB (eL b e) (eF b e a i)
def rnA (a : WY) (i : Nat) (b : WY) (e : Nat) : Int := lrA (eL b e) (eF b e a i) (eS b e a i)
def rnB (a : WY) (i : Nat) (b : WY) (e : Nat) : Int := lrB (eL b e) (eF b e a i)
theorem n_b {a b : WY} {i e : Nat} (ga : gW a) (gb : gW b) (hi : i < wn a) (he : e + 1 < wn b) : 0 ≤ naA a i b e ∧ naA a i b e ≤ 419904 ∧ 0 < naB a i b e ∧ naB a i b e ≤ 648 := by
  have h := sdB_of gb ga he hi
  unfold sdB at h
  unfold naA naB lsA lsB
  by_cases c : 0 < eF b e a i ∧ eF b e a i < eL b e
  · rw [if_pos c, if_pos c]; omega
  · rw [if_neg c, if_neg c]; omega
theorem rn_b {a b : WY} {i e : Nat} (ga : gW a) (gb : gW b) (hi : i < wn a) (he : e + 1 < wn b) : 0 ≤ rnA a i b e ∧ rnA a i b e ≤ 419904 ∧ 0 < rnB a i b e ∧ rnB a i b e ≤ 648 := by
  have h := sdB_of gb ga he hi
  unfold sdB at h
  unfold rnA rnB lrA lrB
  by_cases c : 0 ≤ eF b e a i ∧ eF b e a i ≤ eL b e
  · rw [if_pos c, if_pos c]; omega
  · rw [if_neg c, if_neg c]; split <;> omega
theorem n_x {a b : WY} {i e : Nat} (gb : gW b) (he : e + 1 < wn b) : naA a i b e * rnB a i b e = rnA a i b e * naB a i b e := ls_lr (eL_b gb he).1
theorem n_g {a b : WY} {i e : Nat} (ga : gW a) (gb : gW b) (hi : i < wn a) (he : e + 1 < wn b) : gFr (naA a i b e) (naB a i b e) ∧ gFr (rnA a i b e) (rnB a i b e) := by
  have h1 := n_b ga gb hi he
  have h2 := rn_b ga gb hi he
  unfold gFr
  omega
theorem n_f {a b : WY} {i e : Nat} (ga : gW a) (gb : gW b) (hi : i < wn a) (he : e + 1 < wn b) : ft (rnA a i b e) (rnB a i b e) = ft (naA a i b e) (naB a i b e) ∧ fb (rnA a i b e) (rnB a i b e) = fb (naA a i b e) (naB a i b e) := by
  have h1 := n_b ga gb hi he
  have h2 := rn_b ga gb hi he
  exact fr_eqI h2.1 h2.2.2.1 h1.1 h1.2.2.1 (n_x gb he).symm
def neaA (k : Nat) (W : Nat → WY) (F : Int × Int) (l1 l2 l3 l4 : Int32) : Int32 × Int32 × Int × Int :=
  if (isPb k (cnt W) l1 l2 && isEb k (cnt W) l3 l4) = true then (1, 0, ft (naA (W l1.toNatClampNeg) l2.toNatClampNeg (W l3.toNatClampNeg) l4.toNatClampNeg) (naB (W l1.toNatClampNeg) l2.toNatClampNeg (W l3.toNatClampNeg) l4.toNatClampNeg), fb (naA (W l1.toNatClampNeg) l2.toNatClampNeg (W l3.toNatClampNeg) l4.toNatClampNeg) (naB (W l1.toNatClampNeg) l2.toNatClampNeg (W l3.toNatClampNeg) l4.toNatClampNeg)) else (0, 2, F)
/-- what the class and the reference hold of FRACTION -/
def CFr (M : MM) (F : Int × Int) : Prop := mL M 54 0 = jL F.1 ∧ mL M 54 1 = jL F.2
def RFr (M : MM) (F : Int × Int) : Prop := mL M 203 13 = jL F.1 ∧ mL M 203 14 = jL F.2
theorem CFr_Q {M M' : MM} {F : Int × Int} (hF : Fr sCQ M M') (h : CFr M F) : CFr M' F := ⟨(Fr_L hF (sB_f (by omega) (by omega))).trans h.1, (Fr_L hF (sB_f (by omega) (by omega))).trans h.2⟩
theorem RFr_Q {M M' : MM} {F : Int × Int} (hF : Fr sRQ M M') (h : RFr M F) : RFr M' F := ⟨(Fr_L hF (sRQ_f (by omega) (by omega))).trans h.1, (Fr_L hF (sRQ_f (by omega) (by omega))).trans h.2⟩
theorem Fr_s0F {M M' : MM} {v : Int32} (h : Fr sCF M M') : Fr sCF M (sI M' 0 10 v) := Fr_sI h (sB_t1 (by omega))
theorem Fr_s9F {M M' : MM} {v : Int32} (h : Fr sRF M M') : Fr sRF M (sI M' 203 9 v) := Fr_sI h (sRF_1 (by omega))
theorem w46_q {M : MM} {k : Nat} {W : Nat → WY} {F : Int × Int} {l1 l2 l3 l4 : Int32} {P : Int32 → MM → Prop} (hL : Lay M) (hW : CWs M k W) (hF : CFr M F) (hX : ∀ M' r st F', Fr sCF M M' → mI M' 0 10 = st → CFr M' F' → (r, st, F') = neaA k W F l1 l2 l3 l4 → P r M') : w46 0 l1 l2 l3 l4 M P := by
  have hC := CWs_CW hL hW
  have k4 := hW.2.1
  have hg : ∀ w, w < k → gW (W w) := fun w hw => (hW.2.2 w hw).1
  unfold neaA at hX
  have no : (isPb k (cnt W) l1 l2 && isEb k (cnt W) l3 l4) = false → w46_19 0 M P := fun e => by
    rw [e, if_neg (by decide)] at hX
    exact ⟨kd_0 hL, kd_0 hL, Or.inl rfl, hX _ _ _ F (Fr_s0F Fr_r) (gI_y ⟨rfl, rfl⟩) hF rfl⟩
  refine ⟨kd_0 hL, w45_s hC ?_⟩
  cases c1 : isPb k (cnt W) l1 l2 with
  | false => exact br_t rfl (no (by rw [c1, Bool.false_and]))
  | true =>
    refine br_f (by decide) ⟨kd_0 hL, w47_s hC ?_⟩
    cases c2 : isEb k (cnt W) l3 l4 with
    | false => exact br_f (fun z => z rfl) (no (by rw [c2, Bool.and_false]))
    | true =>
      rw [c1, c2, if_pos (by decide)] at hX
      obtain ⟨w, i, rfl, rfl, hw, hi, e1, e2⟩ := isPb_j k4 hg c1
      obtain ⟨o, j, rfl, rfl, ho, hj, e3, e4⟩ := isEb_j k4 hg c2
      rw [e1, e2, e3, e4] at hX
      refine br_t (by decide) ⟨kd_0 hL, kd_0 hL, 19, rf_0_5 hL, i19 hL (by omega), kd_0 hL, 19, rf_0_5 hL, i19 hL (by omega), 184, rf_0_16 hL, kd_184 hL, ?_⟩
      rw [e1, e3, rf_19 hL (by omega), rf_19 hL (by omega)]
      refine w49_s hL (kd_184 hL) (isT_way (by omega)) (isT_way (by omega)) (hW.2.2 o ho).2 (hW.2.2 w hw).2 (hg o ho) (hg w hw) hj hi ?_
      have hB := sdB_of (hg o ho) (hg w hw) hj hi
      have gn := (n_g (hg w hw) (hg o ho) hi hj).1
      have hG := sdG_st M 184 (eL (W o) j) (eF (W o) j (W w) i) (eS (W o) j (W w) i)
      have hF1 : Fr sCF M (stM M 184 (eL (W o) j) (eF (W o) j (W w) i) (eS (W o) j (W w) i)) := Fr_st Fr_r (fun k _ => sB_t2 (by omega))
      have hL1 := hF1.1 hL
      generalize stM M 184 (eL (W o) j) (eF (W o) j (W w) i) (eS (W o) j (W w) i) = M1 at *
      refine ⟨kd_0 hL1, kd_0 hL1, 184, rf_0_16 hL1, kd_184 hL1, w50_s (kd_184 hL1) hG hB ⟨kd_0 hL1, 184, rf_0_16 hL1, kd_184 hL1, w53_s (kd_184 hL1) hG hB ⟨55, rf_0_12 hL1, kd_55 hL1, kd_55 hL1, kd_55 hL1, ?_⟩⟩⟩
      have hF2 : Fr sCF M (sL (sL M1 55 0 (jL (naA (W w) i (W o) j))) 55 1 (jL (naB (W w) i (W o) j))) := Fr_sL (Fr_sL hF1 (sB_t2 (by omega))) (sB_t2 (by omega))
      have hL2 := hF2.1 hL
      refine ⟨kd_0 hL2, kd_0 hL2, ?_⟩
      rw [show mR (sL (sL M1 55 0 (jL (lsA (eL (W o) j) (eF (W o) j (W w) i) (eS (W o) j (W w) i)))) 55 1 (jL (lsB (eL (W o) j) (eF (W o) j (W w) i)))) 0 12 = some 55 from rf_0_12 hL2]
      refine w55_s (a := naA (W w) i (W o) j) (b := naB (W w) i (W o) j) hL2 (Or.inl rfl) (by rw [gL_n (by omega), gL_y ⟨rfl, rfl⟩]; rfl) (by rw [gL_y ⟨rfl, rfl⟩]; rfl) gn (fun M3 h3 s3 f0 f1 => ⟨Or.inr rfl, ?_⟩)
      exact hX _ _ _ (_, _) (Fr_t hF2 h3) s3 ⟨f0, f1⟩ rfl
/-! the reference -/
def sLN (x k : Nat) : Bool := sB 203 31 33 1 0 x k || sB 203 50 51 1 0 x k
theorem sLN_f {x k : Nat} (h : ¬ (x = 203 ∧ ((31 ≤ k ∧ k ≤ 33) ∨ (50 ≤ k ∧ k ≤ 51)))) : sLN x k = false := by
  unfold sLN
  rw [Bool.or_eq_false_iff]
  exact ⟨sB_f (by omega) (by omega), sB_f (by omega) (by omega)⟩
theorem sLN_t {k : Nat} (h : (31 ≤ k ∧ k ≤ 33) ∨ (50 ≤ k ∧ k ≤ 51)) : sLN 203 k = true := by
  unfold sLN
  rw [Bool.or_eq_true]
  rcases h with h | h
  · exact Or.inl (sB_t1 h)
  · exact Or.inr (sB_t1 h)
theorem sLN_Q {x k : Nat} (h : sRQ x k = false) : sLN x k = false := by
  refine sLN_f (fun z => ?_)
  rw [z.1, sRQ_1 (by omega)] at h; cases h
theorem w192_s {M : MM} {px py qx qy rx ry : Int} {P : MM → Prop} (hL : Lay M) (h1 : 0 ≤ px ∧ px ≤ 18) (h2 : 0 ≤ py ∧ py ≤ 18) (h3 : 0 ≤ qx ∧ qx ≤ 18) (h4 : 0 ≤ qy ∧ qy ≤ 18) (h5 : 0 ≤ rx ∧ rx ≤ 18) (h6 : 0 ≤ ry ∧ ry ≤ 18) {L f s : Int} (eL' : (rx - qx) * (rx - qx) + (ry - qy) * (ry - qy) = L) (ef : (px - qx) * (rx - qx) + (py - qy) * (ry - qy) = f) (es : (px - qx) * (px - qx) + (py - qy) * (py - qy) = s) (hB : sdB L f s) (hP : ∀ M', Fr sLN M M' → mL M' 203 50 = jL (lrA L f s) → mL M' 203 51 = jL (lrB L f) → P M') : w192 203 (jI px) (jI py) (jI qx) (jI qy) (jI rx) (jI ry) M P := by
  have hB' := hB
  unfold sdB at hB'
  refine ⟨kd_203 hL, w193_s hL h1 h2 h3 h4 h5 h6 ?_⟩
  have ec : ((px - qx) * (ry - qy) - (py - qy) * (rx - qx)) * ((px - qx) * (ry - qy) - (py - qy) * (rx - qx)) = L * s - f * f := by rw [← eL', ← ef, ← es]; grind
  have er : (px - rx) * (px - rx) + (py - ry) * (py - ry) = s - 2 * f + L := by rw [← eL', ← ef, ← es]; grind
  rw [ef, eL']
  generalize (px - qx) * (ry - qy) - (py - qy) * (rx - qx) = c at *
  have hF1 : Fr sLN M (leM M f c L) := Fr_sL (Fr_sL (Fr_sL Fr_r (sLN_t (by omega))) (sLN_t (by omega))) (sLN_t (by omega))
  have g1 : mL (leM M f c L) 203 31 = jL f := by unfold leM; rw [gL_n (by omega), gL_n (by omega), gL_y ⟨rfl, rfl⟩]
  have g2 : mL (leM M f c L) 203 32 = jL c := by unfold leM; rw [gL_n (by omega), gL_y ⟨rfl, rfl⟩]
  have g3 : mL (leM M f c L) 203 33 = jL L := by unfold leM; rw [gL_y ⟨rfl, rfl⟩]
  have hL1 := hF1.1 hL
  generalize leM M f c L = M1 at *
  have off : ¬ (0 ≤ f ∧ f ≤ L) → w192_38 203 (jI px) (jI py) (jI qx) (jI qy) (jI rx) (jI ry) M1 P := by
    intro z
    have q1 : lrA L f s = if f < 0 then s else s - 2 * f + L := if_neg z
    have q2 : lrB L f = 1 := if_neg z
    refine br_t rfl ⟨kd_203 hL1, ?_⟩
    rw [g1, show (0 : Int64) = jL 0 from rfl]
    refine ⟨fun y => ?_, fun y => ?_⟩
    · rw [show ((0 : Int32) ≤ lg_cmp (jL f) (jL 0)) = (jI 0 ≤ lg_cmp (jL f) (jL 0)) from rfl, lc_ge, jL_le (by omega) (by omega) (by omega) (by omega)] at y
      unfold w187
      rw [jI_sub, jI_sub, jI_mul, jI_mul, jI_add, er]
      show w192_90 203 0 (some 203) (jI (s - 2 * f + L)).toInt64 M1 P
      rw [jI_l (by omega) (by omega)]
      refine ⟨203, rfl, kd_203 hL1, br_t rfl ⟨203, rfl, kd_203 hL1, ?_⟩⟩
      refine hP _ (Fr_sL (Fr_sL hF1 (sLN_t (by omega))) (sLN_t (by omega))) ?_ ?_
      · rw [gL_n (by omega), gL_y ⟨rfl, rfl⟩, q1, if_neg (by omega)]
      · rw [gL_y ⟨rfl, rfl⟩, q2]; rfl
    · rw [show ((0 : Int32) ≤ lg_cmp (jL f) (jL 0)) = (jI 0 ≤ lg_cmp (jL f) (jL 0)) from rfl, lc_ge, jL_le (by omega) (by omega) (by omega) (by omega)] at y
      unfold w187
      rw [jI_sub, jI_sub, jI_mul, jI_mul, jI_add, es]
      show w192_90 203 0 (some 203) (jI s).toInt64 M1 P
      rw [jI_l (by omega) (by omega)]
      refine ⟨203, rfl, kd_203 hL1, br_t rfl ⟨203, rfl, kd_203 hL1, ?_⟩⟩
      refine hP _ (Fr_sL (Fr_sL hF1 (sLN_t (by omega))) (sLN_t (by omega))) ?_ ?_
      · rw [gL_n (by omega), gL_y ⟨rfl, rfl⟩, q1, if_pos (by omega)]
      · rw [gL_y ⟨rfl, rfl⟩, q2]; rfl
  refine ⟨kd_203 hL1, ?_⟩
  rw [g1, g3, show (0 : Int64) = jL 0 from rfl]
  refine ⟨fun z => off ?_, fun z => ⟨kd_203 hL1, kd_203 hL1, fun y => off ?_, fun y => br_f (by decide) ⟨kd_203 hL1, kd_203 hL1, 203, rfl, kd_203 hL1, br_f (by decide) ⟨kd_203 hL1, 203, rfl, kd_203 hL1, ?_⟩⟩⟩⟩
  · rw [show (lg_cmp (jL f) (jL 0) < (0 : Int32)) = (lg_cmp (jL f) (jL 0) < jI 0) from rfl, lc_lt, jL_lt (by omega) (by omega) (by omega) (by omega)] at z
    omega
  · rw [show ((0 : Int32) < lg_cmp (jL f) (jL L)) = (jI 0 < lg_cmp (jL f) (jL L)) from rfl, lc_gt, jL_lt (by omega) (by omega) (by omega) (by omega)] at y
    omega
  · rw [show (lg_cmp (jL f) (jL 0) < (0 : Int32)) = (lg_cmp (jL f) (jL 0) < jI 0) from rfl, lc_lt, jL_lt (by omega) (by omega) (by omega) (by omega)] at z
    rw [show ((0 : Int32) < lg_cmp (jL f) (jL L)) = (jI 0 < lg_cmp (jL f) (jL L)) from rfl, lc_gt, jL_lt (by omega) (by omega) (by omega) (by omega)] at y
    have on : 0 ≤ f ∧ f ≤ L := by omega
    have q1 : lrA L f s = L * s - f * f := if_pos on
    have q2 : lrB L f = L := if_pos on
    refine hP _ (Fr_sL (Fr_sL hF1 (sLN_t (by omega))) (sLN_t (by omega))) ?_ ?_
    · rw [gL_n (by omega), gL_y ⟨rfl, rfl⟩, g2, jL_mul, ec, q1]
    · rw [gL_y ⟨rfl, rfl⟩, gL_n (by omega), g3, q2]
theorem w191_s {M : MM} {k w i o e : Nat} {W : Nat → WY} {P : MM → Prop} (hL : Lay M) (hW : RWs M k W) (hw : w < k) (hi : i < wn (W w)) (ho : o < k) (he : e + 1 < wn (W o)) (hP : ∀ M', Fr sLN M M' → mL M' 203 50 = jL (rnA (W w) i (W o) e) → mL M' 203 51 = jL (rnB (W w) i (W o) e) → P M') : w191 203 (jI (w : Int)) (jI (i : Int)) (jI (o : Int)) (jI (e : Int)) M P := by
  have gw := (hW.2.2 w hw).1
  have go := (hW.2.2 o ho).1
  have ee : jI (e : Int) + 1 = jI ((e + 1 : Nat) : Int) := by rw [show (1 : Int32) = jI 1 from rfl, jI_add, c_s1]
  refine ⟨kd_203 hL, w184_q hL hW hw hi ⟨kd_203 hL, w185_q hL hW hw hi ⟨kd_203 hL, w184_q hL hW ho (by omega) ⟨kd_203 hL, w185_q hL hW ho (by omega) ⟨kd_203 hL, ?_⟩⟩⟩⟩⟩
  rw [ee]
  refine w184_q hL hW ho he ⟨kd_203 hL, w185_q hL hW ho he ⟨kd_203 hL, ?_⟩⟩
  have p0 := gw.2.2.1 i hi
  have p1 := go.2.2.1 e (by omega)
  have p2 := go.2.2.1 (e + 1) he
  refine w192_s (L := eL (W o) e) (f := eF (W o) e (W w) i) (s := eS (W o) e (W w) i) hL ⟨p0.1, p0.2.1⟩ ⟨p0.2.2.1, p0.2.2.2⟩ ⟨p1.1, p1.2.1⟩ ⟨p1.2.2.1, p1.2.2.2⟩ ⟨p2.1, p2.2.1⟩ ⟨p2.2.2.1, p2.2.2.2⟩ ?_ ?_ ?_ (sdB_of go gw he hi) hP
  · unfold eL qd; grind
  · unfold eF; grind
  · unfold eS qd; grind
theorem w189_q {M : MM} {k : Nat} {W : Nat → WY} {F : Int × Int} {l1 l2 l3 l4 : Int32} {P : Int32 → MM → Prop} (hL : Lay M) (hW : RWs M k W) (hF : RFr M F) (hX : ∀ M' r st F', Fr sRF M M' → mI M' 203 9 = st → RFr M' F' → (r, st, F') = neaA k W F l1 l2 l3 l4 → P r M') : w189 203 l1 l2 l3 l4 M P := by
  have hC := RWs_RW hL hW
  have k4 := hW.2.1
  have hg : ∀ w, w < k → gW (W w) := fun w hw => (hW.2.2 w hw).1
  unfold neaA at hX
  have no : (isPb k (cnt W) l1 l2 && isEb k (cnt W) l3 l4) = false → w189_31 203 M P := fun e => by
    rw [e, if_neg (by decide)] at hX
    exact ⟨kd_203 hL, kd_203 hL, Or.inl rfl, hX _ _ _ F (Fr_s9F Fr_r) (gI_y ⟨rfl, rfl⟩) hF rfl⟩
  refine ⟨kd_203 hL, w183_s hC ?_⟩
  cases c1 : isPb k (cnt W) l1 l2 with
  | false => exact br_t rfl (no (by rw [c1, Bool.false_and]))
  | true =>
    refine br_f (by decide) ⟨kd_203 hL, w183_s hC ?_⟩
    cases c2 : isPb k (cnt W) l3 l4 with
    | false =>
      refine br_t rfl (no ?_)
      rw [c1, Bool.true_and]
      unfold isPb at c2
      unfold isEb
      cases c3 : isWb k l3 with
      | false => rfl
      | true =>
        rw [c3, Bool.true_and] at c2
        rw [Bool.true_and]
        have c2' := of_decide_eq_false c2
        refine decide_eq_false (fun z => c2' ⟨z.1, fun y => z.2 ?_⟩)
        obtain ⟨o, ho, rfl⟩ := isWb_j k4 c3
        rw [jI_cn (by omega)] at y ⊢
        have a2 := (hg o ho).2.1
        have a3 : cnt W o ≤ 8 := a2
        obtain ⟨q, rfl, q1, q2⟩ := jI_of l4
        rw [nI_j, jI_le (by omega) (by omega) (by omega) (by omega)] at y ⊢
        omega
    | true =>
      obtain ⟨w, i, rfl, rfl, hw, hi, e1, e2⟩ := isPb_j k4 hg c1
      obtain ⟨o, j, rfl, rfl, ho, hj, e3, e4⟩ := isPb_j k4 hg c2
      have o2 := (hg o ho).2.1
      have ee : jI (j : Int) + 1 = jI ((j + 1 : Nat) : Int) := by rw [show (1 : Int32) = jI 1 from rfl, jI_add, c_s1]
      have ce : isEb k (cnt W) (jI (o : Int)) (jI (j : Int)) = decide (j + 1 < wn (W o)) := by
        unfold isEb
        rw [isWb_i k4 ho, Bool.true_and, decide_eq_decide, jI_cn (by omega), nI_j, show (0 : Int32) = jI 0 from rfl, jI_lt (by omega) (by omega) (by omega) (by omega)]
        rw [show cnt W o = wn (W o) from rfl, jI_le (by omega) (by omega) (by omega) (by omega)]
        omega
      refine br_f (by decide) ⟨kd_203 hL, w180_q hL hW ho ?_⟩
      rw [ee]
      refine ⟨fun z => ?_, fun z => ?_⟩
      · rw [ne_eq, jI_eq (by omega) (by omega) (by omega) (by omega)] at z
        have hj' : j + 1 < wn (W o) := by omega
        rw [c1, ce, decide_eq_true hj', if_pos (by decide), e1, e2, e3, e4] at hX
        refine ⟨kd_203 hL, w191_s hL hW hw hi ho hj' (fun M1 h1 a0 a1 => ?_)⟩
        have hL1 := h1.1 hL
        refine ⟨kd_203 hL1, kd_203 hL1, kd_203 hL1, kd_203 hL1, ?_⟩
        rw [a0, a1]
        refine w195_s hL1 (n_g (hg w hw) (hg o ho) hi hj').2 ⟨kd_203 hL1, Or.inr rfl, ?_⟩
        have nf := n_f (hg w hw) (hg o ho) hi hj'
        rw [nf.1, nf.2]
        refine hX _ _ _ (_, _) (Fr_s9F (Fr_sL (Fr_sL (Fr_w h1 (fun x k h => sLN_Q (sRF_Q h))) (sRF_1 (by omega))) (sRF_1 (by omega)))) (gI_y ⟨rfl, rfl⟩) ⟨?_, ?_⟩ rfl
        · rw [gL_sI, gL_n (by omega), gL_y ⟨rfl, rfl⟩]
        · rw [gL_sI, gL_y ⟨rfl, rfl⟩]
      · rw [ne_eq, jI_eq (by omega) (by omega) (by omega) (by omega)] at z
        exact no (by rw [ce, decide_eq_false (by omega), Bool.and_false])
