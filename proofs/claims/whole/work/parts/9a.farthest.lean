/-! ===== farthest: both sides ===== -/
def fA (a b : WY) (i : Nat) : Int := naA a i b (nM a i b)
def fB (a b : WY) (i : Nat) : Int := naB a i b (nM a i b)
def rfA (a b : WY) (i : Nat) : Int := rnA a i b (nM a i b)
def rfB (a b : WY) (i : Nat) : Int := rnB a i b (nM a i b)
def fC (a b : WY) (i m : Nat) : Bool := decide (fA a b m * fB a b i < fA a b i * fB a b m)
def fM (a b : WY) : Nat := agm (fC a b) (wn a)
def farA (k : Nat) (W : Nat → WY) (F : Int × Int) (l1 l2 : Int32) : Int32 × Int32 × Int × Int :=
  if chk2 k l1 l2 = 0 then (jI (fM (W l1.toNatClampNeg) (W l2.toNatClampNeg) : Int), 0, ft (fA (W l1.toNatClampNeg) (W l2.toNatClampNeg) (fM (W l1.toNatClampNeg) (W l2.toNatClampNeg))) (fB (W l1.toNatClampNeg) (W l2.toNatClampNeg) (fM (W l1.toNatClampNeg) (W l2.toNatClampNeg))), fb (fA (W l1.toNatClampNeg) (W l2.toNatClampNeg) (fM (W l1.toNatClampNeg) (W l2.toNatClampNeg))) (fB (W l1.toNatClampNeg) (W l2.toNatClampNeg) (fM (W l1.toNatClampNeg) (W l2.toNatClampNeg)))) else (-1, chk2 k l1 l2, F)
theorem w63_s {M : MM} {x y : Nat} {a b c d : Int} {P : Int32 → MM → Prop} (kx : kd M x 3) (ky : kd M y 3) (x0 : mL M x 0 = jL a) (x1 : mL M x 1 = jL b) (y0 : mL M y 0 = jL c) (y1 : mL M y 1 = jL d) (h1 : -9223372036854775808 ≤ a * d ∧ a * d < 9223372036854775808) (h2 : -9223372036854775808 ≤ c * b ∧ c * b < 9223372036854775808) (hP : P (bI (decide (a * d < c * b))) M) : w63 x (some y) M P := by
  refine ⟨kx, y, rfl, ky, ky, kx, ?_⟩
  rw [x0, x1, y0, y1, jL_mul, jL_mul]
  show (jI 0 ≤ lg_cmp (jL (a * d)) (jL (c * b)) → _) ∧ (¬ (jI 0 ≤ lg_cmp (jL (a * d)) (jL (c * b))) → _)
  rw [lc_ge, jL_le h2.1 h2.2 h1.1 h1.2]
  refine ⟨fun z => ⟨Or.inl rfl, ?_⟩, fun z => ⟨Or.inr rfl, ?_⟩⟩
  · rw [decide_eq_false (by omega)] at hP; exact hP
  · rw [decide_eq_true (by omega)] at hP; exact hP
def sFa : Nat → Nat → Bool := sB 184 0 10 55 56
theorem sNr_Fa {x k : Nat} (h : sFa x k = false) : sNr x k = false := sB_w (by omega) (by omega) x k h
theorem sFa_F {x k : Nat} (h : sCF x k = false) : sFa x k = false := by
  refine sB_f (fun z => ?_) (fun z => ?_)
  · rw [show sCF x k = sB 0 10 10 54 190 x k from rfl, sB_t2 (by omega)] at h; cases h
  · rw [show sCF x k = sB 0 10 10 54 190 x k from rfl, sB_t2 (by omega)] at h; cases h
theorem w61_25_s {M : MM} {k w o : Nat} {W : Nat → WY} {P : Int32 → MM → Prop} (hL : Lay M) (hW : CWs M k W) (hw : w < k) (ho : o < k) (hP : ∀ M', Fr sCF M M' → mI M' 0 10 = 0 → CFr M' (ft (fA (W w) (W o) (fM (W w) (W o))) (fB (W w) (W o) (fM (W w) (W o))), fb (fA (W w) (W o) (fM (W w) (W o))) (fB (W w) (W o) (fM (W w) (W o)))) → P (jI (fM (W w) (W o) : Int)) M') : ∃ n, w61_25 n 0 (jI (w : Int)) (jI (o : Int)) (-1) 0 M P := by
  have k4 := hW.2.1
  have gw := (hW.2.2 w hw).1
  have go := (hW.2.2 o ho).1
  have o1 := gw.1
  have o2 := gw.2.1
  have tw : isT (191 + 3 * w) = true := isT_way (by omega)
  have cw : (jI (w : Int)).toNatClampNeg = w := jI_cn (by omega)
  have co : (jI (o : Int)).toNatClampNeg = o := jI_cn (by omega)
  have wF : ∀ M', Fr sFa M M' → CWs M' k W := fun M' h => CWs_fr h (sB_f (by omega) (by omega)) (fun x q h1 h2 => sB_f (by omega) (by omega)) hW
  have put : ∀ (kk : Nat → Int32 → Int32 → Int32 → Int32 → MM → Prop) (i : Nat) (M2 : MM), Fr sFa M M2 → mL M2 55 0 = jL (fA (W w) (W o) i) → mL M2 55 1 = jL (fB (W w) (W o) i) → (∀ M3, Fr sFa M M3 → mL M3 56 0 = jL (fA (W w) (W o) i) → mL M3 56 1 = jL (fB (W w) (W o) i) → kk 0 (jI (w : Int)) (jI (o : Int)) (jI (i : Int)) (jI ((i + 1 : Nat) : Int)) M3) → w61_77 kk 0 (jI (w : Int)) (jI (o : Int)) (jI (i : Int)) M2 P := by
    intro kk i M2 h2 f0 f1 hK
    have hL2 := h2.1 hL
    refine ⟨kd_0 hL2, kd_0 hL2, 56, rf_0_13 hL2, kd_56 hL2, 55, rf_0_12 hL2, kd_55 hL2, kd_56 hL2, kd_55 hL2, kd_56 hL2, ?_⟩
    unfold w61_91
    rw [show (1 : Int32) = jI 1 from rfl, jI_add, c_s1, gL_n (by omega), f0, f1]
    refine hK _ (Fr_sL (Fr_sL h2 (sB_t2 (by omega))) (sB_t2 (by omega))) ?_ ?_
    · rw [gL_n (by omega), gL_y ⟨rfl, rfl⟩]
    · rw [gL_y ⟨rfl, rfl⟩]
  have lp : ∀ (q i : Nat) (l3 : Int32) (M1 : MM), i + q = wn (W w) → Fr sFa M M1 → (i = 0 ∧ l3 = -1 ∨ 0 < i ∧ l3 = jI (agm (fC (W w) (W o)) i : Int) ∧ mL M1 56 0 = jL (fA (W w) (W o) (agm (fC (W w) (W o)) i)) ∧ mL M1 56 1 = jL (fB (W w) (W o) (agm (fC (W w) (W o)) i))) → w61_25 (q + 1) 0 (jI (w : Int)) (jI (o : Int)) l3 (jI (i : Int)) M1 P := by
    intro q
    induction q with
    | zero =>
      intro i l3 M1 hi h1 hI
      have hL1 := h1.1 hL
      refine ⟨kd_0 hL1, 19, rf_0_5 hL1, i19 hL1 (by omega), _, by rw [cw]; exact rf_19 hL1 (by omega), kd_T hL1 tw, br_t ?_ ⟨kd_0 hL1, kd_0 hL1, ?_⟩⟩
      · rw [((wF M1 h1).2.2 w hw).2.1, jI_le (by omega) (by omega) (by omega) (by omega)]; omega
      · rw [rf_0_13 hL1]
        rcases hI with z | ⟨_, rfl, z1, z2⟩
        · omega
        · have ee : agm (fC (W w) (W o)) i = fM (W w) (W o) := by unfold fM; rw [show wn (W w) = i by omega]
          rw [ee] at z1 z2 ⊢
          have fl : fM (W w) (W o) < wn (W w) := agm_l (by omega)
          have gn := (n_g gw go fl (nM_l (a := W w) (i := fM (W w) (W o)) go)).1
          exact w55_s hL1 (Or.inr (Or.inl rfl)) z1 z2 gn (fun M3 h3 s3 t0 t1 => hP _ (Fr_t (Fr_w h1 (fun x k h => sFa_F h)) h3) s3 ⟨t0, t1⟩)
    | succ q ih =>
      intro i l3 M1 hi h1 hI
      have hL1 := h1.1 hL
      have hi' : i < wn (W w) := by omega
      have ee : jI (i : Int) + 1 = jI ((i + 1 : Nat) : Int) := by rw [show (1 : Int32) = jI 1 from rfl, jI_add, c_s1]
      refine ⟨kd_0 hL1, 19, rf_0_5 hL1, i19 hL1 (by omega), _, by rw [cw]; exact rf_19 hL1 (by omega), kd_T hL1 tw, br_f ?_ ⟨kd_0 hL1, 19, rf_0_5 hL1, i19 hL1 (by omega), kd_0 hL1, 19, rf_0_5 hL1, i19 hL1 (by omega), kd_0 hL1, ?_⟩⟩
      · rw [((wF M1 h1).2.2 w hw).2.1, jI_le (by omega) (by omega) (by omega) (by omega)]; omega
      rw [cw, co, rf_19 hL1 (by omega), rf_19 hL1 (by omega)]
      refine w59_s hL1 (wF M1 h1) hw ho hi' (fun M2 h12 f0 f1 => ?_)
      have h2 : Fr sFa M M2 := Fr_t h1 (Fr_w h12 (fun x k h => sNr_Fa h))
      have hL2 := h2.1 hL
      have y : ∀ x, mL M2 56 x = mL M1 56 x := fun x => Fr_L h12 (sB_f (by omega) (by omega))
      rcases hI with ⟨rfl, rfl⟩ | ⟨e0, rfl, z1, z2⟩
      · refine br_t rfl (put _ 0 M2 h2 f0 f1 (fun M3 h3 f0 f1 => ih 1 _ M3 (by omega) h3 (Or.inr ⟨by omega, ?_, ?_, ?_⟩)))
        · rw [agm_1]
        · rw [agm_1]; exact f0
        · rw [agm_1]; exact f1
      · have ml := agm_l (c := fC (W w) (W o)) e0
        have es := agm_s (fC (W w) (W o)) i
        generalize agm (fC (W w) (W o)) i = m at *
        have b1 : 0 ≤ fA (W w) (W o) i ∧ fA (W w) (W o) i ≤ 419904 ∧ 0 < fB (W w) (W o) i ∧ fB (W w) (W o) i ≤ 648 := n_b gw go hi' (nM_l go)
        have b2 : 0 ≤ fA (W w) (W o) m ∧ fA (W w) (W o) m ≤ 419904 ∧ 0 < fB (W w) (W o) m ∧ fB (W w) (W o) m ≤ 648 := n_b gw go (show m < wn (W w) by omega) (nM_l go)
        have p1 := mul_bb b1.1 b1.2.1 (Int.le_of_lt b2.2.2.1) b2.2.2.2
        have p2 := mul_bb b2.1 b2.2.1 (Int.le_of_lt b1.2.2.1) b1.2.2.2
        refine br_f ?_ ⟨kd_0 hL2, kd_0 hL2, 56, rf_0_13 hL2, kd_56 hL2, ?_⟩
        · rw [show (-1 : Int32) = jI (-1) from rfl, jI_eq (by omega) (by omega) (by omega) (by omega)]; omega
        rw [rf_0_12 hL2]
        refine w63_s (c := fA (W w) (W o) i) (d := fB (W w) (W o) i) (kd_56 hL2) (kd_55 hL2) ((y 0).trans z1) ((y 1).trans z2) f0 f1 (by omega) (by omega) ?_
        have c : fC (W w) (W o) i m = decide (fA (W w) (W o) m * fB (W w) (W o) i < fA (W w) (W o) i * fB (W w) (W o) m) := rfl
        show (bI (decide (fA (W w) (W o) m * fB (W w) (W o) i < fA (W w) (W o) i * fB (W w) (W o) m)) = 0 → _) ∧ (¬ bI (decide (fA (W w) (W o) m * fB (W w) (W o) i < fA (W w) (W o) i * fB (W w) (W o) m)) = 0 → _)
        rw [← c]
        cases cc : fC (W w) (W o) i m with
        | false =>
          rw [cc, if_neg (by decide)] at es
          refine br_t rfl ?_
          unfold w61_91
          rw [ee]
          refine ih (i + 1) _ M2 (by omega) h2 (Or.inr ⟨by omega, ?_, ?_, ?_⟩)
          · rw [es]
          · rw [es, y]; exact z1
          · rw [es, y]; exact z2
        | true =>
          rw [cc, if_pos rfl] at es
          refine br_f (by decide) (put _ i M2 h2 f0 f1 (fun M3 h3 f0 f1 => ih (i + 1) _ M3 (by omega) h3 (Or.inr ⟨by omega, ?_, ?_, ?_⟩)))
          · rw [es]
          · rw [es]; exact f0
          · rw [es]; exact f1
  exact ⟨wn (W w) + 1, lp (wn (W w)) 0 (-1) M (by omega) Fr_r (Or.inl ⟨rfl, rfl⟩)⟩
theorem w61_q {M : MM} {k : Nat} {W : Nat → WY} {F : Int × Int} {l1 l2 : Int32} {P : Int32 → MM → Prop} (hL : Lay M) (hW : CWs M k W) (hF : CFr M F) (hX : ∀ M' r st F', Fr sCF M M' → mI M' 0 10 = st → CFr M' F' → (r, st, F') = farA k W F l1 l2 → P r M') : w61 0 l1 l2 M P := by
  have hC := CWs_CW hL hW
  have k4 := hW.2.1
  unfold farA at hX
  refine ⟨kd_0 hL, w62_s (b := true) hC ?_⟩
  rw [if_pos rfl]
  refine ⟨kd_0 hL, kd_0 hL, ?_⟩
  rw [gI_y ⟨rfl, rfl⟩]
  have h1 : Fr sCF M (sI M 0 10 (chk2 k l1 l2)) := Fr_s0F Fr_r
  by_cases c : chk2 k l1 l2 = 0
  · rw [if_pos c] at hX
    refine br_t c ?_
    obtain ⟨w, o, rfl, rfl, hw, ho, hne⟩ := chk2_0 k4 c
    rw [jI_cn (by omega), jI_cn (by omega)] at hX
    exact w61_25_s (h1.1 hL) (CWs_F h1 hW) hw ho (fun M' h2 s f => hX _ _ _ _ (Fr_t h1 h2) s f rfl)
  · rw [if_neg c] at hX
    exact br_f c (hX _ _ _ F h1 (gI_y ⟨rfl, rfl⟩) hF rfl)
/-! the reference -/
theorem w201_29_s {M : MM} {k w o : Nat} {W : Nat → WY} {P : Int32 → MM → Prop} (hL : Lay M) (hW : RWs M k W) (hw : w < k) (ho : o < k) (hP : ∀ M', Fr sRF M M' → mI M' 203 9 = 0 → RFr M' (ft (fA (W w) (W o) (fM (W w) (W o))) (fB (W w) (W o) (fM (W w) (W o))), fb (fA (W w) (W o) (fM (W w) (W o))) (fB (W w) (W o) (fM (W w) (W o)))) → P (jI (fM (W w) (W o) : Int)) M') : ∃ n, w201_29 n 203 (jI (w : Int)) (jI (o : Int)) (-1) 0 1 0 M P := by
  have k4 := hW.2.1
  have gw := (hW.2.2 w hw).1
  have go := (hW.2.2 o ho).1
  have o1 := gw.1
  have o2 := gw.2.1
  have lp : ∀ (q i : Nat) (l3 : Int32) (l5 l7 : Int64) (M1 : MM), i + q = wn (W w) → Fr sRQ M M1 → (i = 0 ∧ l3 = -1 ∨ 0 < i ∧ l3 = jI (agm (fC (W w) (W o)) i : Int) ∧ l5 = jL (rfA (W w) (W o) (agm (fC (W w) (W o)) i)) ∧ l7 = jL (rfB (W w) (W o) (agm (fC (W w) (W o)) i))) → w201_29 (q + 1) 203 (jI (w : Int)) (jI (o : Int)) l3 l5 l7 (jI (i : Int)) M1 P := by
    intro q
    induction q with
    | zero =>
      intro i l3 l5 l7 M1 hi h1 hI
      have hL1 := h1.1 hL
      refine ⟨kd_203 hL1, w180_q hL1 (RWs_Q h1 hW) hw (br_t ?_ ⟨kd_203 hL1, ?_⟩)⟩
      · rw [jI_le (by omega) (by omega) (by omega) (by omega)]; omega
      · rcases hI with z | ⟨_, rfl, rfl, rfl⟩
        · omega
        · have ee : agm (fC (W w) (W o)) i = fM (W w) (W o) := by unfold fM; rw [show wn (W w) = i by omega]
          rw [ee]
          have fl : fM (W w) (W o) < wn (W w) := agm_l (by omega)
          have nl := nM_l (a := W w) (i := fM (W w) (W o)) go
          refine w195_s hL1 (n_g gw go fl nl).2 ⟨kd_203 hL1, kd_203 hL1, ?_⟩
          have nf := n_f gw go fl nl
          have nf1 : ft (rfA (W w) (W o) (fM (W w) (W o))) (rfB (W w) (W o) (fM (W w) (W o))) = ft (fA (W w) (W o) (fM (W w) (W o))) (fB (W w) (W o) (fM (W w) (W o))) := nf.1
          have nf2 : fb (rfA (W w) (W o) (fM (W w) (W o))) (rfB (W w) (W o) (fM (W w) (W o))) = fb (fA (W w) (W o) (fM (W w) (W o))) (fB (W w) (W o) (fM (W w) (W o))) := nf.2
          rw [nf1, nf2]
          refine hP _ (Fr_s9F (Fr_sL (Fr_sL (Fr_w h1 (fun x k h => sRF_Q h)) (sRF_1 (by omega))) (sRF_1 (by omega)))) (gI_y ⟨rfl, rfl⟩) ⟨?_, ?_⟩
          · rw [gL_sI, gL_n (by omega), gL_y ⟨rfl, rfl⟩]
          · rw [gL_sI, gL_y ⟨rfl, rfl⟩]
    | succ q ih =>
      intro i l3 l5 l7 M1 hi h1 hI
      have hL1 := h1.1 hL
      have hi' : i < wn (W w) := by omega
      have ee : jI (i : Int) + 1 = jI ((i + 1 : Nat) : Int) := by rw [show (1 : Int32) = jI 1 from rfl, jI_add, c_s1]
      refine ⟨kd_203 hL1, w180_q hL1 (RWs_Q h1 hW) hw (br_f ?_ ⟨kd_203 hL1, w198_s hL1 (RWs_Q h1 hW) hw ho hi' (fun M2 h12 f0 f1 => ?_)⟩)⟩
      · rw [jI_le (by omega) (by omega) (by omega) (by omega)]; omega
      have h2 : Fr sRQ M M2 := Fr_t h1 h12
      have hL2 := h2.1 hL
      have tk : agm (fC (W w) (W o)) (i + 1) = i → w201_76 (fun z0 z1 z2 z3 z4 z5 z6 z7 => w201_29 (q + 1) z0 z1 z2 z3 z4 z5 z6 z7 P) 203 (jI (w : Int)) (jI (o : Int)) (jI (i : Int)) M2 P := fun e => by
        refine ⟨kd_203 hL2, kd_203 hL2, ?_⟩
        unfold w201_92
        rw [ee, f0, f1]
        exact ih (i + 1) _ _ _ M2 (by omega) h2 (Or.inr ⟨by omega, by rw [e], by rw [e]; rfl, by rw [e]; rfl⟩)
      rcases hI with ⟨rfl, rfl⟩ | ⟨e0, rfl, rfl, rfl⟩
      · exact br_t rfl (tk (agm_1 _))
      · have ml := agm_l (c := fC (W w) (W o)) e0
        have es := agm_s (fC (W w) (W o)) i
        generalize agm (fC (W w) (W o)) i = m at *
        have a1 : 0 ≤ fA (W w) (W o) i ∧ fA (W w) (W o) i ≤ 419904 ∧ 0 < fB (W w) (W o) i ∧ fB (W w) (W o) i ≤ 648 := n_b gw go hi' (nM_l go)
        have a2 : 0 ≤ fA (W w) (W o) m ∧ fA (W w) (W o) m ≤ 419904 ∧ 0 < fB (W w) (W o) m ∧ fB (W w) (W o) m ≤ 648 := n_b gw go (show m < wn (W w) by omega) (nM_l go)
        have b1 : 0 ≤ rfA (W w) (W o) i ∧ rfA (W w) (W o) i ≤ 419904 ∧ 0 < rfB (W w) (W o) i ∧ rfB (W w) (W o) i ≤ 648 := rn_b gw go hi' (nM_l go)
        have b2 : 0 ≤ rfA (W w) (W o) m ∧ rfA (W w) (W o) m ≤ 419904 ∧ 0 < rfB (W w) (W o) m ∧ rfB (W w) (W o) m ≤ 648 := rn_b gw go (show m < wn (W w) by omega) (nM_l go)
        have x1 : fA (W w) (W o) i * rfB (W w) (W o) i = rfA (W w) (W o) i * fB (W w) (W o) i := n_x go (nM_l go)
        have x2 : fA (W w) (W o) m * rfB (W w) (W o) m = rfA (W w) (W o) m * fB (W w) (W o) m := n_x go (nM_l go)
        have p1 := mul_bb b1.1 b1.2.1 (Int.le_of_lt b2.2.2.1) b2.2.2.2
        have p2 := mul_bb b2.1 b2.2.1 (Int.le_of_lt b1.2.2.1) b1.2.2.2
        have cr : fC (W w) (W o) i m = decide (rfA (W w) (W o) m * rfB (W w) (W o) i < rfA (W w) (W o) i * rfB (W w) (W o) m) := by
          unfold fC
          rw [decide_eq_decide]
          exact fcmp a2.2.2.1 a1.2.2.1 b2.2.2.1 b1.2.2.1 x2 x1
        refine br_f ?_ ⟨kd_203 hL2, kd_203 hL2, ?_⟩
        · rw [show (-1 : Int32) = jI (-1) from rfl, jI_eq (by omega) (by omega) (by omega) (by omega)]; omega
        rw [f0, f1]
        refine w199_s (a := rfA (W w) (W o) i) (b := rfB (W w) (W o) i) (by omega) (by omega) (fun r r1 r2 r3 r4 => ?_)
        rw [show ((0 : Int32) < jI r) = (jI 0 < jI r) from rfl, jI_lt (by omega) (by omega) (by omega) (by omega), r4]
        refine ⟨fun y => tk ?_, fun y => ?_⟩
        · rw [es, cr, if_pos (decide_eq_true y)]
        · rw [cr, if_neg (fun z => y (of_decide_eq_true z))] at es
          unfold w201_92
          rw [ee]
          exact ih (i + 1) _ _ _ M2 (by omega) h2 (Or.inr ⟨by omega, by rw [es], by rw [es], by rw [es]⟩)
  exact ⟨wn (W w) + 1, lp (wn (W w)) 0 (-1) 0 1 M (by omega) Fr_r (Or.inl ⟨rfl, rfl⟩)⟩
theorem w201_q {M : MM} {k : Nat} {W : Nat → WY} {F : Int × Int} {l1 l2 : Int32} {P : Int32 → MM → Prop} (hL : Lay M) (hW : RWs M k W) (hF : RFr M F) (hX : ∀ M' r st F', Fr sRF M M' → mI M' 203 9 = st → RFr M' F' → (r, st, F') = farA k W F l1 l2 → P r M') : w201 203 l1 l2 M P := by
  have hC := RWs_RW hL hW
  have k4 := hW.2.1
  unfold farA at hX
  refine ⟨kd_203 hL, w202_s hC ?_⟩
  by_cases c : chk2 k l1 l2 = 0
  · rw [if_pos c] at hX
    refine br_t (by rw [c]; decide) ?_
    obtain ⟨w, o, rfl, rfl, hw, ho, hne⟩ := chk2_0 k4 c
    rw [jI_cn (by omega), jI_cn (by omega)] at hX
    exact w201_29_s hL hW hw ho (fun M' h2 s f => hX _ _ _ _ h2 s f rfl)
  · rw [if_neg c] at hX
    refine br_f ?_ ⟨kd_203 hL, kd_203 hL, hX _ _ _ F (Fr_s9F Fr_r) (gI_y ⟨rfl, rfl⟩) hF rfl⟩
    unfold chk2 at c ⊢
    split
    · split
      · decide
      · rename_i a b; rw [if_pos a, if_neg b] at c; exact absurd rfl c
    · decide
