/-! ===== ring: both sides ===== -/
def rg1 (n i : Nat) (f : Nat → Int) : Nat → Int := fun x => if i + x ≤ n then f (i + x) else f (i + x - n)
def rgW (b : WY) (i : Nat) : WY := (wn b, rg1 (wn b - 1) i (wx b), rg1 (wn b - 1) i (wy b))
def rgO (b : WY) : Bool := decide (wx b 0 = wx b (wn b - 1) ∧ wy b 0 = wy b (wn b - 1))
theorem rg_l {n i x : Nat} {f : Nat → Int} (h : i + x ≤ n) : rg1 n i f x = f (i + x) := if_pos h
theorem rg_r {n i x : Nat} {f : Nat → Int} (h : n < i + x) : rg1 n i f x = f (i + x - n) := if_neg (by omega)
theorem rg_g {b : WY} {i : Nat} (h : gW b) (hi : i + 1 < wn b) (hr : rgO b = true) : gW (rgW b i) := by
  have hr' := of_decide_eq_true hr
  have b1 := h.1
  refine ⟨h.1, h.2.1, fun x hx => ?_, fun x hx => ?_⟩
  · have hx' : x < wn b := hx
    show 0 ≤ rg1 (wn b - 1) i (wx b) x ∧ rg1 (wn b - 1) i (wx b) x ≤ 18 ∧ 0 ≤ rg1 (wn b - 1) i (wy b) x ∧ rg1 (wn b - 1) i (wy b) x ≤ 18
    by_cases z : i + x ≤ wn b - 1
    · rw [rg_l z, rg_l z]; exact h.2.2.1 _ (by omega)
    · rw [rg_r (by omega), rg_r (by omega)]; exact h.2.2.1 _ (by omega)
  · have hx' : x + 1 < wn b := hx
    show ¬ (rg1 (wn b - 1) i (wx b) x = rg1 (wn b - 1) i (wx b) (x + 1) ∧ rg1 (wn b - 1) i (wy b) x = rg1 (wn b - 1) i (wy b) (x + 1))
    by_cases z : i + (x + 1) ≤ wn b - 1
    · have zx : i + x ≤ wn b - 1 := by omega
      rw [rg_l (f := wx b) zx, rg_l (f := wy b) zx, rg_l (f := wx b) z, rg_l (f := wy b) z]; exact h.2.2.2 (i + x) (by omega)
    · by_cases y : i + x ≤ wn b - 1
      · have e : i + x = wn b - 1 := by omega
        rw [rg_l y, rg_l y, rg_r (by omega), rg_r (by omega), e, show i + (x + 1) - (wn b - 1) = 0 + 1 by omega, ← hr'.1, ← hr'.2]
        exact h.2.2.2 0 (by omega)
      · rw [rg_r (by omega), rg_r (by omega), rg_r (by omega), rg_r (by omega), show i + (x + 1) - (wn b - 1) = i + x - (wn b - 1) + 1 by omega]
        exact h.2.2.2 _ (by omega)
theorem w129_s {M : MM} {t u i : Nat} {b : WY} {P : MM → Prop} (hL : Lay M) (ht : isT t = true) (hu : isT u = true) (ha : aprt t u) (hB : TrC M t b) (gb : gW b) (hi : i + 1 < wn b) (hX : ∀ M', Fr (sTk u) M M' → TrC M' u (rgW b i) → P M') : w129 u (some t) (jI (i : Int)) M P := by
  have b1 := gb.1
  have b8 := gb.2.1
  refine ⟨t, rfl, kd_T hL ht, kd_T hL hu, ?_⟩
  rw [hB.1, show jI (wn b : Int) - 1 = jI ((wn b - 1 : Nat) : Int) by rw [show (1 : Int32) = jI 1 from rfl, jI_sub]; congr 1; omega]
  refine w32_s hL ht hu ha hB b8 (by omega) (by omega) (fun M1 h1 t1 _ => ⟨i + 1, ?_⟩)
  have t1' : TrC M1 u (wn b - i + (1 - 1), rg1 (wn b - 1) i (wx b), rg1 (wn b - 1) i (wy b)) := by
    refine TrC_c t1 ⟨?_, fun x hx => ?_⟩
    · show wn b - 1 + 1 - i = wn b - i + (1 - 1); omega
    · have hx' : x < wn b - 1 + 1 - i := hx
      show wx b (i + x) = rg1 (wn b - 1) i (wx b) x ∧ wy b (i + x) = rg1 (wn b - 1) i (wy b) x
      rw [rg_l (by omega), rg_l (by omega)]; exact ⟨rfl, rfl⟩
  have lp : ∀ (q j : Nat) (M' : MM), j + q = i + 1 → 1 ≤ j → Fr (sTk u) M M' → TrC M' u (wn b - i + (j - 1), rg1 (wn b - 1) i (wx b), rg1 (wn b - 1) i (wy b)) → w129_14 (q + 1) u (some t) (jI (i : Int)) (jI (j : Int)) M' P := by
    intro q
    induction q with
    | zero =>
      intro j M' hj j1 hF hT
      refine br_t (by rw [jI_lt (by omega) (by omega) (by omega) (by omega)]; omega) (hX M' hF ?_)
      rw [show wn b - i + (j - 1) = wn b by omega] at hT
      exact hT
    | succ q ih =>
      intro j M' hj j1 hF hT
      have hL' := hF.1 hL
      have hB' := TrC_k hF ha hB
      have e1 : jI (j : Int) + 1 = jI ((j + 1 : Nat) : Int) := by rw [show (1 : Int32) = jI 1 from rfl, jI_add, c_s1]
      unfold w129_14
      rw [e1]
      refine br_f (by rw [jI_lt (by omega) (by omega) (by omega) (by omega)]; omega) ⟨t, rfl, kd_T hL' ht, br_f (by rw [hB'.1, jI_le (by omega) (by omega) (by omega) (by omega)]; omega) ⟨kd_T hL' ht, t + 1, rfx_T hL' ht, inxj hL' ht (by omega), kd_T hL' ht, t + 2, rfy_T hL' ht, inyj hL' ht (by omega), kd_T hL' hu, ?_⟩⟩
      have qb := hB'.2 j (by omega)
      rw [jI_cn (by omega), qb.1, qb.2]
      have := w29_s (P := fun M4 => w129_14 (q + 1) u (some t) (jI (i : Int)) (jI ((j + 1 : Nat) : Int)) M4 P) hL' hu hT (by omega) (fun M2 h2 t2 n2 => ih (j + 1) M2 (by omega) (by omega) (Fr_t hF h2) (by rw [show wn b - i + (j + 1 - 1) = wn b - i + (j - 1) + 1 by omega]; exact t2))
      rw [rg_r (by omega), rg_r (by omega), show i + (wn b - i + (j - 1)) - (wn b - 1) = j by omega] at this
      exact this
  exact lp i 1 M1 (by omega) (by omega) h1 t1'
def tru (_ : Nat) : Bool := true
noncomputable def rgS (a b : WY) (e : Nat) : Int × Int := shF 0 a (rgW b e)
noncomputable def rgB (a b : WY) : Nat := (agv tru (bC (rgS a b)) (wn b - 1)).getD 0
noncomputable def rinA (k : Nat) (W : Nat → WY) (F : Int × Int) (l1 l2 : Int32) : Int32 × Int32 × Int × Int :=
  if chk2 k l1 l2 = 0 then (if rgO (W l2.toNatClampNeg) = true then (jI (rgB (W l1.toNatClampNeg) (W l2.toNatClampNeg) : Int), 0, ft (rgS (W l1.toNatClampNeg) (W l2.toNatClampNeg) (rgB (W l1.toNatClampNeg) (W l2.toNatClampNeg))).1 (rgS (W l1.toNatClampNeg) (W l2.toNatClampNeg) (rgB (W l1.toNatClampNeg) (W l2.toNatClampNeg))).2, fb (rgS (W l1.toNatClampNeg) (W l2.toNatClampNeg) (rgB (W l1.toNatClampNeg) (W l2.toNatClampNeg))).1 (rgS (W l1.toNatClampNeg) (W l2.toNatClampNeg) (rgB (W l1.toNatClampNeg) (W l2.toNatClampNeg))).2) else (-1, 5, F)) else (-1, chk2 k l1 l2, F)
theorem w127_53_s {M0 : MM} {k w o : Nat} {W : Nat → WY} {P : Int32 → MM → Prop} (hL0 : Lay M0) (hW0 : CWs M0 k W) (hw : w < k) (ho : o < k) (hr : rgO (W o) = true)
    (hX : ∀ M' n d, Fr sCF M0 M' → mI M' 0 10 = 0 → isR (rgS (W w) (W o)) (rgB (W w) (W o)) n d → CFr M' (ft n d, fb n d) → P (jI (rgB (W w) (W o) : Int)) M') :
    ∀ (q i : Nat) (l4 : Int32) (M : MM), i + q + 1 = wn (W o) → Fr sPi M0 M → bst M (rgS (W w) (W o)) (agv tru (bC (rgS (W w) (W o))) i) l4 → w127_53 (q + 1) 0 (jI (w : Int)) (some (191 + 3 * o)) l4 (jI (i : Int)) M P := by
  have k4 := hW0.2.1
  have ga := (hW0.2.2 w hw).1
  have gb := (hW0.2.2 o ho).1
  have b1 := gb.1
  have b2 := gb.2.1
  have to : isT (191 + 3 * o) = true := isT_way (by omega)
  intro q
  induction q with
  | zero =>
    intro i l4 M hi h hb
    have hL := h.1 hL0
    have hW := CWs_P h hW0
    refine ⟨_, rfl, kd_T hL to, br_t (by rw [(hW.2.2 o ho).2.1, show (1 : Int32) = jI 1 from rfl, jI_add, jI_le (by omega) (by omega) (by omega) (by omega)]; omega) ⟨kd_0 hL, kd_0 hL, ?_⟩⟩
    rw [rf_0_13 hL]
    obtain ⟨m, hm⟩ := agv_so (v := tru) (c := bC (rgS (W w) (W o))) (e := i) (x := 0) (by omega) rfl
    have eB : rgB (W w) (W o) = m := by unfold rgB; rw [show wn (W o) - 1 = i by omega, hm]; rfl
    rw [hm] at hb
    rcases hb with ⟨z, _⟩ | ⟨m', n, d, z, rfl, hR, g0, g1⟩
    · cases z
    · cases z
      subst eB
      exact w55_s hL (Or.inr (Or.inl rfl)) g0 g1 (gE_F hR.1) (fun M3 h3 s3 t0 t1 => hX M3 n d (Fr_t (Fr_w h (fun x k z => sPi_Q (sCF_Q z))) h3) s3 hR ⟨t0, t1⟩)
  | succ q ih =>
    intro i l4 M hi h hb
    have hL := h.1 hL0
    have hW := CWs_P h hW0
    have ei : jI (i : Int) + 1 = jI ((i + 1 : Nat) : Int) := by rw [show (1 : Int32) = jI 1 from rfl, jI_add, c_s1]
    refine ⟨_, rfl, kd_T hL to, br_f (by rw [(hW.2.2 o ho).2.1, ei, jI_le (by omega) (by omega) (by omega) (by omega)]; omega) ⟨kd_0 hL, 185, rf_0_17 hL, kd_T hL isT_185, w129_s hL to isT_185 (Or.inr (by omega)) (hW.2.2 o ho).2 gb (by omega) (fun M1 h1 t1 => ?_)⟩⟩
    have hF1 : Fr sPi M0 M1 := Fr_t h (Fr_w h1 (fun x k => sTk_P))
    have hL1 := hF1.1 hL0
    have hW1 := CWs_P hF1 hW0
    refine ⟨kd_0 hL1, kd_0 hL1, 19, rf_0_5 hL1, i19 hL1 (by omega), kd_0 hL1, kd_0 hL1, 58, rf_0_15 hL1, kd_58 hL1, ?_⟩
    rw [jI_cn (by omega), rf_19 hL1 (by omega), rf_0_17 hL1, rf_0_12 hL1]
    refine w106_s hL1 (isT_way (by omega)) isT_185 (hW1.2.2 w hw).2 t1 ga (rg_g gb (by omega) hr) (Or.inl rfl) (fun M2 n d h2 hs f0 f1 => ?_)
    have hF2 : Fr sPi M0 M2 := Fr_t hF1 (Fr_w h2 (fun x k => sFi_P))
    have hL2 := hF2.1 hL0
    have hb2 : bst M2 (rgS (W w) (W o)) (agv tru (bC (rgS (W w) (W o))) i) l4 := bst_fr h2 (sB_f (by omega) (by omega)) (sB_f (by omega) (by omega)) (bst_fr h1 (sB_f (by omega) (by omega)) (sB_f (by omega) (by omega)) hb)
    have hR := isR_s (S := rgS (W w) (W o)) (e := i) hs rfl
    refine bst_c (v := tru) (T := fun M => w127_116 (fun z0 z1 z2 z3 z4 z5 => w127_53 (q + 1) z0 z1 z2 z3 z4 z5 P) 0 (jI (w : Int)) (some (191 + 3 * o)) (jI (i : Int)) M P) (Sk := fun M => w127_131 (fun z0 z1 z2 z3 z4 z5 => w127_53 (q + 1) z0 z1 z2 z3 z4 z5 P) 0 (jI (w : Int)) (some (191 + 3 * o)) l4 (jI (i : Int)) M P) hL2 (by omega) rfl hb2 hR f0 f1 (fun hn => cpy_c hL2 f0 f1 (fun M3 h3 g0 g1 => ?_)) (fun hn => ?_)
    · show w127_131 _ _ _ _ _ _ _ _
      unfold w127_131
      rw [ei]
      exact ih (i + 1) _ M3 (by omega) (Fr_t hF2 (Fr_w h3 (fun x k => sBe_P))) (Or.inr ⟨i, n, d, hn, rfl, hR, g0, g1⟩)
    · show w127_131 _ _ _ _ _ _ _ _
      unfold w127_131
      rw [ei]
      refine ih (i + 1) _ M2 (by omega) hF2 ?_
      rw [hn]
      exact hb2
theorem w127_q {M : MM} {k : Nat} {W : Nat → WY} {F : Int × Int} {l1 l2 : Int32} {P : Int32 → MM → Prop} (hL : Lay M) (hW : CWs M k W) (hF : CFr M F) (hX : ∀ M' r st F', Fr sCF M M' → mI M' 0 10 = st → CFr M' F' → (r, st, F') = rinA k W F l1 l2 → P r M') : w127 0 l1 l2 M P := by
  have hC := CWs_CW hL hW
  have k4 := hW.2.1
  refine ⟨kd_0 hL, w62_s (b := true) hC ?_⟩
  rw [if_pos rfl]
  have h1 : Fr sCF M (sI M 0 10 (chk2 k l1 l2)) := Fr_s0F Fr_r
  have g1 : mI (sI M 0 10 (chk2 k l1 l2)) 0 10 = chk2 k l1 l2 := gI_y ⟨rfl, rfl⟩
  refine ⟨kd_0 hL, kd_0 hL, ?_⟩
  rw [g1]
  unfold rinA at hX
  by_cases c : chk2 k l1 l2 = 0
  · rw [if_pos c] at hX
    obtain ⟨w, o, rfl, rfl, hw, ho, hne⟩ := chk2_0 k4 c
    rw [jI_cn (by omega), jI_cn (by omega)] at hX
    have hL1 := h1.1 hL
    have hW1 := CWs_F h1 hW
    have hC1 : CFr (sI M 0 10 (chk2 k (jI (w : Int)) (jI (o : Int)))) F := hF
    refine br_t c ?_
    generalize sI M 0 10 (chk2 k (jI (w : Int)) (jI (o : Int))) = M1 at *
    have gb := (hW.2.2 o ho).1
    have b1 := gb.1
    have b2 := gb.2.1
    have to : isT (191 + 3 * o) = true := isT_way (by omega)
    refine ⟨kd_0 hL1, 19, rf_0_5 hL1, i19 hL1 (by omega), _, by rw [jI_cn (by omega)]; exact rf_19 hL1 (by omega), kd_T hL1 to, kd_T hL1 to, ?_⟩
    rw [(hW1.2.2 o ho).2.1, show (1 : Int32) = jI 1 from rfl, jI_sub, show (0 : Int32) = jI 0 from rfl]
    refine w128_s hL1 to (hW1.2.2 o ho).2 gb (by omega) (by omega) (by omega) (by omega) ?_
    have ea : alk (W o) 0 ((wn (W o) : Int) - 1) = rgO (W o) := by
      unfold alk rgO
      rw [decide_eq_decide, show ((wn (W o) : Int) - 1).toNat = wn (W o) - 1 by omega]
      exact ⟨fun z => z.2.2.2.2, fun z => ⟨by omega, by omega, by omega, by omega, z.1, z.2⟩⟩
    rw [ea]
    cases cr : rgO (W o) with
    | false =>
      rw [cr, if_neg (by decide)] at hX
      exact br_f (fun z => z rfl) ⟨kd_0 hL1, kd_0 hL1, hX _ _ _ F (Fr_s0F h1) (gI_y ⟨rfl, rfl⟩) hC1 rfl⟩
    | true =>
      rw [cr, if_pos rfl] at hX
      refine br_t (by decide) ⟨wn (W o) - 1 + 1, w127_53_s hL1 hW1 hw ho cr (fun M2 n d h2 s2 hR f2 => ?_) (wn (W o) - 1) 0 (-1) M1 (by omega) Fr_r (Or.inl ⟨rfl, rfl⟩)⟩
      have nf := isR_f hR
      rw [← nf.1, ← nf.2] at hX
      exact hX _ _ _ _ (Fr_t h1 h2) s2 f2 rfl
  · rw [if_neg c] at hX
    exact br_f c (hX _ _ _ F h1 g1 hF rfl)
/-! the reference -/
def rbq (M : MM) (S : Nat → Int × Int) (o : Option Nat) (l5 : Int32) : Prop := (o = none ∧ l5 = -1) ∨ ∃ m n d, o = some m ∧ l5 = jI (m : Int) ∧ isR S m n d ∧ mL M 203 65 = jL n ∧ mL M 203 66 = jL d
theorem rbq_fr {A : Nat → Nat → Bool} {M M' : MM} {S : Nat → Int × Int} {o : Option Nat} {l5 : Int32} (hF : Fr A M M') (h0 : ∀ k, 65 ≤ k → k ≤ 66 → A 203 k = false) (h : rbq M S o l5) : rbq M' S o l5 := by
  rcases h with h | ⟨m, n, d, x1, x2, x3, x4, x5⟩
  · exact Or.inl h
  · exact Or.inr ⟨m, n, d, x1, x2, x3, (Fr_L hF (h0 _ (by omega) (by omega))).trans x4, (Fr_L hF (h0 _ (by omega) (by omega))).trans x5⟩
theorem w263_98_s {M0 : MM} {k w o i : Nat} {W : Nat → WY} {K : Nat → Int32 → Int32 → Int32 → Int32 → MM → Prop} {P : Int32 → MM → Prop} (hL0 : Lay M0) (hW0 : RWs M0 k W) (hA : RA1 M0 (W w)) (hw : w < k) (ho : o < k) (hr : rgO (W o) = true) (hi : i + 1 < wn (W o))
    (hX : ∀ M' l5, Fr sPq M0 M' → rbq M' (rgS (W w) (W o)) (agv tru (bC (rgS (W w) (W o))) (i + 1)) l5 → K 203 (jI (o : Int)) (jI ((wn (W o) - 1 : Nat) : Int)) l5 (jI ((i + 1 : Nat) : Int)) M') :
    ∀ (q x : Nat) (l5 : Int32) (M : MM), x + q = wn (W o) → Fr sPq M0 M → rbq M (rgS (W w) (W o)) (agv tru (bC (rgS (W w) (W o))) i) l5 → RB1 M (x, rg1 (wn (W o) - 1) i (wx (W o)), rg1 (wn (W o) - 1) i (wy (W o))) → w263_98 K (q + 1) 203 (jI (o : Int)) (jI ((wn (W o) - 1 : Nat) : Int)) l5 (jI (i : Int)) (jI (x : Int)) M P := by
  have ga := (hW0.2.2 w hw).1
  have gb := (hW0.2.2 o ho).1
  have b1 := gb.1
  have b2 := gb.2.1
  have hr' := of_decide_eq_true hr
  have ei : jI (i : Int) + 1 = jI ((i + 1 : Nat) : Int) := by rw [show (1 : Int32) = jI 1 from rfl, jI_add, c_s1]
  intro q
  induction q with
  | zero =>
    intro x l5 M hx h hb hB
    have hL := h.1 hL0
    rw [show x = wn (W o) by omega] at hB
    refine br_t (by rw [jI_lt (by omega) (by omega) (by omega) (by omega)]; omega) ⟨kd_203 hL, w245_s hL (RAB_i (RA1_q h hA) (show RB1 M (rgW (W o) i) from hB)) ga (rg_g gb hi hr) (Or.inl rfl) (fun M2 n d h2 hs f0 f1 _ => ?_)⟩
    have hF2 : Fr sPq M0 M2 := Fr_t h (Fr_w h2 (fun x k => sSh_P))
    have hL2 := hF2.1 hL0
    have hb2 : rbq M2 (rgS (W w) (W o)) (agv tru (bC (rgS (W w) (W o))) i) l5 := rbq_fr h2 (fun k _ _ => sB_f (by omega) (by omega)) hb
    have hR := isR_s (S := rgS (W w) (W o)) (e := i) hs rfl
    have tk : agv tru (bC (rgS (W w) (W o))) (i + 1) = some i → w263_160 K 203 (jI (o : Int)) (jI ((wn (W o) - 1 : Nat) : Int)) (jI (i : Int)) M2 P := fun hn => by
      refine ⟨kd_203 hL2, kd_203 hL2, kd_203 hL2, kd_203 hL2, ?_⟩
      unfold w263_180
      rw [ei, gL_n (by omega), f0, f1]
      exact hX _ _ (Fr_sL (Fr_sL hF2 (sPq_t (by omega))) (sPq_t (by omega))) (Or.inr ⟨i, n, d, hn, rfl, hR, by rw [gL_n (by omega), gL_y ⟨rfl, rfl⟩], gL_y ⟨rfl, rfl⟩⟩)
    rcases hb2 with ⟨z1, rfl⟩ | ⟨m, n', d', z1, rfl, hR', g0, g1⟩
    · exact br_t rfl (tk (agv_0 rfl z1))
    · refine br_f ?_ ⟨kd_203 hL2, kd_203 hL2, kd_203 hL2, kd_203 hL2, ?_⟩
      · have ml := agv_l z1
        rw [show (-1 : Int32) = jI (-1) from rfl, jI_eq (by omega) (by omega) (by omega) (by omega)]; omega
      rw [f0, f1, g0, g1]
      refine bst_r (v := tru) (T := fun M => w263_160 K 203 (jI (o : Int)) (jI ((wn (W o) - 1 : Nat) : Int)) (jI (i : Int)) M P) (Sk := fun M => w263_180 K 203 (jI (o : Int)) (jI ((wn (W o) - 1 : Nat) : Int)) (jI (m : Int)) (jI (i : Int)) M P) rfl z1 hR hR' tk (fun hn => ?_)
      show w263_180 _ _ _ _ _ _ _ _
      unfold w263_180
      rw [ei]
      refine hX M2 _ hF2 ?_
      rw [hn]
      exact Or.inr ⟨m, n', d', z1, rfl, hR', g0, g1⟩
  | succ q ih =>
    intro x l5 M hx h hb hB
    have hL := h.1 hL0
    have hW : RWs M k W := RWs_fr h (sB_f (by omega) (by omega)) (fun q => sB_f (by omega) (by omega)) hW0
    have ex : jI (x : Int) + 1 = jI ((x + 1 : Nat) : Int) := by rw [show (1 : Int32) = jI 1 from rfl, jI_add, c_s1]
    have em : (jI (i : Int) + jI (x : Int)) - (jI (i : Int) + jI (x : Int)) / jI ((wn (W o) - 1 : Nat) : Int) * jI ((wn (W o) - 1 : Nat) : Int) = jI (((i + x) % (wn (W o) - 1) : Nat) : Int) := by
      rw [jI_add, jI_div (by omega) (by omega) (by omega) (by omega), jI_mul, jI_sub, j_rem]; congr 1
    have hm : (i + x) % (wn (W o) - 1) < wn (W o) - 1 := Nat.mod_lt _ (by omega)
    have hf : ∀ f : Nat → Int, f 0 = f (wn (W o) - 1) → rg1 (wn (W o) - 1) i f x = f ((i + x) % (wn (W o) - 1)) := fun f h0 => by
      by_cases c1 : i + x < wn (W o) - 1
      · rw [rg_l (by omega), Nat.mod_eq_of_lt c1]
      · by_cases c2 : i + x = wn (W o) - 1
        · rw [rg_l (by omega), c2, Nat.mod_self, h0]
        · rw [rg_r (by omega), Nat.mod_eq_sub_mod (by omega), Nat.mod_eq_of_lt (by omega)]
    unfold w263_98
    rw [ex, em]
    refine br_f (by rw [jI_lt (by omega) (by omega) (by omega) (by omega)]; omega) ⟨?_, kd_203 hL, w214_p hL hW ho (by omega) (by omega) hB (hf _ hr'.1) (hf _ hr'.2) (fun M3 h3 hB3 => ih (x + 1) l5 M3 (by omega) (Fr_t h (Fr_w h3 (fun x k => sRB_P))) (rbq_fr h3 (fun k _ _ => sB_f (by omega) (by omega)) hb) hB3)⟩
    rw [show (0 : Int32) = jI 0 from rfl, jI_eq (by omega) (by omega) (by omega) (by omega)]; omega
theorem w263_q {M : MM} {k : Nat} {W : Nat → WY} {F : Int × Int} {l1 l2 : Int32} {P : Int32 → MM → Prop} (hL : Lay M) (hW : RWs M k W) (hF : RFr M F) (hX : ∀ M' r st F', Fr sRF M M' → mI M' 203 9 = st → RFr M' F' → (r, st, F') = rinA k W F l1 l2 → P r M') : w263 203 l1 l2 M P := by
  have hC := RWs_RW hL hW
  have k4 := hW.2.1
  unfold rinA at hX
  refine ⟨kd_203 hL, w202_s hC ?_⟩
  by_cases c : chk2 k l1 l2 = 0
  · rw [if_pos c] at hX
    refine br_t (by rw [c]; decide) ?_
    obtain ⟨w, o, rfl, rfl, hw, ho, hne⟩ := chk2_0 k4 c
    rw [jI_cn (by omega), jI_cn (by omega)] at hX
    have ga := (hW.2.2 w hw).1
    have gb := (hW.2.2 o ho).1
    have a1 := ga.1
    have b1 := gb.1
    have b2 := gb.2.1
    have p0 := gb.2.2.1 0 (by omega)
    have p9 := gb.2.2.1 (wn (W o) - 1) (by omega)
    have five : rgO (W o) = false → w263_58 203 M P := fun e => by
      rw [e, if_neg (by decide)] at hX
      exact ⟨kd_203 hL, kd_203 hL, hX _ _ _ F (Fr_s9F Fr_r) (gI_y ⟨rfl, rfl⟩) hF rfl⟩
    have en : ∀ v : Nat, 1 ≤ v → jI (v : Int) - 1 = jI ((v - 1 : Nat) : Int) := fun v hv => by rw [show (1 : Int32) = jI 1 from rfl, jI_sub]; congr 1; omega
    refine ⟨kd_203 hL, w180_q hL hW ho ⟨kd_203 hL, w184_q (i := 0) hL hW ho (by omega) ⟨kd_203 hL, ?_⟩⟩⟩
    rw [en _ (by omega)]
    refine w184_q hL hW ho (by omega) ?_
    rw [ne_eq, jI_eq (by omega) (by omega) (by omega) (by omega)]
    refine ⟨fun z => five (decide_eq_false (fun y => z y.1)), fun z => ⟨kd_203 hL, w185_q (i := 0) hL hW ho (by omega) ⟨kd_203 hL, w185_q hL hW ho (by omega) ?_⟩⟩⟩
    rw [jI_eq (by omega) (by omega) (by omega) (by omega)]
    refine ⟨fun y => ?_, fun y => five (decide_eq_false (fun x => y x.2))⟩
    have cr : rgO (W o) = true := decide_eq_true ⟨Classical.not_not.mp z, y⟩
    rw [cr, if_pos rfl] at hX
    refine ⟨kd_203 hL, w180_q hL hW hw ⟨kd_203 hL, ?_⟩⟩
    rw [en _ (by omega)]
    refine w212_s (i0 := 0) hL hW hw (by omega) (by omega) (fun M1 h1 r1 => ⟨wn (W o) - 1 + 1, ?_⟩)
    have hF1 : Fr sPw M M1 := Fr_w h1 (fun x k z => sB_w (by omega) (by omega) x k z)
    have hL1 := hF1.1 hL
    have hW1 := RWs_P hF1 hW
    have hA1 := RA1_c r1 (pc_all ga)
    have lp : ∀ (q i : Nat) (l5 : Int32) (M' : MM), i + q + 1 = wn (W o) → Fr sPq M1 M' → rbq M' (rgS (W w) (W o)) (agv tru (bC (rgS (W w) (W o))) i) l5 → w263_83 (q + 1) 203 (jI (o : Int)) (jI ((wn (W o) - 1 : Nat) : Int)) l5 (jI (i : Int)) M' P := by
      intro q
      induction q with
      | zero =>
        intro i l5 M' hi h hb
        have hL' := h.1 hL1
        refine br_t (by rw [jI_le (by omega) (by omega) (by omega) (by omega)]; omega) ⟨kd_203 hL', kd_203 hL', kd_203 hL', ?_⟩
        obtain ⟨m, hm⟩ := agv_so (v := tru) (c := bC (rgS (W w) (W o))) (e := i) (x := 0) (by omega) rfl
        have eB : rgB (W w) (W o) = m := by unfold rgB; rw [show wn (W o) - 1 = i by omega, hm]; rfl
        rw [hm] at hb
        rcases hb with ⟨z, _⟩ | ⟨m', n, d, z, rfl, hR, g0, g1⟩
        · cases z
        · cases z
          subst eB
          have nf := isR_f hR
          rw [← nf.1, ← nf.2] at hX
          have hF3 : Fr sPw M M' := Fr_t hF1 (Fr_w h (fun x k z => sB_w (by omega) (by omega) x k z))
          have hF3' : Fr sRF M M' := Fr_w hF3 (fun x k z => sPw_Q (sRF_Q z))
          rw [g0, g1]
          refine w195_s hL' (gE_F hR.1) ⟨kd_203 hL', kd_203 hL', ?_⟩
          refine hX _ _ _ (_, _) (Fr_s9F (Fr_sL (Fr_sL hF3' (sRF_1 (by omega))) (sRF_1 (by omega)))) (gI_y ⟨rfl, rfl⟩) ⟨?_, ?_⟩ rfl
          · rw [gL_sI, gL_n (by omega), gL_y ⟨rfl, rfl⟩]
          · rw [gL_sI, gL_y ⟨rfl, rfl⟩]
      | succ q ih =>
        intro i l5 M' hi h hb
        have hL' := h.1 hL1
        refine br_f (by rw [jI_le (by omega) (by omega) (by omega) (by omega)]; omega) ⟨kd_203 hL', wn (W o) + 1, ?_⟩
        have h2 : Fr sRB M' (sI M' 203 28 0) := Fr_sI Fr_r (sB_t1 (by omega))
        exact w263_98_s hL1 hW1 hA1 hw ho cr (by omega) (fun M'' l5' h'' hb'' => ih (i + 1) l5' M'' (by omega) h'' hb'') (wn (W o)) 0 l5 _ (by omega) (Fr_t h (Fr_w h2 (fun x k => sRB_P))) (rbq_fr h2 (fun k _ _ => sB_f (by omega) (by omega)) hb) ⟨gI_y ⟨rfl, rfl⟩, fun j hj => absurd (show j < 0 from hj) (by omega)⟩
    exact lp (wn (W o) - 1) 0 (-1) M1 (by omega) Fr_r (Or.inl ⟨rfl, rfl⟩)
  · rw [if_neg c] at hX
    exact br_f (chk2_n c) ⟨kd_203 hL, kd_203 hL, hX _ _ _ F (Fr_s9F Fr_r) (gI_y ⟨rfl, rfl⟩) hF rfl⟩
