/-! ===== piece: the class ===== -/
/-- what is known of the leash of a candidate -/
def isR (S : Nat → Int × Int) (e : Nat) (n d : Int) : Prop := gE n d ∧ gE (S e).1 (S e).2 ∧ n * (S e).2 = (S e).1 * d
def bC (S : Nat → Int × Int) (e m : Nat) : Bool := decide ((S e).1 * (S m).2 < (S m).1 * (S e).2)
theorem isR_c {S : Nat → Int × Int} {e m : Nat} {n d n' d' : Int} (h : isR S e n d) (h' : isR S m n' d') : decide (n * d' < n' * d) = bC S e m := by
  unfold bC
  rw [decide_eq_decide]
  exact fcmp h.1.2.2.1 h'.1.2.2.1 h.2.1.2.2.1 h'.2.1.2.2.1 h.2.2 h'.2.2
theorem isR_f {S : Nat → Int × Int} {e : Nat} {n d : Int} (h : isR S e n d) : ft n d = ft (S e).1 (S e).2 ∧ fb n d = fb (S e).1 (S e).2 := fr_eqI h.1.1 h.1.2.2.1 h.2.1.1 h.2.1.2.2.1 h.2.2
theorem isR_s {kind : Int32} {a b : WY} {S : Nat → Int × Int} {e : Nat} {n d : Int} (h : isSh kind a b n d) (hS : S e = shF kind a b) : isR S e n d := by
  refine ⟨h.1, ?_, ?_⟩
  · rw [hS]; exact (shF_s h).1
  · rw [hS]; exact shF_x h
/-- the best so far, in the class -/
def bst (M : MM) (S : Nat → Int × Int) (o : Option Nat) (l3 : Int32) : Prop := (o = none ∧ l3 = -1) ∨ ∃ m n d, o = some m ∧ l3 = jI (m : Int) ∧ isR S m n d ∧ mL M 56 0 = jL n ∧ mL M 56 1 = jL d
theorem bst_fr {A : Nat → Nat → Bool} {M M' : MM} {S : Nat → Int × Int} {o : Option Nat} {l3 : Int32} (hF : Fr A M M') (h0 : A 56 0 = false) (h1 : A 56 1 = false) (h : bst M S o l3) : bst M' S o l3 := by
  rcases h with h | ⟨m, n, d, x1, x2, x3, x4, x5⟩
  · exact Or.inl h
  · exact Or.inr ⟨m, n, d, x1, x2, x3, (Fr_L hF h0).trans x4, (Fr_L hF h1).trans x5⟩
def sBe : Nat → Nat → Bool := sB 56 0 1 1 0
theorem cpy_c {M : MM} {n d : Int} {K : MM → Prop} (hL : Lay M) (f0 : mL M 55 0 = jL n) (f1 : mL M 55 1 = jL d) (hX : ∀ M', Fr sBe M M' → mL M' 56 0 = jL n → mL M' 56 1 = jL d → K M') : kd M 0 9 ∧ (kd M 0 9 ∧ (∃ a1, mR M 0 13 = some a1 ∧ (kd M a1 3 ∧ w56 a1 (mR M 0 12) M K))) := by
  refine ⟨kd_0 hL, kd_0 hL, 56, rf_0_13 hL, kd_56 hL, 55, rf_0_12 hL, kd_55 hL, kd_56 hL, kd_55 hL, kd_56 hL, ?_⟩
  rw [gL_n (by omega), f0, f1]
  exact hX _ (Fr_sL (Fr_sL Fr_r (sB_t1 (by omega))) (sB_t1 (by omega))) (by rw [gL_n (by omega), gL_y ⟨rfl, rfl⟩]) (gL_y ⟨rfl, rfl⟩)
theorem bst_c {M : MM} {v : Nat → Bool} {S : Nat → Int × Int} {l3 : Int32} {e : Nat} {n d : Int} {T Sk : MM → Prop} (hL : Lay M) (e1 : e < 1000) (hv : v e = true) (hb : bst M S (agv v (bC S) e) l3) (hR : isR S e n d) (f0 : mL M 55 0 = jL n) (f1 : mL M 55 1 = jL d) (hT : agv v (bC S) (e + 1) = some e → T M) (hS : agv v (bC S) (e + 1) = agv v (bC S) e → Sk M) : (l3 = (-1 : Int32) → T M) ∧ (¬ (l3 = (-1 : Int32)) → (kd M 0 9 ∧ (kd M 0 9 ∧ (∃ a6, mR M 0 12 = some a6 ∧ (kd M a6 3 ∧ w63 a6 (mR M 0 13) M (fun r8 M7 => (r8 = 0 → Sk M7) ∧ (¬ (r8 = 0) → T M7))))))) := by
  rcases hb with ⟨h1, rfl⟩ | ⟨m, n', d', h1, rfl, hR', g0, g1⟩
  · exact ⟨fun _ => hT (agv_0 hv h1), fun z => absurd rfl z⟩
  · have ml := agv_l h1
    have ne : ¬ (jI (m : Int) = (-1 : Int32)) := by rw [show (-1 : Int32) = jI (-1) from rfl, jI_eq (by omega) (by omega) (by omega) (by omega)]; omega
    refine ⟨fun z => absurd z ne, fun _ => ⟨kd_0 hL, kd_0 hL, 55, rf_0_12 hL, kd_55 hL, ?_⟩⟩
    rw [rf_0_13 hL]
    have b1 := pr_b hR.1 hR'.1
    have b2 := pr_b hR'.1 hR.1
    refine w63_s (kd_55 hL) (kd_56 hL) f0 f1 g0 g1 (by omega) (by omega) ?_
    rw [isR_c hR hR']
    have es := agv_1 (c := bC S) hv h1
    cases c : bC S e m with
    | false =>
      rw [c, if_neg (by decide)] at es
      exact br_t rfl (hS (by rw [es, h1]))
    | true =>
      rw [c, if_pos rfl] at es
      exact br_f (by decide) (hT es)
def pcV (b : WY) (e : Nat) : Bool := decide (e / 8 < e % 8 ∧ e % 8 < wn b)
noncomputable def pcS (a b : WY) (e : Nat) : Int × Int := shF 0 a (pc b (e / 8) (e % 8))
noncomputable def pcB (a b : WY) : Nat := (agv (pcV b) (bC (pcS a b)) 64).getD 0
theorem pcV_t {b : WY} {i k : Nat} (k8 : k < 8) (ik : i < k) (hk : k < wn b) : pcV b (8 * i + k) = true := by
  refine decide_eq_true ?_
  rw [show (8 * i + k) / 8 = i by omega, show (8 * i + k) % 8 = k by omega]
  exact ⟨ik, hk⟩
theorem pcS_t {a b : WY} {i k : Nat} (k8 : k < 8) : pcS a b (8 * i + k) = shF 0 a (pc b i k) := by
  unfold pcS
  rw [show (8 * i + k) / 8 = i by omega, show (8 * i + k) % 8 = k by omega]
def sPi : Nat → Nat → Bool := sB 0 1 0 55 187
theorem sPi_o {x k : Nat} (h : x < 55 ∨ 187 < x) : sPi x k = false := sB_f (by omega) (by omega)
theorem sPi_t {x k : Nat} (h : 55 ≤ x ∧ x ≤ 187) : sPi x k = true := sB_t2 h
theorem sTk_P {x k : Nat} (h : sPi x k = false) : sTk 185 x k = false := by
  refine sB_f (fun z => ?_) (fun z => ?_)
  · rw [sPi_t (by omega)] at h; cases h
  · rw [sPi_t (by omega)] at h; cases h
theorem sFi_P {x k : Nat} (h : sPi x k = false) : sFi x k = false := by
  refine sB_f (fun z => ?_) (fun z => ?_)
  · rw [sPi_t (by omega)] at h; cases h
  · rw [sPi_t (by omega)] at h; cases h
theorem sBe_P {x k : Nat} (h : sPi x k = false) : sBe x k = false := by
  refine sB_f (fun z => ?_) (by omega)
  rw [sPi_t (by omega)] at h; cases h
theorem isT_185 : isT 185 = true := by decide
theorem w125_20_s {M0 : MM} {t u i : Nat} {a b : WY} {K : Nat → Option Nat → Option Nat → Int32 → Int32 → MM → Prop} {P : Int32 → MM → Prop} (hL0 : Lay M0) (ht : isT t = true) (hu : isT u = true) (t1 : 187 < t) (u1 : 187 < u) (hA : TrC M0 t a) (hB : TrC M0 u b) (ga : gW a) (gb : gW b) (hi : i < wn b)
    (hX : ∀ M' l3, Fr sPi M0 M' → bst M' (pcS a b) (agv (pcV b) (bC (pcS a b)) (8 * i + wn b)) l3 → K 0 (some t) (some u) l3 (jI ((i + 1 : Nat) : Int)) M') :
    ∀ (q k : Nat) (l3 : Int32) (M : MM), k + q = wn b → i < k → Fr sPi M0 M → bst M (pcS a b) (agv (pcV b) (bC (pcS a b)) (8 * i + k)) l3 → w125_20 K (q + 1) 0 (some t) (some u) l3 (jI (i : Int)) (jI (k : Int)) M P := by
  have b2 := gb.2.1
  have tr : ∀ M, Fr sPi M0 M → TrC M t a ∧ TrC M u b := fun M h => ⟨TrC_fr2 h (fun x k _ _ => sPi_o (by omega)) hA, TrC_fr2 h (fun x k _ _ => sPi_o (by omega)) hB⟩
  intro q
  induction q with
  | zero =>
    intro k l3 M hk ik h hb
    have hL := h.1 hL0
    refine ⟨u, rfl, kd_T hL hu, br_t (by rw [(tr M h).2.1, jI_le (by omega) (by omega) (by omega) (by omega)]; omega) ?_⟩
    rw [show jI (i : Int) + 1 = jI ((i + 1 : Nat) : Int) by rw [show (1 : Int32) = jI 1 from rfl, jI_add, c_s1]]
    rw [show k = wn b by omega] at hb
    exact hX M l3 h hb
  | succ q ih =>
    intro k l3 M hk ik h hb
    have hL := h.1 hL0
    have hk' : k < wn b := by omega
    have ek : jI (k : Int) + 1 = jI ((k + 1 : Nat) : Int) := by rw [show (1 : Int32) = jI 1 from rfl, jI_add, c_s1]
    have ee : jI (i : Int) * 8 + jI (k : Int) = jI ((8 * i + k : Nat) : Int) := by rw [show (8 : Int32) = jI 8 from rfl, jI_mul, jI_add]; congr 1; omega
    refine ⟨u, rfl, kd_T hL hu, br_f (by rw [(tr M h).2.1, jI_le (by omega) (by omega) (by omega) (by omega)]; omega) ⟨kd_0 hL, 185, rf_0_17 hL, kd_T hL isT_185, ?_⟩⟩
    refine w32_s hL hu isT_185 (Or.inr (by omega)) (tr M h).2 b2 (by omega) hk' (fun M1 h1 t2 _ => ?_)
    have hF1 : Fr sPi M0 M1 := Fr_t h (Fr_w h1 (fun x k => sTk_P))
    have hL1 := hF1.1 hL0
    refine ⟨kd_0 hL1, kd_0 hL1, kd_0 hL1, 58, rf_0_15 hL1, kd_58 hL1, ?_⟩
    rw [rf_0_17 hL1, rf_0_12 hL1]
    refine w106_s hL1 ht isT_185 (tr M1 hF1).1 t2 ga (pc_g gb ik hk') (Or.inl rfl) (fun M2 n d h2 hs f0 f1 => ?_)
    have hF2 : Fr sPi M0 M2 := Fr_t hF1 (Fr_w h2 (fun x k => sFi_P))
    have hL2 := hF2.1 hL0
    have hb2 : bst M2 (pcS a b) (agv (pcV b) (bC (pcS a b)) (8 * i + k)) l3 := bst_fr h2 (sB_f (by omega) (by omega)) (sB_f (by omega) (by omega)) (bst_fr h1 (sB_f (by omega) (by omega)) (sB_f (by omega) (by omega)) hb)
    have hR := isR_s (S := pcS a b) (e := 8 * i + k) hs (pcS_t (by omega))
    refine bst_c (T := fun M => w125_77 K (fun z0 z1 z2 z3 z4 z5 z6 => w125_20 K (q + 1) z0 z1 z2 z3 z4 z5 z6 P) 0 (some t) (some u) (jI (i : Int)) (jI (k : Int)) M P) (Sk := fun M => w125_97 K (fun z0 z1 z2 z3 z4 z5 z6 => w125_20 K (q + 1) z0 z1 z2 z3 z4 z5 z6 P) 0 (some t) (some u) l3 (jI (i : Int)) (jI (k : Int)) M P) hL2 (by omega) (pcV_t (by omega) ik hk') hb2 hR f0 f1 (fun hn => cpy_c hL2 f0 f1 (fun M3 h3 g0 g1 => ?_)) (fun hn => ?_)
    · show w125_97 _ _ _ _ _ _ _ _ _ _
      unfold w125_97
      rw [ek, ee]
      exact ih (k + 1) _ M3 (by omega) (by omega) (Fr_t hF2 (Fr_w h3 (fun x k => sBe_P))) (Or.inr ⟨8 * i + k, n, d, hn, rfl, hR, g0, g1⟩)
    · show w125_97 _ _ _ _ _ _ _ _ _ _
      unfold w125_97
      rw [ek]
      refine ih (k + 1) _ M2 (by omega) (by omega) hF2 ?_
      rw [show 8 * i + (k + 1) = 8 * i + k + 1 from rfl, hn]
      exact hb2
theorem w125_s {M0 : MM} {t u : Nat} {a b : WY} {P : Int32 → MM → Prop} (hL0 : Lay M0) (ht : isT t = true) (hu : isT u = true) (t1 : 187 < t) (u1 : 187 < u) (hA : TrC M0 t a) (hB : TrC M0 u b) (ga : gW a) (gb : gW b) (hX : ∀ M' n d, Fr sPi M0 M' → isR (pcS a b) (pcB a b) n d → pcB a b < 64 → mL M' 56 0 = jL n → mL M' 56 1 = jL d → P (jI (pcB a b : Int)) M') : w125 0 (some t) (some u) M0 P := by
  have b1 := gb.1
  have b2 := gb.2.1
  have tr : ∀ M, Fr sPi M0 M → TrC M u b := fun M h => TrC_fr2 h (fun x k _ _ => sPi_o (by omega)) hB
  have lp : ∀ (q i : Nat) (l3 : Int32) (M : MM), i + q = wn b → Fr sPi M0 M → bst M (pcS a b) (agv (pcV b) (bC (pcS a b)) (8 * i)) l3 → w125_5 (q + 1) 0 (some t) (some u) l3 (jI (i : Int)) M P := by
    intro q
    induction q with
    | zero =>
      intro i l3 M hi h hb
      have hL := h.1 hL0
      refine ⟨u, rfl, kd_T hL hu, br_t (by rw [(tr M h).1, jI_le (by omega) (by omega) (by omega) (by omega)]; omega) ?_⟩
      obtain ⟨m, hm⟩ := agv_so (v := pcV b) (c := bC (pcS a b)) (e := 8 * i) (x := 1) (by omega) (pcV_t (i := 0) (k := 1) (by omega) (by omega) (by omega))
      have e64 : agv (pcV b) (bC (pcS a b)) 64 = agv (pcV b) (bC (pcS a b)) (8 * i) := agv_k (by omega) (fun e x1 x2 => decide_eq_false (by omega))
      have eB : pcB a b = m := by unfold pcB; rw [e64, hm]; rfl
      have ml := agv_l hm
      rw [hm] at hb
      rcases hb with ⟨z, _⟩ | ⟨m', n, d, z, rfl, hR, g0, g1⟩
      · cases z
      · cases z
        subst eB
        exact hX M n d h hR (by omega) g0 g1
    | succ q ih =>
      intro i l3 M hi h hb
      have hL := h.1 hL0
      refine ⟨u, rfl, kd_T hL hu, br_f (by rw [(tr M h).1, jI_le (by omega) (by omega) (by omega) (by omega)]; omega) ⟨wn b - (i + 1) + 1, ?_⟩⟩
      rw [show jI (i : Int) + 1 = jI ((i + 1 : Nat) : Int) by rw [show (1 : Int32) = jI 1 from rfl, jI_add, c_s1]]
      refine w125_20_s hL0 ht hu t1 u1 hA hB ga gb (by omega) (fun M' l3' h' hb' => ih (i + 1) l3' M' (by omega) h' ?_) (wn b - (i + 1)) (i + 1) l3 M (by omega) (by omega) h ?_
      · rw [agv_k (v := pcV b) (x := 8 * i + wn b) (y := 8 * (i + 1)) (by omega) (fun e x1 x2 => decide_eq_false (by omega))]
        exact hb'
      · rw [agv_k (v := pcV b) (x := 8 * i) (y := 8 * i + (i + 1)) (by omega) (fun e x1 x2 => decide_eq_false (by omega))]
        exact hb
  exact ⟨wn b + 1, lp (wn b) 0 (-1) M0 (by omega) Fr_r (Or.inl ⟨rfl, rfl⟩)⟩
def piC (k : Nat) (l1 l2 l3 : Int32) : Int32 := if frb l3 0 1 = true then chk2 k l1 l2 else 1
noncomputable def pieA (k : Nat) (W : Nat → WY) (l1 l2 l3 : Int32) : Int32 × Int32 :=
  if piC k l1 l2 l3 = 0 then ((if l3 = 0 then jI ((pcB (W l1.toNatClampNeg) (W l2.toNatClampNeg) / 8 : Nat) : Int) else jI ((pcB (W l1.toNatClampNeg) (W l2.toNatClampNeg) % 8 : Nat) : Int)), 0) else (-1, piC k l1 l2 l3)
theorem frb_01 {l3 : Int32} : frb l3 0 1 = true ↔ (l3 = 0 ∨ l3 = 1) := by
  obtain ⟨z, rfl, z1, z2⟩ := jI_of l3
  rw [show (1 : Int32) = jI 1 from rfl, show (0 : Int32) = jI 0 from rfl, frb_i z1 z2 (by omega) (by omega) (by omega) (by omega), decide_eq_true_eq, jI_eq (by omega) (by omega) (by omega) (by omega), jI_eq (by omega) (by omega) (by omega) (by omega)]
  omega
theorem sPi_Q {x k : Nat} (h : sCQ x k = false) : sPi x k = false := by
  refine sPi_o ?_
  by_cases z : 55 ≤ x ∧ x ≤ 187
  · rw [show sCQ x k = sB 0 10 10 55 190 x k from rfl, sB_t2 (by omega)] at h; cases h
  · omega
theorem w124_q {M : MM} {k : Nat} {W : Nat → WY} {l1 l2 l3 : Int32} {P : Int32 → MM → Prop} (hL : Lay M) (hW : CWs M k W) (hX : ∀ M' r st, Fr sCQ M M' → mI M' 0 10 = st → (r, st) = pieA k W l1 l2 l3 → P r M') : w124 0 l1 l2 l3 M P := by
  have hC := CWs_CW hL hW
  have k4 := hW.2.1
  have core : ∀ b : Bool, (b = true ↔ frb l3 0 1 = true) → w124_16 0 l1 l2 l3 (some 0) (some 0) (bI b) M P := by
    intro b hb
    have e : (if b = true then chk2 k l1 l2 else 1) = piC k l1 l2 l3 := by
      unfold piC
      by_cases z : b = true
      · rw [if_pos z, if_pos (hb.mp z)]
      · rw [if_neg z, if_neg (fun y => z (hb.mpr y))]
    refine ⟨0, rfl, kd_0 hL, w62_s hC ?_⟩
    rw [e]
    have h1 : Fr sCQ M (sI M 0 10 (piC k l1 l2 l3)) := Fr_s0 Fr_r
    have g1 : mI (sI M 0 10 (piC k l1 l2 l3)) 0 10 = piC k l1 l2 l3 := gI_y ⟨rfl, rfl⟩
    refine ⟨0, rfl, kd_0 hL, kd_0 hL, ?_⟩
    rw [g1]
    unfold pieA at hX
    by_cases c : piC k l1 l2 l3 = 0
    · rw [if_pos c] at hX
      have hf : frb l3 0 1 = true := by
        unfold piC at c
        by_cases z : frb l3 0 1 = true
        · exact z
        · rw [if_neg z] at c; exact absurd c (by decide)
      have c2 : chk2 k l1 l2 = 0 := by unfold piC at c; rw [if_pos hf] at c; exact c
      obtain ⟨w, o, rfl, rfl, hw, ho, hne⟩ := chk2_0 k4 c2
      rw [jI_cn (by omega), jI_cn (by omega)] at hX
      have hL1 := h1.1 hL
      have hW1 := CWs_Q h1 hW
      refine br_t c ?_
      generalize sI M 0 10 (piC k (jI (w : Int)) (jI (o : Int)) l3) = M1 at *
      refine ⟨kd_0 hL1, 19, rf_0_5 hL1, i19 hL1 (by omega), kd_0 hL1, 19, rf_0_5 hL1, i19 hL1 (by omega), kd_0 hL1, ?_⟩
      rw [jI_cn (by omega), jI_cn (by omega), rf_19 hL1 (by omega), rf_19 hL1 (by omega)]
      refine w125_s hL1 (isT_way (by omega)) (isT_way (by omega)) (by omega) (by omega) (hW1.2.2 w hw).2 (hW1.2.2 o ho).2 (hW.2.2 w hw).1 (hW.2.2 o ho).1 (fun M2 n d h2 hR p64 g0 g1' => ?_)
      have hL2 := h2.1 hL1
      have hF2 : Fr sCQ M M2 := Fr_t h1 (Fr_w h2 (fun x k => sPi_Q))
      generalize pcB (W w) (W o) = p at *
      have e1 : jI (p : Int) / 8 = jI ((p / 8 : Nat) : Int) := by rw [show (8 : Int32) = jI 8 from rfl, jI_div (by omega) (by omega) (by omega) (by omega)]; congr 1
      have e2 : jI (p : Int) - jI (p : Int) / 8 * 8 = jI ((p % 8 : Nat) : Int) := by rw [e1, show (8 : Int32) = jI 8 from rfl, jI_mul, jI_sub]; congr 1; omega
      refine ⟨fun z => ⟨by decide, 0, rfl, kd_0 hL2, kd_0 hL2, ?_⟩, fun z => ⟨by decide, 0, rfl, kd_0 hL2, kd_0 hL2, ?_⟩⟩
      · rw [if_neg z] at hX
        rw [e2]; exact hX _ _ _ (Fr_s0 hF2) (gI_y ⟨rfl, rfl⟩) rfl
      · rw [if_pos (Classical.not_not.mp z)] at hX
        rw [e1]; exact hX _ _ _ (Fr_s0 hF2) (gI_y ⟨rfl, rfl⟩) rfl
    · rw [if_neg c] at hX
      exact br_f c (hX _ _ _ h1 g1 rfl)
  have yes : frb l3 0 1 = true → w124_11 0 l1 l2 l3 (some 0) (some 0) M P := fun z => core true ⟨fun _ => z, fun _ => rfl⟩
  refine ⟨fun z => yes (frb_01.mpr (Or.inl z)), fun z => ⟨fun y => core false ⟨fun w => (by cases w), fun w => ?_⟩, fun y => yes (frb_01.mpr (Or.inr (Classical.not_not.mp y)))⟩⟩
  rcases frb_01.mp w with v | v
  · exact absurd v z
  · exact absurd v y
noncomputable def pcsA (k : Nat) (W : Nat → WY) (F : Int × Int) (l1 l2 : Int32) : Int32 × Int32 × Int × Int :=
  if chk2 k l1 l2 = 0 then (1, 0, ft (pcS (W l1.toNatClampNeg) (W l2.toNatClampNeg) (pcB (W l1.toNatClampNeg) (W l2.toNatClampNeg))).1 (pcS (W l1.toNatClampNeg) (W l2.toNatClampNeg) (pcB (W l1.toNatClampNeg) (W l2.toNatClampNeg))).2, fb (pcS (W l1.toNatClampNeg) (W l2.toNatClampNeg) (pcB (W l1.toNatClampNeg) (W l2.toNatClampNeg))).1 (pcS (W l1.toNatClampNeg) (W l2.toNatClampNeg) (pcB (W l1.toNatClampNeg) (W l2.toNatClampNeg))).2) else (0, chk2 k l1 l2, F)
theorem w126_q {M : MM} {k : Nat} {W : Nat → WY} {F : Int × Int} {l1 l2 : Int32} {P : Int32 → MM → Prop} (hL : Lay M) (hW : CWs M k W) (hF : CFr M F) (hX : ∀ M' r st F', Fr sCF M M' → mI M' 0 10 = st → CFr M' F' → (r, st, F') = pcsA k W F l1 l2 → P r M') : w126 0 l1 l2 M P := by
  have hC := CWs_CW hL hW
  have k4 := hW.2.1
  refine ⟨kd_0 hL, w62_s (b := true) hC ?_⟩
  rw [if_pos rfl]
  have h1 : Fr sCF M (sI M 0 10 (chk2 k l1 l2)) := Fr_s0F Fr_r
  have g1 : mI (sI M 0 10 (chk2 k l1 l2)) 0 10 = chk2 k l1 l2 := gI_y ⟨rfl, rfl⟩
  refine ⟨kd_0 hL, kd_0 hL, ?_⟩
  rw [g1]
  unfold pcsA at hX
  by_cases c : chk2 k l1 l2 = 0
  · rw [if_pos c] at hX
    obtain ⟨w, o, rfl, rfl, hw, ho, hne⟩ := chk2_0 k4 c
    rw [jI_cn (by omega), jI_cn (by omega)] at hX
    have hL1 := h1.1 hL
    have hW1 := CWs_F h1 hW
    refine br_t c ?_
    generalize sI M 0 10 (chk2 k (jI (w : Int)) (jI (o : Int))) = M1 at *
    refine ⟨kd_0 hL1, 19, rf_0_5 hL1, i19 hL1 (by omega), kd_0 hL1, 19, rf_0_5 hL1, i19 hL1 (by omega), kd_0 hL1, ?_⟩
    rw [jI_cn (by omega), jI_cn (by omega), rf_19 hL1 (by omega), rf_19 hL1 (by omega)]
    refine w125_s hL1 (isT_way (by omega)) (isT_way (by omega)) (by omega) (by omega) (hW1.2.2 w hw).2 (hW1.2.2 o ho).2 (hW.2.2 w hw).1 (hW.2.2 o ho).1 (fun M2 n d h2 hR p64 g0 g1' => ?_)
    have hL2 := h2.1 hL1
    have hF2 : Fr sCF M M2 := Fr_t h1 (Fr_w h2 (fun x k z => sPi_Q (sCF_Q z)))
    have nf := isR_f hR
    rw [← nf.1, ← nf.2] at hX
    refine ⟨kd_0 hL2, kd_0 hL2, ?_⟩
    rw [rf_0_13 hL2]
    exact w55_s hL2 (Or.inr (Or.inl rfl)) g0 g1' (gE_F hR.1) (fun M3 h3 s3 t0 t1 => ⟨Or.inr rfl, hX _ _ _ (_, _) (Fr_t hF2 h3) s3 ⟨t0, t1⟩ rfl⟩)
  · rw [if_neg c] at hX
    exact br_f c (hX _ _ _ F h1 g1 hF rfl)
