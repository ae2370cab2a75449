/-! ===== middle: both sides ===== -/
noncomputable def mxO (W : Nat → WY) (w k : Nat) : Option Nat := agv (knV w) (fun e m => bC (knS W w) m e) k
noncomputable def miS (W : Nat → WY) (k w : Nat) : Int × Int := knS W w ((mxO W w k).getD 0)
noncomputable def miA (k : Nat) (W : Nat → WY) : Int32 × Int32 := if k < 2 then (-1, 5) else (jI (((agv tru (bC (miS W k)) k).getD 0 : Nat) : Int), 0)
theorem mx_so {W : Nat → WY} {w k : Nat} (h2 : 2 ≤ k) : ∃ m, mxO W w k = some m := by
  by_cases c : w = 0
  · exact agv_so (x := 1) (by omega) (decide_eq_true (by omega))
  · exact agv_so (x := 0) (by omega) (decide_eq_true (by omega))
theorem mi_R {W : Nat → WY} {w k m : Nat} {n d : Int} (hm : mxO W w k = some m) (hR : isR (knS W w) m n d) : isR (miS W k) w n d := by
  have e : miS W k w = knS W w m := by unfold miS; rw [hm]; rfl
  unfold isR at *
  rw [e]; exact hR
/-- the greatest so far, in the class -/
def wor (M : MM) (S : Nat → Int × Int) (o : Option Nat) : Prop := (o = none ∧ mL M 57 0 = jL 0 ∧ mL M 57 1 = jL 1) ∨ ∃ m n d, o = some m ∧ isR S m n d ∧ mL M 57 0 = jL n ∧ mL M 57 1 = jL d
def sWo : Nat → Nat → Bool := sB 55 0 1 57 183
theorem sWo_P {x k : Nat} (h : sPi x k = false) : sWo x k = false := by
  refine sB_f (fun z => ?_) (fun z => ?_)
  · rw [sPi_t (by omega)] at h; cases h
  · rw [sPi_t (by omega)] at h; cases h
theorem w137_s {M0 : MM} {k w : Nat} {W : Nat → WY} {P : MM → Prop} (hL0 : Lay M0) (hW0 : CWs M0 k W) (hw : w < k) (h2 : 2 ≤ k) (hX : ∀ M' n d, Fr sWo M0 M' → isR (miS W k) w n d → mL M' 57 0 = jL n → mL M' 57 1 = jL d → P M') : w137 0 (jI (w : Int)) M0 P := by
  have k4 := hW0.2.1
  have lp : ∀ (q o : Nat) (M : MM), o + q = k → Fr sWo M0 M → wor M (knS W w) (mxO W w o) → w137_11 (q + 1) 0 (jI (w : Int)) (jI (o : Int)) M P := by
    intro q
    induction q with
    | zero =>
      intro o M ho h hb
      have hL := h.1 hL0
      have hW := CWs_P (Fr_w h (fun x k => sWo_P)) hW0
      have : o = k := by omega
      subst this
      obtain ⟨m, hm⟩ := mx_so (W := W) (w := w) h2
      rw [hm] at hb
      refine ⟨kd_0 hL, br_t (by rw [hW.1]; exact Int32.le_refl _) ?_⟩
      rcases hb with ⟨z, _⟩ | ⟨m', n, d, z, hR, g0, g1⟩
      · cases z
      · cases z
        exact hX M n d h (mi_R hm hR) g0 g1
    | succ q ih =>
      intro o M ho h hb
      have hL := h.1 hL0
      have hW := CWs_P (Fr_w h (fun x k => sWo_P)) hW0
      have eo : jI (o : Int) + 1 = jI ((o + 1 : Nat) : Int) := by rw [show (1 : Int32) = jI 1 from rfl, jI_add, c_s1]
      refine ⟨kd_0 hL, br_f (by rw [hW.1, jI_le (by omega) (by omega) (by omega) (by omega)]; omega) ⟨fun z => ?_, fun z => ?_⟩⟩
      · rw [jI_eq (by omega) (by omega) (by omega) (by omega)] at z
        unfold w137_73
        rw [eo]
        refine ih (o + 1) M (by omega) h ?_
        unfold mxO
        rw [agv_n (decide_eq_false (fun y => y (by omega)))]
        exact hb
      · rw [jI_eq (by omega) (by omega) (by omega) (by omega)] at z
        have hv : knV w o = true := decide_eq_true (by omega)
        refine ⟨kd_0 hL, kd_0 hL, 19, rf_0_5 hL, i19 hL (by omega), kd_0 hL, 19, rf_0_5 hL, i19 hL (by omega), kd_0 hL, 58, rf_0_15 hL, kd_58 hL, ?_⟩
        rw [jI_cn (by omega), jI_cn (by omega), rf_19 hL (by omega), rf_19 hL (by omega), rf_0_12 hL]
        refine w106_s hL (isT_way (by omega)) (isT_way (by omega)) (hW.2.2 w hw).2 (hW.2.2 o (by omega)).2 (hW.2.2 w hw).1 (hW.2.2 o (by omega)).1 (Or.inl rfl) (fun M2 n' d' h2' hs f0 f1 => ?_)
        have hF2 : Fr sWo M0 M2 := Fr_t h (Fr_w h2' (fun x k z => sB_w (by omega) (by omega) x k z))
        have hL2 := hF2.1 hL0
        have hR' := isR_s (S := knS W w) (e := o) hs rfl
        have y0 : mL M2 57 0 = mL M 57 0 := Fr_L h2' (sB_f (by omega) (by omega))
        have y1 : mL M2 57 1 = mL M 57 1 := Fr_L h2' (sB_f (by omega) (by omega))
        refine ⟨kd_0 hL2, kd_0 hL2, 57, rf_0_14 hL2, kd_57 hL2, ?_⟩
        rw [rf_0_12 hL2]
        -- the leash at hand, and what becomes of it
        obtain ⟨n, d, gE0, z0, z1, hyes, hno⟩ : ∃ n d, gE n d ∧ mL M2 57 0 = jL n ∧ mL M2 57 1 = jL d ∧ (n * d' < n' * d → mxO W w (o + 1) = some o) ∧ (¬ n * d' < n' * d → ∃ m, mxO W w (o + 1) = some m ∧ isR (knS W w) m n d) := by
          rcases hb with ⟨q1, q2, q3⟩ | ⟨m, n, d, q1, q2, q3, q4⟩
          · refine ⟨0, 1, ⟨by omega, by omega, by omega, by omega⟩, y0.trans q2, y1.trans q3, fun _ => agv_0 hv q1, fun c => ⟨o, agv_0 hv q1, ⟨by omega, by omega, by omega, by omega⟩, hR'.2.1, ?_⟩⟩
            have n0 := hR'.1.1
            have e0 : n' = 0 := by omega
            have e1 := hR'.2.2
            rw [e0, Int.zero_mul] at e1
            have dp := hR'.1.2.2.1
            have : (knS W w o).1 = 0 := by
              rcases Int.mul_eq_zero.mp e1.symm with u | u
              · exact u
              · omega
            rw [this]; omega
          · have es := agv_1 (c := fun e m => bC (knS W w) m e) hv q1
            have cc := isR_c q2 hR'
            refine ⟨n, d, q2.1, y0.trans q3, y1.trans q4, fun c => ?_, fun c => ⟨m, ?_, q2⟩⟩
            · rw [decide_eq_true c] at cc
              show agv _ _ _ = _
              rw [es, if_pos cc.symm]
            · rw [decide_eq_false c] at cc
              show agv _ _ _ = _
              rw [es, if_neg (by rw [← cc]; decide)]
        have b1 := pr_b gE0 hR'.1
        have b2 := pr_b hR'.1 gE0
        refine w63_s (kd_57 hL2) (kd_55 hL2) z0 z1 f0 f1 (by omega) (by omega) ?_
        unfold w137_73
        rw [eo]
        by_cases c : n * d' < n' * d
        · rw [decide_eq_true c]
          refine br_f (by decide) ⟨kd_0 hL2, kd_0 hL2, 57, rf_0_14 hL2, kd_57 hL2, 55, rf_0_12 hL2, kd_55 hL2, kd_57 hL2, kd_55 hL2, kd_57 hL2, ?_⟩
          rw [gL_n (by omega), f0, f1]
          exact ih (o + 1) _ (by omega) (Fr_sL (Fr_sL hF2 (sB_t2 (by omega))) (sB_t2 (by omega))) (Or.inr ⟨o, n', d', hyes c, hR', by rw [gL_n (by omega), gL_y ⟨rfl, rfl⟩], gL_y ⟨rfl, rfl⟩⟩)
        · rw [decide_eq_false c]
          obtain ⟨m, m1, m2⟩ := hno c
          exact br_t rfl (ih (o + 1) M2 (by omega) hF2 (Or.inr ⟨m, n, d, m1, m2, z0, z1⟩))
  refine ⟨kd_0 hL0, 57, rf_0_14 hL0, kd_57 hL0, kd_57 hL0, kd_57 hL0, k + 1, ?_⟩
  exact lp k 0 _ (by omega) (Fr_sL (Fr_sL Fr_r (sB_t2 (by omega))) (sB_t2 (by omega))) (Or.inl ⟨rfl, by rw [gL_n (by omega), gL_y ⟨rfl, rfl⟩]; rfl, gL_y ⟨rfl, rfl⟩⟩)
theorem w136_q {M : MM} {k : Nat} {W : Nat → WY} {P : Int32 → MM → Prop} (hL : Lay M) (hW : CWs M k W) (hX : ∀ M' r st, Fr sCQ M M' → mI M' 0 10 = st → (r, st) = miA k W → P r M') : w136 0 M P := by
  have k4 := hW.2.1
  unfold miA at hX
  refine ⟨kd_0 hL, ?_⟩
  rw [hW.1, show (2 : Int32) = jI 2 from rfl, jI_le (by omega) (by omega) (by omega) (by omega)]
  refine ⟨fun z => ⟨k + 1, ?_⟩, fun z => ?_⟩
  · rw [if_neg (by omega)] at hX
    have lp : ∀ (q w : Nat) (l1 : Int32) (M' : MM), w + q = k → Fr sPi M M' → bst M' (miS W k) (agv tru (bC (miS W k)) w) l1 → w136_18 (q + 1) 0 l1 (jI (w : Int)) M' P := by
      intro q
      induction q with
      | zero =>
        intro w l1 M' hw h hb
        have hL' := h.1 hL
        have hW' := CWs_P h hW
        have : w = k := by omega
        subst this
        obtain ⟨m, hm⟩ := agv_so (v := tru) (c := bC (miS W w)) (e := w) (x := 0) (by omega) rfl
        rw [hm] at hb hX
        refine ⟨kd_0 hL', br_t (by rw [hW'.1]; exact Int32.le_refl _) ⟨kd_0 hL', kd_0 hL', ?_⟩⟩
        rcases hb with ⟨y, _⟩ | ⟨m', n, d, y, rfl, hR, g0, g1⟩
        · cases y
        · cases y
          exact hX _ _ _ (Fr_s0 (Fr_w h (fun x k => sPi_Q))) (gI_y ⟨rfl, rfl⟩) rfl
      | succ q ih =>
        intro w l1 M' hw h hb
        have hL' := h.1 hL
        have hW' := CWs_P h hW
        have eo : jI (w : Int) + 1 = jI ((w + 1 : Nat) : Int) := by rw [show (1 : Int32) = jI 1 from rfl, jI_add, c_s1]
        refine ⟨kd_0 hL', br_f (by rw [hW'.1, jI_le (by omega) (by omega) (by omega) (by omega)]; omega) ⟨kd_0 hL', w137_s hL' hW' (by omega) (by omega) (fun M2 n d h2 hR f0 f1 => ?_)⟩⟩
        have hF2 : Fr sPi M M2 := Fr_t h (Fr_w h2 (fun x k => sWo_P))
        have hL2 := hF2.1 hL
        have hb2 : bst M2 (miS W k) (agv tru (bC (miS W k)) w) l1 := bst_fr h2 (sB_f (by omega) (by omega)) (sB_f (by omega) (by omega)) hb
        have tk : agv tru (bC (miS W k)) (w + 1) = some w → w136_50 (fun z0 z1 z2 z3 => w136_18 (q + 1) z0 z1 z2 z3 P) 0 (jI (w : Int)) M2 P := fun hn => by
          refine ⟨kd_0 hL2, kd_0 hL2, 56, rf_0_13 hL2, kd_56 hL2, 57, rf_0_14 hL2, kd_57 hL2, kd_56 hL2, kd_57 hL2, kd_56 hL2, ?_⟩
          unfold w136_63
          rw [eo, gL_n (by omega), f0, f1]
          exact ih (w + 1) _ _ (by omega) (Fr_sL (Fr_sL hF2 (sPi_t (by omega))) (sPi_t (by omega))) (Or.inr ⟨w, n, d, hn, rfl, hR, by rw [gL_n (by omega), gL_y ⟨rfl, rfl⟩], gL_y ⟨rfl, rfl⟩⟩)
        rcases hb2 with ⟨y1, rfl⟩ | ⟨m, n', d', y1, rfl, hR', g0, g1⟩
        · exact br_t rfl (tk (agv_0 rfl y1))
        · have ml := agv_l y1
          refine br_f (by rw [show (-1 : Int32) = jI (-1) from rfl, jI_eq (by omega) (by omega) (by omega) (by omega)]; omega) ⟨kd_0 hL2, kd_0 hL2, 57, rf_0_14 hL2, kd_57 hL2, ?_⟩
          rw [rf_0_13 hL2]
          have b1 := pr_b hR.1 hR'.1
          have b2 := pr_b hR'.1 hR.1
          refine w63_s (kd_57 hL2) (kd_56 hL2) f0 f1 g0 g1 (by omega) (by omega) ?_
          rw [isR_c hR hR']
          have es := agv_1 (v := tru) (c := bC (miS W k)) rfl y1
          cases c : bC (miS W k) w m with
          | false =>
            rw [c, if_neg (by decide)] at es
            refine br_t rfl ?_
            unfold w136_63
            rw [eo]
            exact ih (w + 1) _ M2 (by omega) hF2 (Or.inr ⟨m, n', d', es, rfl, hR', g0, g1⟩)
          | true =>
            rw [c, if_pos rfl] at es
            exact br_f (by decide) (tk es)
    exact lp k 0 (-1) M (by omega) Fr_r (Or.inl ⟨rfl, rfl⟩)
  · rw [if_pos (by omega)] at hX
    exact ⟨kd_0 hL, kd_0 hL, hX _ _ _ (Fr_s0 Fr_r) (gI_y ⟨rfl, rfl⟩) rfl⟩
/-! the reference -/
theorem w269_44_s {M0 : MM} {k w : Nat} {W : Nat → WY} {l1 : Int32} {l2 l4 : Int64} {K : Nat → Int32 → Int64 → Int64 → Int32 → MM → Prop} {P : Int32 → MM → Prop} (hL0 : Lay M0) (hW0 : RWs M0 k W) (hw : w < k) (h2 : 2 ≤ k)
    (hb : rbt (miS W k) (agv tru (bC (miS W k)) w) l1 l2 l4)
    (hX : ∀ M' l1' l2' l4', Fr sPw M0 M' → rbt (miS W k) (agv tru (bC (miS W k)) (w + 1)) l1' l2' l4' → K 203 l1' l2' l4' (jI ((w + 1 : Nat) : Int)) M') :
    ∀ (q o : Nat) (l7 l9 : Int64) (M : MM), o + q = k → Fr sPw M0 M → ((mxO W w o = none ∧ l7 = -1) ∨ ∃ m n d, mxO W w o = some m ∧ isR (knS W w) m n d ∧ l7 = jL n ∧ l9 = jL d) → w269_44 K (q + 1) 203 l1 l2 l4 (jI (w : Int)) l7 l9 (jI (o : Int)) M P := by
  have k4 := hW0.2.1
  have ew : jI (w : Int) + 1 = jI ((w + 1 : Nat) : Int) := by rw [show (1 : Int32) = jI 1 from rfl, jI_add, c_s1]
  intro q
  induction q with
  | zero =>
    intro o l7 l9 M ho h hc
    have hL := h.1 hL0
    have hW := RWs_P h hW0
    have : o = k := by omega
    subst this
    obtain ⟨m, hm⟩ := mx_so (W := W) (w := w) h2
    rcases hc with ⟨z, _⟩ | ⟨m', n, d, z, hR0, rfl, rfl⟩
    · rw [hm] at z; cases z
    · have hR := mi_R z hR0
      refine ⟨kd_203 hL, br_t (by rw [hW.1]; exact Int32.le_refl _) ?_⟩
      have tk : agv tru (bC (miS W o)) (w + 1) = some w → w269_138 K 203 (jI (w : Int)) (jL n) (jL d) M P := fun hn => by
        unfold w269_138 w269_148
        rw [ew]
        exact hX M _ _ _ h (Or.inr ⟨w, n, d, hn, rfl, hR, rfl, rfl⟩)
      rcases hb with ⟨y1, rfl⟩ | ⟨m2, n', d', y1, rfl, hR', rfl, rfl⟩
      · exact br_t rfl (tk (agv_0 rfl y1))
      · have ml := agv_l y1
        refine br_f (by rw [show (-1 : Int32) = jI (-1) from rfl, jI_eq (by omega) (by omega) (by omega) (by omega)]; omega) ?_
        refine bst_r (v := tru) (T := fun M => w269_138 K 203 (jI (w : Int)) (jL n) (jL d) M P) (Sk := fun M => w269_148 K 203 (jI (m2 : Int)) (jL n') (jL d') (jI (w : Int)) M P) rfl y1 hR hR' tk (fun hn => ?_)
        show w269_148 _ _ _ _ _ _ _ _
        unfold w269_148
        rw [ew]
        refine hX M _ _ _ h ?_
        rw [hn]
        exact Or.inr ⟨m2, n', d', y1, rfl, hR', rfl, rfl⟩
  | succ q ih =>
    intro o l7 l9 M ho h hc
    have hL := h.1 hL0
    have hW := RWs_P h hW0
    have eo : jI (o : Int) + 1 = jI ((o + 1 : Nat) : Int) := by rw [show (1 : Int32) = jI 1 from rfl, jI_add, c_s1]
    refine ⟨kd_203 hL, br_f (by rw [hW.1, jI_le (by omega) (by omega) (by omega) (by omega)]; omega) ⟨fun z => ?_, fun z => ?_⟩⟩
    · rw [ne_eq, jI_eq (by omega) (by omega) (by omega) (by omega)] at z
      have hv : knV w o = true := decide_eq_true (by omega)
      refine ⟨kd_203 hL, w268_s hL hW hw (by omega) (fun M2 n' d' h2' hs f0 f1 => ?_)⟩
      have hF2 : Fr sPw M0 M2 := Fr_t h h2'
      have hL2 := hF2.1 hL0
      have hR' := isR_s (S := knS W w) (e := o) hs rfl
      have tk : mxO W w (o + 1) = some o → w269_99 K (fun z0 z1 z2 z3 z4 z5 z6 z7 z8 => w269_44 K (q + 1) z0 z1 z2 z3 z4 z5 z6 z7 z8 P) 203 l1 l2 l4 (jI (w : Int)) (jI (o : Int)) M2 P := fun hn => by
        refine ⟨kd_203 hL2, kd_203 hL2, ?_⟩
        unfold w269_111
        rw [eo, f0, f1]
        exact ih (o + 1) _ _ M2 (by omega) hF2 (Or.inr ⟨o, n', d', hn, hR', rfl, rfl⟩)
      rcases hc with ⟨y1, rfl⟩ | ⟨m, n, d, y1, hR, rfl, rfl⟩
      · exact br_t (by decide) (tk (agv_0 hv y1))
      · have g := hR.1
        unfold gE at g
        refine br_f (fun y => ?_) ⟨kd_203 hL2, kd_203 hL2, ?_⟩
        · have y' := (lc_lt _ _).mp y
          rw [show (0 : Int64) = jL 0 from rfl, jL_lt (by omega) (by omega) (by omega) (by omega)] at y'
          omega
        rw [f0, f1]
        have b1 := pr_b hR.1 hR'.1
        have b2 := pr_b hR'.1 hR.1
        refine w199_s (by omega) (by omega) (fun r r1 r2 r3 r4 => ?_)
        rw [show ((0 : Int32) < jI r) = (jI 0 < jI r) from rfl, jI_lt (by omega) (by omega) (by omega) (by omega), r4]
        have es := agv_1 (c := fun e m => bC (knS W w) m e) hv y1
        have cc := isR_c hR hR'
        refine ⟨fun c => tk ?_, fun c => ?_⟩
        · rw [decide_eq_true c] at cc
          show agv _ _ _ = _
          rw [es, if_pos cc.symm]
        · rw [decide_eq_false c] at cc
          unfold w269_111
          rw [eo]
          refine ih (o + 1) _ _ M2 (by omega) hF2 (Or.inr ⟨m, n, d, ?_, hR, rfl, rfl⟩)
          show agv _ _ _ = _
          rw [es, if_neg (by rw [← cc]; decide)]
    · rw [ne_eq, jI_eq (by omega) (by omega) (by omega) (by omega)] at z
      unfold w269_111
      rw [eo]
      refine ih (o + 1) l7 l9 M (by omega) h ?_
      have e : mxO W w (o + 1) = mxO W w o := agv_n (decide_eq_false (fun y => y (by omega)))
      rw [e]
      exact hc
theorem w269_q {M : MM} {k : Nat} {W : Nat → WY} {P : Int32 → MM → Prop} (hL : Lay M) (hW : RWs M k W) (hX : ∀ M' r st, Fr sRQ M M' → mI M' 203 9 = st → (r, st) = miA k W → P r M') : w269 203 M P := by
  have k4 := hW.2.1
  unfold miA at hX
  refine ⟨kd_203 hL, ?_⟩
  rw [hW.1, show (2 : Int32) = jI 2 from rfl, jI_le (by omega) (by omega) (by omega) (by omega)]
  refine ⟨fun z => ⟨k + 1, ?_⟩, fun z => ?_⟩
  · rw [if_neg (by omega)] at hX
    have lp : ∀ (q w : Nat) (l1 : Int32) (l2 l4 : Int64) (M' : MM), w + q = k → Fr sPw M M' → rbt (miS W k) (agv tru (bC (miS W k)) w) l1 l2 l4 → w269_24 (q + 1) 203 l1 l2 l4 (jI (w : Int)) M' P := by
      intro q
      induction q with
      | zero =>
        intro w l1 l2 l4 M' hw h hb
        have hL' := h.1 hL
        have hW' := RWs_P h hW
        have : w = k := by omega
        subst this
        obtain ⟨m, hm⟩ := agv_so (v := tru) (c := bC (miS W w)) (e := w) (x := 0) (by omega) rfl
        rw [hm] at hb hX
        refine ⟨kd_203 hL', br_t (by rw [hW'.1]; exact Int32.le_refl _) ⟨kd_203 hL', kd_203 hL', ?_⟩⟩
        rcases hb with ⟨y, _⟩ | ⟨m', n, d, y, rfl, hR, g0, g1⟩
        · cases y
        · cases y
          exact hX _ _ _ (Fr_s9 (Fr_w h (fun x k => sPw_Q))) (gI_y ⟨rfl, rfl⟩) rfl
      | succ q ih =>
        intro w l1 l2 l4 M' hw h hb
        have hL' := h.1 hL
        have hW' := RWs_P h hW
        refine ⟨kd_203 hL', br_f (by rw [hW'.1, jI_le (by omega) (by omega) (by omega) (by omega)]; omega) ⟨k + 1, ?_⟩⟩
        exact w269_44_s hL' hW' (by omega) (by omega) hb (fun M'' a1 a2 a4 h'' hb'' => ih (w + 1) a1 a2 a4 M'' (by omega) (Fr_t h h'') hb'') k 0 (-1) 1 M' (by omega) Fr_r (Or.inl ⟨rfl, rfl⟩)
    exact lp k 0 (-1) 0 1 M (by omega) Fr_r (Or.inl ⟨rfl, rfl⟩)
  · rw [if_pos (by omega)] at hX
    exact ⟨kd_203 hL, kd_203 hL, hX _ _ _ (Fr_s9 Fr_r) (gI_y ⟨rfl, rfl⟩) rfl⟩
