/-! ===== kin: both sides ===== -/
def knV (w o : Nat) : Bool := decide (o ≠ w)
noncomputable def knS (W : Nat → WY) (w o : Nat) : Int × Int := shF 0 (W w) (W o)
noncomputable def knA (k : Nat) (W : Nat → WY) (l1 : Int32) : Int32 × Int32 :=
  if isWb k l1 = true then (match agv (knV l1.toNatClampNeg) (bC (knS W l1.toNatClampNeg)) k with
    | none => (-1, 5)
    | some m => (jI (m : Int), 0)) else (-1, 2)
theorem CWs_P {M M' : MM} {k : Nat} {W : Nat → WY} (hF : Fr sPi M M') (h : CWs M k W) : CWs M' k W := CWs_fr hF (sPi_o (by omega)) (fun x q h1 h2 => sPi_o (by omega)) h
theorem w135_18_s {M0 : MM} {k w : Nat} {W : Nat → WY} {P : Int32 → MM → Prop} (hL0 : Lay M0) (hW0 : CWs M0 k W) (hw : w < k)
    (hX : ∀ M', Fr sPi M0 M' → (∀ m, agv (knV w) (bC (knS W w)) k = some m → P (jI (m : Int)) (sI M' 0 10 0)) ∧ (agv (knV w) (bC (knS W w)) k = none → P (-1) (sI M' 0 10 5))) :
    ∀ (q o : Nat) (l2 : Int32) (M : MM), o + q = k → Fr sPi M0 M → bst M (knS W w) (agv (knV w) (bC (knS W w)) o) l2 → w135_18 (q + 1) 0 (jI (w : Int)) l2 (jI (o : Int)) M P := by
  have k4 := hW0.2.1
  intro q
  induction q with
  | zero =>
    intro o l2 M ho h hb
    have hL := h.1 hL0
    have hW := CWs_P h hW0
    have : o = k := by omega
    subst this
    obtain ⟨x1, x2⟩ := hX M h
    refine ⟨kd_0 hL, br_t (by rw [hW.1]; exact Int32.le_refl _) ?_⟩
    rcases hb with ⟨z, rfl⟩ | ⟨m, n, d, z, rfl, hR, g0, g1⟩
    · exact br_f (fun y => y rfl) ⟨kd_0 hL, kd_0 hL, x2 z⟩
    · have ml := agv_l z
      refine br_t ?_ ⟨kd_0 hL, kd_0 hL, x1 m z⟩
      rw [show (-1 : Int32) = jI (-1) from rfl, ne_eq, jI_eq (by omega) (by omega) (by omega) (by omega)]; omega
  | succ q ih =>
    intro o l2 M ho h hb
    have hL := h.1 hL0
    have hW := CWs_P h hW0
    have eo : jI (o : Int) + 1 = jI ((o + 1 : Nat) : Int) := by rw [show (1 : Int32) = jI 1 from rfl, jI_add, c_s1]
    refine ⟨kd_0 hL, br_f (by rw [hW.1, jI_le (by omega) (by omega) (by omega) (by omega)]; omega) ⟨fun z => ?_, fun z => ?_⟩⟩
    · rw [jI_eq (by omega) (by omega) (by omega) (by omega)] at z
      unfold w135_87
      rw [eo]
      refine ih (o + 1) l2 M (by omega) h ?_
      rw [agv_n (decide_eq_false (fun y => y (by omega)))]
      exact hb
    · rw [jI_eq (by omega) (by omega) (by omega) (by omega)] at z
      have hv : knV w o = true := decide_eq_true (by omega)
      refine ⟨kd_0 hL, kd_0 hL, 19, rf_0_5 hL, i19 hL (by omega), kd_0 hL, 19, rf_0_5 hL, i19 hL (by omega), kd_0 hL, 58, rf_0_15 hL, kd_58 hL, ?_⟩
      rw [jI_cn (by omega), jI_cn (by omega), rf_19 hL (by omega), rf_19 hL (by omega), rf_0_12 hL]
      refine w106_s hL (isT_way (by omega)) (isT_way (by omega)) (hW.2.2 w hw).2 (hW.2.2 o (by omega)).2 (hW.2.2 w hw).1 (hW.2.2 o (by omega)).1 (Or.inl rfl) (fun M2 n d h2 hs f0 f1 => ?_)
      have hF2 : Fr sPi M0 M2 := Fr_t h (Fr_w h2 (fun x k => sFi_P))
      have hL2 := hF2.1 hL0
      have hb2 : bst M2 (knS W w) (agv (knV w) (bC (knS W w)) o) l2 := bst_fr h2 (sB_f (by omega) (by omega)) (sB_f (by omega) (by omega)) hb
      have hR := isR_s (S := knS W w) (e := o) hs rfl
      refine bst_c (T := fun M => w135_74 (fun z0 z1 z2 z3 z4 => w135_18 (q + 1) z0 z1 z2 z3 z4 P) 0 (jI (w : Int)) (jI (o : Int)) M P) (Sk := fun M => w135_87 (fun z0 z1 z2 z3 z4 => w135_18 (q + 1) z0 z1 z2 z3 z4 P) 0 (jI (w : Int)) l2 (jI (o : Int)) M P) hL2 (by omega) hv hb2 hR f0 f1 (fun hn => cpy_c hL2 f0 f1 (fun M3 h3 g0 g1 => ?_)) (fun hn => ?_)
      · show w135_87 _ _ _ _ _ _ _
        unfold w135_87
        rw [eo]
        exact ih (o + 1) _ M3 (by omega) (Fr_t hF2 (Fr_w h3 (fun x k => sBe_P))) (Or.inr ⟨o, n, d, hn, rfl, hR, g0, g1⟩)
      · show w135_87 _ _ _ _ _ _ _
        unfold w135_87
        rw [eo]
        refine ih (o + 1) _ M2 (by omega) hF2 ?_
        rw [hn]
        exact hb2
theorem w135_q {M : MM} {k : Nat} {W : Nat → WY} {l1 : Int32} {P : Int32 → MM → Prop} (hL : Lay M) (hW : CWs M k W) (hX : ∀ M' r st, Fr sCQ M M' → mI M' 0 10 = st → (r, st) = knA k W l1 → P r M') : w135 0 l1 M P := by
  have hC := CWs_CW hL hW
  have k4 := hW.2.1
  unfold knA at hX
  refine ⟨kd_0 hL, w40_s hC ?_⟩
  cases c1 : isWb k l1 with
  | false =>
    rw [if_neg (by rw [c1]; decide)] at hX
    exact br_f (fun z => z rfl) ⟨kd_0 hL, kd_0 hL, hX _ _ _ (Fr_s0 Fr_r) (gI_y ⟨rfl, rfl⟩) rfl⟩
  | true =>
    rw [if_pos c1] at hX
    obtain ⟨w, hw, rfl⟩ := isWb_j k4 c1
    rw [jI_cn (by omega)] at hX
    refine br_t (by decide) ⟨k + 1, w135_18_s hL hW hw (fun M' h' => ⟨fun m hm => ?_, fun hm => ?_⟩) k 0 (-1) M (by omega) Fr_r (Or.inl ⟨rfl, rfl⟩)⟩
    · rw [hm] at hX
      exact hX _ _ _ (Fr_s0 (Fr_w h' (fun x k => sPi_Q))) (gI_y ⟨rfl, rfl⟩) rfl
    · rw [hm] at hX
      exact hX _ _ _ (Fr_s0 (Fr_w h' (fun x k => sPi_Q))) (gI_y ⟨rfl, rfl⟩) rfl
/-! the reference -/
def rbt (S : Nat → Int × Int) (o : Option Nat) (l2 : Int32) (l3 l5 : Int64) : Prop := (o = none ∧ l2 = -1) ∨ ∃ m n d, o = some m ∧ l2 = jI (m : Int) ∧ isR S m n d ∧ l3 = jL n ∧ l5 = jL d
theorem w268_s {M : MM} {k w o : Nat} {W : Nat → WY} {P : MM → Prop} (hL : Lay M) (hW : RWs M k W) (hw : w < k) (ho : o < k) (hX : ∀ M' n d, Fr sPw M M' → isSh 0 (W w) (W o) n d → mL M' 203 52 = jL n → mL M' 203 53 = jL d → P M') : w268 203 (jI (w : Int)) (jI (o : Int)) M P := by
  refine ⟨kd_203 hL, w211_s hL hW hw ho (fun M1 h1 hR => ?_)⟩
  have hL1 := h1.1 hL
  exact ⟨kd_203 hL1, w245_s hL1 hR (hW.2.2 w hw).1 (hW.2.2 o ho).1 (Or.inl rfl) (fun M2 n d h2 hs f0 f1 _ => hX M2 n d (Fr_t (Fr_w h1 (fun x k z => sB_w (by omega) (by omega) x k z)) (Fr_w h2 (fun x k z => sB_w (by omega) (by omega) x k z))) hs f0 f1)⟩
theorem RWs_P {M M' : MM} {k : Nat} {W : Nat → WY} (hF : Fr sPw M M') (h : RWs M k W) : RWs M' k W := RWs_fr hF (sB_f (by omega) (by omega)) (fun q => sB_f (by omega) (by omega)) h
theorem w267_24_s {M0 : MM} {k w : Nat} {W : Nat → WY} {P : Int32 → MM → Prop} (hL0 : Lay M0) (hW0 : RWs M0 k W) (hw : w < k)
    (hX : ∀ M', Fr sPw M0 M' → (∀ m, agv (knV w) (bC (knS W w)) k = some m → P (jI (m : Int)) (sI M' 203 9 0)) ∧ (agv (knV w) (bC (knS W w)) k = none → P (-1) (sI M' 203 9 5))) :
    ∀ (q o : Nat) (l2 : Int32) (l3 l5 : Int64) (M : MM), o + q = k → Fr sPw M0 M → rbt (knS W w) (agv (knV w) (bC (knS W w)) o) l2 l3 l5 → w267_24 (q + 1) 203 (jI (w : Int)) l2 l3 l5 (jI (o : Int)) M P := by
  have k4 := hW0.2.1
  intro q
  induction q with
  | zero =>
    intro o l2 l3 l5 M ho h hb
    have hL := h.1 hL0
    have hW := RWs_P h hW0
    have : o = k := by omega
    subst this
    obtain ⟨x1, x2⟩ := hX M h
    refine ⟨kd_203 hL, br_t (by rw [hW.1]; exact Int32.le_refl _) ?_⟩
    rcases hb with ⟨z, rfl⟩ | ⟨m, n, d, z, rfl, hR, g0, g1⟩
    · exact br_f (fun y => y rfl) ⟨kd_203 hL, kd_203 hL, x2 z⟩
    · have ml := agv_l z
      refine br_t ?_ ⟨kd_203 hL, kd_203 hL, x1 m z⟩
      rw [show (-1 : Int32) = jI (-1) from rfl, ne_eq, jI_eq (by omega) (by omega) (by omega) (by omega)]; omega
  | succ q ih =>
    intro o l2 l3 l5 M ho h hb
    have hL := h.1 hL0
    have hW := RWs_P h hW0
    have eo : jI (o : Int) + 1 = jI ((o + 1 : Nat) : Int) := by rw [show (1 : Int32) = jI 1 from rfl, jI_add, c_s1]
    refine ⟨kd_203 hL, br_f (by rw [hW.1, jI_le (by omega) (by omega) (by omega) (by omega)]; omega) ⟨fun z => ?_, fun z => ?_⟩⟩
    · rw [ne_eq, jI_eq (by omega) (by omega) (by omega) (by omega)] at z
      have hv : knV w o = true := decide_eq_true (by omega)
      refine ⟨kd_203 hL, w268_s hL hW hw (by omega) (fun M2 n d h2 hs f0 f1 => ?_)⟩
      have hF2 : Fr sPw M0 M2 := Fr_t h h2
      have hL2 := hF2.1 hL0
      have hR := isR_s (S := knS W w) (e := o) hs rfl
      have tk : agv (knV w) (bC (knS W w)) (o + 1) = some o → w267_74 (fun z0 z1 z2 z3 z4 z5 z6 => w267_24 (q + 1) z0 z1 z2 z3 z4 z5 z6 P) 203 (jI (w : Int)) (jI (o : Int)) M2 P := fun hn => by
        refine ⟨kd_203 hL2, kd_203 hL2, ?_⟩
        unfold w267_88
        rw [eo, f0, f1]
        exact ih (o + 1) _ _ _ M2 (by omega) hF2 (Or.inr ⟨o, n, d, hn, rfl, hR, rfl, rfl⟩)
      rcases hb with ⟨z1, rfl⟩ | ⟨m, n', d', z1, rfl, hR', rfl, rfl⟩
      · exact br_t rfl (tk (agv_0 hv z1))
      · refine br_f ?_ ⟨kd_203 hL2, kd_203 hL2, ?_⟩
        · have ml := agv_l z1
          rw [show (-1 : Int32) = jI (-1) from rfl, jI_eq (by omega) (by omega) (by omega) (by omega)]; omega
        rw [f0, f1]
        refine bst_r (T := fun M => w267_74 (fun z0 z1 z2 z3 z4 z5 z6 => w267_24 (q + 1) z0 z1 z2 z3 z4 z5 z6 P) 203 (jI (w : Int)) (jI (o : Int)) M P) (Sk := fun M => w267_88 (fun z0 z1 z2 z3 z4 z5 z6 => w267_24 (q + 1) z0 z1 z2 z3 z4 z5 z6 P) 203 (jI (w : Int)) (jI (m : Int)) (jL n') (jL d') (jI (o : Int)) M P) hv z1 hR hR' tk (fun hn => ?_)
        show w267_88 _ _ _ _ _ _ _ _ _
        unfold w267_88
        rw [eo]
        refine ih (o + 1) _ _ _ M2 (by omega) hF2 ?_
        rw [hn]
        exact Or.inr ⟨m, n', d', z1, rfl, hR', rfl, rfl⟩
    · rw [ne_eq, jI_eq (by omega) (by omega) (by omega) (by omega)] at z
      unfold w267_88
      rw [eo]
      refine ih (o + 1) l2 l3 l5 M (by omega) h ?_
      rw [agv_n (decide_eq_false (fun y => y (by omega)))]
      exact hb
theorem w267_q {M : MM} {k : Nat} {W : Nat → WY} {l1 : Int32} {P : Int32 → MM → Prop} (hL : Lay M) (hW : RWs M k W) (hX : ∀ M' r st, Fr sRQ M M' → mI M' 203 9 = st → (r, st) = knA k W l1 → P r M') : w267 203 l1 M P := by
  have hC := RWs_RW hL hW
  have k4 := hW.2.1
  unfold knA at hX
  refine ⟨kd_203 hL, w182_s hC ?_⟩
  cases c1 : isWb k l1 with
  | false =>
    rw [if_neg (by rw [c1]; decide)] at hX
    exact br_f (fun z => z rfl) ⟨kd_203 hL, kd_203 hL, hX _ _ _ (Fr_s9 Fr_r) (gI_y ⟨rfl, rfl⟩) rfl⟩
  | true =>
    rw [if_pos c1] at hX
    obtain ⟨w, hw, rfl⟩ := isWb_j k4 c1
    rw [jI_cn (by omega)] at hX
    refine br_t (by decide) ⟨k + 1, w267_24_s hL hW hw (fun M' h' => ⟨fun m hm => ?_, fun hm => ?_⟩) k 0 (-1) 0 1 M (by omega) Fr_r (Or.inl ⟨rfl, rfl⟩)⟩
    · rw [hm] at hX
      exact hX _ _ _ (Fr_s9 (Fr_w h' (fun x k => sPw_Q))) (gI_y ⟨rfl, rfl⟩) rfl
    · rw [hm] at hX
      exact hX _ _ _ (Fr_s9 (Fr_w h' (fun x k => sPw_Q))) (gI_y ⟨rfl, rfl⟩) rfl
