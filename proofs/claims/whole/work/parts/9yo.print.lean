/-! ===== print and out on both sides ===== -/
theorem lt_gN {R : List Nat} (h : gNm R) : (∀ c, c ∈ R → c + 96 < 256) ∧ (∀ c, c ∈ R → c + 0 < 32) := ⟨fun c hc => by have := h.2.2 c hc; omega, fun c hc => by have := h.2.2 c hc; omega⟩
theorem nv_c {R : List Nat} (h : gNm R) : nv 256 96 R < 9223372036854775808 := by
  have q : nv 128 0 [] = 0 := rfl
  have key : ∀ R : List Nat, (∀ c, c ∈ R → c + 96 < 128) → 2 * nv 256 96 R < 256 ^ R.length := by
    intro R
    induction R with
    | nil => intro _; decide
    | cons c r ih =>
      intro hR
      have h1 := hR c (List.mem_cons_self ..)
      have h2 := ih (fun c hc => hR c (List.mem_cons_of_mem _ hc))
      show 2 * ((c + 96) + 256 * nv 256 96 r) < 256 ^ (r.length + 1)
      rw [Nat.pow_succ]
      omega
  have k1 := key R (fun c hc => by have := h.2.2 c hc; omega)
  have k2 : 256 ^ R.length ≤ 256 ^ 8 := Nat.pow_le_pow_right (by omega) h.2.1
  omega
theorem nv_r {R : List Nat} (h : gNm R) : nv 32 0 R < 9223372036854775808 := by
  have k1 := nv_b R (lt_gN h).2
  have k2 : 32 ^ R.length ≤ 32 ^ 8 := Nat.pow_le_pow_right (by omega) h.2.1
  omega
theorem w146_s {M : MM} {o : OT} {R : List Nat} {P : MM → Prop} (hL : Lay M) (hO : COu M o) (o2 : o.1 + 8 ≤ 256) (hR : gNm R) (hX : ∀ M', Fr sCO M M' → COu M' (pwr o R) → P M') : w146 0 (jL (nv 256 96 R : Int)) M P := by
  have r8 := hR.2.1
  have lp : ∀ (m : Nat) (M' : MM), m ≤ 8 → Fr sCO M M' → COu M' (pwr o (R.drop m)) → w146_3 (m + 1) 0 (jL (nv 256 96 R : Int)) (jI (8 * (m : Int) - 8)) M' P := by
    intro m
    induction m with
    | zero =>
      intro M' _ hF hI
      exact br_t (by rw [show (0 : Int32) = jI 0 from rfl, jI_lt (by omega) (by omega) (by omega) (by omega)]; omega) (hX M' hF hI)
    | succ m ih =>
      intro M' hm hF hI
      have hL' := hF.1 hL
      refine br_f (by rw [show (0 : Int32) = jI 0 from rfl, jI_lt (by omega) (by omega) (by omega) (by omega)]; omega) ?_
      have go : ∀ M2, Fr sCO M M2 → COu M2 (pwr o (R.drop m)) → w146_28 (fun z0 z1 z2 z3 => w146_3 (m + 1) z0 z1 z2 z3 P) 0 (jL (nv 256 96 R : Int)) (jI (8 * ((m + 1 : Nat) : Int) - 8)) M2 P := fun M2 f2 c2 => by
        unfold w146_28
        rw [show (-8 : Int32) = jI (-8) from rfl, jI_add, show 8 * ((m + 1 : Nat) : Int) - 8 + -8 = 8 * (m : Int) - 8 by omega]
        exact ih M2 (by omega) f2 c2
      have ed := dig_c (j := m) (nv_c hR) (by omega)
      rw [nv_d (by omega) m R (lt_gN hR).1] at ed
      rw [show 8 * ((m + 1 : Nat) : Int) - 8 = 8 * (m : Int) by omega] at go ⊢
      rw [ed]
      by_cases c : m < R.length
      · rw [dif_pos c]
        have b := hR.2.2 R[m] (List.getElem_mem c)
        rw [List.drop_eq_getElem_cons c] at go
        have ol : (pwr o (R.drop (m + 1))).1 < 256 := by rw [pwr_l, List.length_drop]; omega
        refine br_f (by rw [show (0 : Int32) = jI 0 from rfl, jI_eq (by omega) (by omega) (by omega) (by omega)]; omega) ⟨kd_0 hL', w147_s hL' hI ol (by omega) (fun M2 f2 c2 => go M2 (Fr_t hF f2) c2)⟩
      · rw [dif_neg c]
        rw [List.drop_eq_nil_of_le (by omega)] at go hI
        exact br_t rfl (go M' hF hI)
  refine ⟨9, ?_⟩
  have := lp 8 M (Nat.le_refl _) Fr_r (by rw [List.drop_eq_nil_of_le (by omega)]; exact hO)
  exact this
theorem w278_s {M : MM} {o : OT} {R : List Nat} {P : MM → Prop} (hL : Lay M) (hO : ROu M o) (o2 : o.1 + 8 ≤ 256) (hR : gNm R) (hX : ∀ M', Fr sRO M M' → ROu M' (pwr o R) → P M') : w278 203 (jL (nv 32 0 R : Int)) M P := by
  have r8 := hR.2.1
  have lp : ∀ (m : Nat) (M' : MM), m ≤ 9 → Fr sRO M M' → ROu M' (pwr o (R.drop m)) → w278_3 (m + 1) 203 (jL (nv 32 0 R : Int)) (jI (5 * (m : Int) - 5)) M' P := by
    intro m
    induction m with
    | zero =>
      intro M' _ hF hI
      exact br_t (by rw [show (0 : Int32) = jI 0 from rfl, jI_lt (by omega) (by omega) (by omega) (by omega)]; omega) (hX M' hF hI)
    | succ m ih =>
      intro M' hm hF hI
      have hL' := hF.1 hL
      refine br_f (by rw [show (0 : Int32) = jI 0 from rfl, jI_lt (by omega) (by omega) (by omega) (by omega)]; omega) ?_
      have go : ∀ M2, Fr sRO M M2 → ROu M2 (pwr o (R.drop m)) → w278_34 (fun z0 z1 z2 z3 => w278_3 (m + 1) z0 z1 z2 z3 P) 203 (jL (nv 32 0 R : Int)) (jI (5 * ((m + 1 : Nat) : Int) - 5)) M2 P := fun M2 f2 c2 => by
        unfold w278_34
        rw [show (-5 : Int32) = jI (-5) from rfl, jI_add, show 5 * ((m + 1 : Nat) : Int) - 5 + -5 = 5 * (m : Int) - 5 by omega]
        exact ih M2 (by omega) f2 c2
      have ed := dig_r (j := m) (nv_r hR) (by omega)
      rw [nv_d (by omega) m R (lt_gN hR).2] at ed
      rw [show 5 * ((m + 1 : Nat) : Int) - 5 = 5 * (m : Int) by omega] at go ⊢
      rw [ed, jL_i, show (0 : Int32) = jI 0 from rfl, lc_eq]
      by_cases c : m < R.length
      · rw [dif_pos c]
        have b := hR.2.2 R[m] (List.getElem_mem c)
        rw [List.drop_eq_getElem_cons c] at go
        have ol : (pwr o (R.drop (m + 1))).1 < 256 := by rw [pwr_l, List.length_drop]; omega
        refine br_f (by rw [show (0 : Int64) = jL 0 from rfl, jL_eq (by omega) (by omega) (by omega) (by omega)]; omega) ⟨kd_203 hL', ?_⟩
        rw [show (96 : Int32) = jI 96 from rfl, jI_add, show ((R[m] + 0 : Nat) : Int) + 96 = ((R[m] + 96 : Nat) : Int) by omega]
        exact w279_s hL' hI ol (by omega) (fun M2 f2 c2 => go M2 (Fr_t hF f2) c2)
      · rw [dif_neg c]
        rw [List.drop_eq_nil_of_le (by omega)] at go hI
        exact br_t rfl (go M' hF hI)
  refine ⟨10, ?_⟩
  have := lp 9 M (Nat.le_refl _) Fr_r (by rw [List.drop_eq_nil_of_le (by omega)]; exact hO)
  exact this
def ptO (o : OT) (a : WY) : Nat → OT
  | 0 => o
  | i + 1 => wrN (wrN (ptO o a i) (wx a i).toNat) (wy a i).toNat
theorem ptO_l {o : OT} {a : WY} (i : Nat) : (ptO o a i).1 ≤ o.1 + 6 * i := by
  induction i with
  | zero => exact Nat.le_refl _
  | succ i ih =>
    have h1 := wrN_l (o := ptO o a i) (v := (wx a i).toNat)
    have h2 := wrN_l (o := wrN (ptO o a i) (wx a i).toNat) (v := (wy a i).toNat)
    show (wrN (wrN (ptO o a i) (wx a i).toNat) (wy a i).toNat).1 ≤ _
    omega
def hdO (o : OT) (R : List Nat) : OT := pwr (wr (pwr o [25, 1, 23]) 32) R
def prO (Nm : Nat → List Nat) (W : Nat → WY) : Nat → OT
  | 0 => (0, fun _ => 0)
  | w + 1 => wr (ptO (hdO (prO Nm W w) (Nm w)) (W w) (wn (W w))) 59
theorem hdO_l {o : OT} {R : List Nat} : (hdO o R).1 = o.1 + 4 + R.length := by
  unfold hdO
  rw [pwr_l]
  show (pwr o [25, 1, 23]).1 + 1 + R.length = _
  rw [pwr_l]
  show o.1 + 3 + 1 + R.length = _
  omega
theorem prO_l {Nm : Nat → List Nat} {W : Nat → WY} {k : Nat} (hg : ∀ w, w < k → gW (W w)) (hn : ∀ w, w < k → gNm (Nm w)) : ∀ w, w ≤ k → (prO Nm W w).1 ≤ 61 * w := by
  intro w
  induction w with
  | zero => intro _; exact Nat.le_refl _
  | succ w ih =>
    intro h
    have i1 := ih (by omega)
    have g1 := (hg w (by omega)).2.1
    have n1 := (hn w (by omega)).2.1
    have p1 := ptO_l (o := hdO (prO Nm W w) (Nm w)) (a := W w) (wn (W w))
    have q1 := hdO_l (o := prO Nm W w) (R := Nm w)
    show (ptO (hdO (prO Nm W w) (Nm w)) (W w) (wn (W w))).1 + 1 ≤ _
    omega
theorem gN_way : gNm [25, 1, 23] := ⟨by decide, by decide, by decide⟩
theorem COu_s {M : MM} {o : OT} {v : Int32} (h : COu M o) : COu (sI M 0 10 v) o := ⟨by rw [gI_n (by omega)]; exact h.1, fun i hi => by rw [gI_n (by omega)]; exact h.2 i hi⟩
theorem ROu_s {M : MM} {o : OT} {v : Int32} (h : ROu M o) : ROu (sI M 203 9 v) o := ⟨by rw [gI_n (by omega)]; exact h.1, fun i hi => by rw [gI_n (by omega)]; exact h.2 i hi⟩
def sCP : Nat → Nat → Bool := sB 0 9 10 53 53
def sRP : Nat → Nat → Bool := fun x k => sB 203 9 9 235 235 x k || sB 203 69 70 235 235 x k
theorem sCO_P {x k : Nat} (z : sCP x k = false) : sCO x k = false := by
  refine sB_f (fun y => ?_) (fun y => ?_)
  · rw [y.1, show sCP 0 k = true from sB_t1 (by omega)] at z; cases z
  · rw [show sCP x k = true from sB_t2 (by omega)] at z; cases z
theorem w145_q {M : MM} {k : Nat} {W : Nat → WY} {Nm : Nat → List Nat} {P : Int32 → MM → Prop} (hL : Lay M) (hW : CWs M k W) (hN : ∀ w, w < k → gNm (Nm w) ∧ mL M (191 + 3 * w) 0 = jL (nv 256 96 (Nm w) : Int)) (hX : ∀ M', Fr sCP M M' → mI M' 0 10 = 0 → COu M' (prO Nm W k) → P (jI ((prO Nm W k).1 : Int)) M') : w145 0 M P := by
  have k4 := hW.2.1
  have hl := prO_l (Nm := Nm) (fun w hw => (hW.2.2 w hw).1) (fun w hw => (hN w hw).1)
  have lp : ∀ (n w : Nat) (M' : MM), w + n = k → Fr sCO M M' → COu M' (prO Nm W w) → w145_7 (n + 1) 0 (jI (w : Int)) M' P := by
    intro n
    induction n with
    | zero =>
      intro w M' e hF hI
      obtain rfl : w = k := by omega
      have hL' := hF.1 hL
      refine ⟨kd_0 hL', br_t (by rw [(Fr_I hF (sB_f (by omega) (by omega))).trans hW.1, jI_le (by omega) (by omega) (by omega) (by omega)]; omega) ⟨kd_0 hL', kd_0 hL', kd_0 hL', ?_⟩⟩
      rw [hI.1]
      exact hX _ (Fr_sI (Fr_w hF (fun x k => sCO_P)) (sB_t1 (by omega))) (gI_y ⟨rfl, rfl⟩) (COu_s hI)
    | succ n ih =>
      intro w M' e hF hI
      have hw : w < k := by omega
      have hL' := hF.1 hL
      have tT : isT (191 + 3 * w) = true := isT_way (by omega)
      have l1 := hl w (by omega)
      have ga := (hW.2.2 w hw).1
      have a2 := ga.2.1
      have n8 := (hN w hw).1.2.1
      refine ⟨kd_0 hL', br_f (by rw [(Fr_I hF (sB_f (by omega) (by omega))).trans hW.1, jI_le (by omega) (by omega) (by omega) (by omega)]; omega) ⟨kd_0 hL', 19, rf_0_5 hL', i19 hL' (by omega), kd_0 hL', ?_⟩⟩
      refine w146_s (R := [25, 1, 23]) hL' hI (by omega) gN_way (fun M1 f1 c1 => ⟨kd_0 (f1.1 hL'), w147_s (c := 32) (f1.1 hL') c1 (by rw [pwr_l]; show _ + 3 < 256; omega) (by omega) (fun M2 f2 c2 => ?_)⟩)
      have hL2 := f2.1 (f1.1 hL')
      have hF2 := Fr_t (Fr_t hF f1) f2
      refine ⟨191 + 3 * w, by rw [jI_cn (by omega)]; exact rf_19 hL' (by omega), kd_T hL2 tT, kd_0 hL2, ?_⟩
      rw [(Fr_L hF2 (sB_f (by omega) (by omega))).trans (hN w hw).2]
      have q2 : (wr (pwr (prO Nm W w) [25, 1, 23]) 32).1 = (prO Nm W w).1 + 3 + 1 := by show (pwr (prO Nm W w) [25, 1, 23]).1 + 1 = _; rw [pwr_l]; rfl
      refine w146_s hL2 c2 (by omega) (hN w hw).1 (fun M3 f3 c3 => ⟨wn (W w) + 1, ?_⟩)
      have q3 := hdO_l (o := prO Nm W w) (R := Nm w)
      have lp2 : ∀ (m i : Nat) (M' : MM), i + m = wn (W w) → Fr sCO M M' → COu M' (ptO (hdO (prO Nm W w) (Nm w)) (W w) i) → w145_45 (fun z0 z1 z2 => w145_7 (n + 1) z0 z1 z2 P) (m + 1) 0 (jI (w : Int)) (some (191 + 3 * w)) (jI (i : Int)) M' P := by
        intro m
        induction m with
        | zero =>
          intro i M4 e4 hF4 hI4
          have hL4 := hF4.1 hL
          have hT4 : TrC M4 (191 + 3 * w) (W w) := TrC_fr2 hF4 (fun x k y1 y2 => sB_f (by omega) (by omega)) (hW.2.2 w hw).2
          have p4 := ptO_l (o := hdO (prO Nm W w) (Nm w)) (a := W w) i
          refine ⟨191 + 3 * w, rfl, kd_T hL4 tT, br_t (by rw [hT4.1, jI_le (by omega) (by omega) (by omega) (by omega)]; omega) ⟨kd_0 hL4, w147_s (c := 59) hL4 hI4 (by omega) (by omega) (fun M5 f5 c5 => ?_)⟩⟩
          rw [show (1 : Int32) = jI 1 from rfl, jI_add, c_s1]
          refine ih (w + 1) M5 (by omega) (Fr_t hF4 f5) ?_
          rw [show i = wn (W w) by omega] at c5
          exact c5
        | succ m ih2 =>
          intro i M4 e4 hF4 hI4
          have hL4 := hF4.1 hL
          have hT4 : TrC M4 (191 + 3 * w) (W w) := TrC_fr2 hF4 (fun x k y1 y2 => sB_f (by omega) (by omega)) (hW.2.2 w hw).2
          have p4 := ptO_l (o := hdO (prO Nm W w) (Nm w)) (a := W w) i
          have gi := ga.2.2.1 i (by omega)
          have x1 : jI (wx (W w) i) = jI (((wx (W w) i).toNat : Nat) : Int) := congrArg jI (by omega)
          have y1 : jI (wy (W w) i) = jI (((wy (W w) i).toNat : Nat) : Int) := congrArg jI (by omega)
          refine ⟨191 + 3 * w, rfl, kd_T hL4 tT, br_f (by rw [hT4.1, jI_le (by omega) (by omega) (by omega) (by omega)]; omega) ⟨kd_T hL4 tT, 191 + 3 * w + 1, rfx_T hL4 tT, inxj hL4 tT (by omega), kd_0 hL4, ?_⟩⟩
          rw [jI_cn (by omega), (hT4.2 i (by omega)).1, x1]
          refine w148_s hL4 hI4 (by omega) (by omega) (fun M5 f5 c5 => ?_)
          have hL5 := f5.1 hL4
          have hT5 : TrC M5 (191 + 3 * w) (W w) := TrC_fr2 f5 (fun x k y1 y2 => sB_f (by omega) (by omega)) hT4
          have p5 := wrN_l (o := ptO (hdO (prO Nm W w) (Nm w)) (W w) i) (v := (wx (W w) i).toNat)
          refine ⟨kd_T hL5 tT, 191 + 3 * w + 2, rfy_T hL5 tT, inyj hL5 tT (by omega), kd_0 hL5, ?_⟩
          rw [(hT5.2 i (by omega)).2, y1]
          refine w148_s hL5 c5 (by omega) (by omega) (fun M6 f6 c6 => ?_)
          rw [show (1 : Int32) = jI 1 from rfl, jI_add, c_s1]
          exact ih2 (i + 1) M6 (by omega) (Fr_t (Fr_t hF4 f5) f6) c6
      exact lp2 (wn (W w)) 0 M3 (by omega) (Fr_t hF2 f3) c3
  exact ⟨kd_0 hL, k + 1, lp k 0 _ (by omega) (Fr_sI Fr_r (sB_t1 (by omega))) ⟨gI_y ⟨rfl, rfl⟩, fun i hi => absurd (show i < 0 from hi) (by omega)⟩⟩
