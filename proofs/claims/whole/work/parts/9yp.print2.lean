/-! ===== print in the reference; out on both sides ===== -/
theorem sRP_i {x k : Nat} (z : sRP x k = false) : ¬ (x = 203 ∧ (k = 9 ∨ (69 ≤ k ∧ k ≤ 70))) ∧ x ≠ 235 := by
  unfold sRP at z
  have h' := Bool.or_eq_false_iff.mp z
  refine ⟨fun y => ?_, fun y => ?_⟩
  · obtain ⟨rfl, c | c⟩ := y
    · exact absurd h'.1 (by rw [sB_t1 (by omega)]; decide)
    · exact absurd h'.2 (by rw [sB_t1 (by omega)]; decide)
  · exact absurd h'.1 (by rw [sB_t2 (by omega)]; decide)
theorem sRP_f {x k : Nat} (h : ¬ (x = 203 ∧ (k = 9 ∨ (69 ≤ k ∧ k ≤ 70)))) (h1 : x ≠ 235) : sRP x k = false := by
  unfold sRP
  rw [sB_f (by omega) (by omega), sB_f (by omega) (by omega)]; rfl
theorem sRP_9 : sRP 203 9 = true := rfl
def sRO2 : Nat → Nat → Bool := sB 203 69 70 235 235
theorem sRO_2 {x k : Nat} (z : sRO2 x k = false) : sRO x k = false := by
  refine sB_f (fun y => ?_) (fun y => ?_)
  · rw [y.1, show sRO2 203 k = true from sB_t1 (by omega)] at z; cases z
  · rw [show sRO2 x k = true from sB_t2 (by omega)] at z; cases z
theorem w277_q {M : MM} {k : Nat} {W : Nat → WY} {Nm : Nat → List Nat} {P : Int32 → MM → Prop} (hL : Lay M) (hW : RWs M k W) (hN : ∀ w, w < k → gNm (Nm w) ∧ mL M 207 w = jL (nv 32 0 (Nm w) : Int)) (hX : ∀ M', Fr sRP M M' → mI M' 203 9 = 0 → mI M' 203 70 = 1 → ROu M' (prO Nm W k) → P (jI ((prO Nm W k).1 : Int)) M') : w277 203 M P := by
  have k4 := hW.2.1
  have hl := prO_l (Nm := Nm) (fun w hw => (hW.2.2 w hw).1) (fun w hw => (hN w hw).1)
  have up : ∀ {M1 M2 : MM}, Fr sRO M1 M2 → Fr sRO2 M1 M2 := fun h => Fr_w h (fun x k => sRO_2)
  have kp : ∀ {M1 M2 : MM}, Fr sRO M1 M2 → mI M1 203 70 = 1 → mI M2 203 70 = 1 := fun h e => (Fr_I h (sB_f (by omega) (by omega))).trans e
  have lp : ∀ (n w : Nat) (M' : MM), w + n = k → Fr sRO2 M M' → mI M' 203 70 = 1 → ROu M' (prO Nm W w) → w277_12 (n + 1) 203 (jI (w : Int)) M' P := by
    intro n
    induction n with
    | zero =>
      intro w M' e hF h7 hI
      obtain rfl : w = k := by omega
      have hL' := hF.1 hL
      refine ⟨kd_203 hL', br_t (by rw [(Fr_I hF (sB_f (by omega) (by omega))).trans hW.1, jI_le (by omega) (by omega) (by omega) (by omega)]; omega) ⟨kd_203 hL', kd_203 hL', kd_203 hL', ?_⟩⟩
      rw [hI.1]
      exact hX _ (Fr_sI (Fr_w hF (fun x k z => by have := sRP_i z; exact sB_f (by omega) (by omega))) sRP_9) (gI_y ⟨rfl, rfl⟩) (by rw [gI_n (by omega)]; exact h7) (ROu_s hI)
    | succ n ih =>
      intro w M' e hF h7 hI
      have hw : w < k := by omega
      have hL' := hF.1 hL
      have l1 := hl w (by omega)
      have ga := (hW.2.2 w hw).1
      have a2 := ga.2.1
      have n8 := (hN w hw).1.2.1
      refine ⟨kd_203 hL', br_f (by rw [(Fr_I hF (sB_f (by omega) (by omega))).trans hW.1, jI_le (by omega) (by omega) (by omega) (by omega)]; omega) ⟨kd_203 hL', ?_⟩⟩
      refine w278_s (R := [25, 1, 23]) hL' hI (by omega) gN_way (fun M1 f1 c1 => ⟨kd_203 (f1.1 hL'), w279_s (c := 32) (f1.1 hL') c1 (by rw [pwr_l]; show _ + 3 < 256; omega) (by omega) (fun M2 f2 c2 => ?_)⟩)
      have hL2 := f2.1 (f1.1 hL')
      have hF2 : Fr sRO2 M M2 := Fr_t (Fr_t hF (up f1)) (up f2)
      refine ⟨kd_203 hL2, 207, rf_203_3 hL2, by rw [← nI_j]; exact in_207 hL2 (by omega), kd_203 hL2, ?_⟩
      rw [jI_cn (by omega), (Fr_L hF2 (sB_f (by omega) (by omega))).trans (hN w hw).2]
      have q2 : (wr (pwr (prO Nm W w) [25, 1, 23]) 32).1 = (prO Nm W w).1 + 3 + 1 := by show (pwr (prO Nm W w) [25, 1, 23]).1 + 1 = _; rw [pwr_l]; rfl
      refine w278_s hL2 c2 (by omega) (hN w hw).1 (fun M3 f3 c3 => ⟨wn (W w) + 1, ?_⟩)
      have q3 := hdO_l (o := prO Nm W w) (R := Nm w)
      have lp2 : ∀ (m i : Nat) (M' : MM), i + m = wn (W w) → Fr sRO2 M M' → mI M' 203 70 = 1 → ROu M' (ptO (hdO (prO Nm W w) (Nm w)) (W w) i) → w277_45 (fun z0 z1 z2 => w277_12 (n + 1) z0 z1 z2 P) (m + 1) 203 (jI (w : Int)) (jI (i : Int)) M' P := by
        intro m
        induction m with
        | zero =>
          intro i M4 e4 hF4 h74 hI4
          have hL4 := hF4.1 hL
          have hW4 : RWs M4 k W := RWs_fr hF4 (sB_f (by omega) (by omega)) (fun k => sB_f (by omega) (by omega)) hW
          have p4 := ptO_l (o := hdO (prO Nm W w) (Nm w)) (a := W w) i
          refine ⟨kd_203 hL4, w180_q hL4 hW4 hw (br_t (by rw [jI_le (by omega) (by omega) (by omega) (by omega)]; omega) ⟨kd_203 hL4, w279_s (c := 59) hL4 hI4 (by omega) (by omega) (fun M5 f5 c5 => ?_)⟩)⟩
          rw [show (1 : Int32) = jI 1 from rfl, jI_add, c_s1]
          refine ih (w + 1) M5 (by omega) (Fr_t hF4 (up f5)) (kp f5 h74) ?_
          rw [show i = wn (W w) by omega] at c5
          exact c5
        | succ m ih2 =>
          intro i M4 e4 hF4 h74 hI4
          have hL4 := hF4.1 hL
          have hW4 : RWs M4 k W := RWs_fr hF4 (sB_f (by omega) (by omega)) (fun k => sB_f (by omega) (by omega)) hW
          have p4 := ptO_l (o := hdO (prO Nm W w) (Nm w)) (a := W w) i
          have gi := ga.2.2.1 i (by omega)
          have x1 : jI (wx (W w) i) = jI (((wx (W w) i).toNat : Nat) : Int) := congrArg jI (by omega)
          have y1 : jI (wy (W w) i) = jI (((wy (W w) i).toNat : Nat) : Int) := congrArg jI (by omega)
          refine ⟨kd_203 hL4, w180_q hL4 hW4 hw (br_f (by rw [jI_le (by omega) (by omega) (by omega) (by omega)]; omega) ⟨kd_203 hL4, w184_q hL4 hW4 hw (by omega) ⟨kd_203 hL4, ?_⟩⟩)⟩
          rw [x1]
          refine w280_s hL4 hI4 (by omega) (by omega) (fun M5 f5 c5 => ?_)
          have hL5 := f5.1 hL4
          have hW5 : RWs M5 k W := RWs_fr f5 (sB_f (by omega) (by omega)) (fun k => sB_f (by omega) (by omega)) hW4
          have p5 := wrN_l (o := ptO (hdO (prO Nm W w) (Nm w)) (W w) i) (v := (wx (W w) i).toNat)
          refine ⟨kd_203 hL5, w185_q hL5 hW5 hw (by omega) ⟨kd_203 hL5, ?_⟩⟩
          rw [y1]
          refine w280_s hL5 c5 (by omega) (by omega) (fun M6 f6 c6 => ?_)
          rw [show (1 : Int32) = jI 1 from rfl, jI_add, c_s1]
          exact ih2 (i + 1) M6 (by omega) (Fr_t (Fr_t hF4 (up f5)) (up f6)) (kp f6 (kp f5 h74)) c6
      exact lp2 (wn (W w)) 0 M3 (by omega) (Fr_t hF2 (up f3)) (kp f3 (kp f2 (kp f1 h7))) c3
  exact ⟨kd_203 hL, kd_203 hL, k + 1, lp k 0 _ (by omega) (Fr_sI (Fr_sI Fr_r (sB_t1 (by omega))) (sB_t1 (by omega))) (gI_y ⟨rfl, rfl⟩) ⟨by rw [gI_n (by omega), gI_y ⟨rfl, rfl⟩]; rfl, fun i hi => absurd (show i < 0 from hi) (by omega)⟩⟩
def outA (o : OT) (l1 : Int32) : Int32 × Int32 := if 0 ≤ l1 then (if l1 < jI (o.1 : Int) then (jI (o.2 l1.toNatClampNeg : Int), 0) else (-1, 5)) else (-1, 1)
theorem out_j {l1 : Int32} {n : Nat} (hn : n < 1000) (h0 : 0 ≤ l1) (h1 : l1 < jI (n : Int)) : ∃ i : Nat, i < n ∧ l1 = jI (i : Int) := by
  have e1 : (0 : Int) ≤ l1.toInt := Int32.le_iff_toInt_le.mp h0
  have e2 := Int32.lt_iff_toInt_lt.mp h1
  rw [jI_toInt (by omega) (by omega)] at e2
  refine ⟨l1.toInt.toNat, by omega, Int32.toInt_inj.mp ?_⟩
  rw [jI_toInt (by omega) (by omega)]
  omega
theorem w149_q {M : MM} {o : OT} {l1 : Int32} {P : Int32 → MM → Prop} (hL : Lay M) (hO : COu M o) (o2 : o.1 ≤ 256) (hX : ∀ M' r st, Fr sCQ M M' → mI M' 0 10 = st → (r, st) = outA o l1 → P r M') : w149 0 l1 M P := by
  unfold outA at hX
  unfold w149
  rw [hO.1]
  refine ⟨fun z => ⟨kd_0 hL, fun y => ?_, fun y => ?_⟩, fun z => ?_⟩
  · rw [if_pos z, if_pos y] at hX
    obtain ⟨i, hi, rfl⟩ := out_j (by omega) z y
    rw [jI_cn (by omega)] at hX
    refine ⟨kd_0 hL, 53, rf_0_8 hL, by rw [← nI_j]; exact in_53 hL (by omega), kd_0 hL, kd_0 hL, ?_⟩
    rw [jI_cn (by omega), hO.2 i hi]
    exact hX _ _ _ (Fr_s0 Fr_r) (gI_y ⟨rfl, rfl⟩) rfl
  · rw [if_pos z, if_neg y] at hX
    exact ⟨kd_0 hL, kd_0 hL, hX _ _ _ (Fr_s0 Fr_r) (gI_y ⟨rfl, rfl⟩) rfl⟩
  · rw [if_neg z] at hX
    exact ⟨kd_0 hL, kd_0 hL, hX _ _ _ (Fr_s0 Fr_r) (gI_y ⟨rfl, rfl⟩) rfl⟩
theorem w281_q {M : MM} {o : OT} {l1 : Int32} {P : Int32 → MM → Prop} (hL : Lay M) (hO : ROu M o) (o2 : o.1 ≤ 256) (h7 : mI M 203 70 = 0 → o.1 = 0) (hX : ∀ M' r st, Fr sRQ M M' → mI M' 203 9 = st → (r, st) = outA o l1 → P r M') : w281 203 l1 M P := by
  unfold outA at hX
  unfold w281
  rw [hO.1]
  have no : 0 ≤ l1 → ¬ l1 < jI (o.1 : Int) → w281_38 203 M P := fun z y => by
    rw [if_pos z, if_neg y] at hX
    exact ⟨kd_203 hL, kd_203 hL, hX _ _ _ (Fr_s9 Fr_r) (gI_y ⟨rfl, rfl⟩) rfl⟩
  refine ⟨fun z => ⟨kd_203 hL, fun y => no z ?_, fun y => ⟨kd_203 hL, fun x => no z (Int32.not_lt.mpr x), fun x => ?_⟩⟩, fun z => ?_⟩
  · rw [h7 y]
    exact Int32.not_lt.mpr z
  · have y' := Int32.not_le.mp x
    rw [if_pos z, if_pos y'] at hX
    obtain ⟨i, hi, rfl⟩ := out_j (by omega) z y'
    rw [jI_cn (by omega)] at hX
    refine ⟨kd_203 hL, 235, rf_203_68 hL, by rw [← nI_j]; exact in_235 hL (by omega), kd_203 hL, kd_203 hL, ?_⟩
    rw [jI_cn (by omega), hO.2 i hi]
    exact hX _ _ _ (Fr_s9 Fr_r) (gI_y ⟨rfl, rfl⟩) rfl
  · rw [if_neg z] at hX
    exact ⟨kd_203 hL, kd_203 hL, hX _ _ _ (Fr_s9 Fr_r) (gI_y ⟨rfl, rfl⟩) rfl⟩
