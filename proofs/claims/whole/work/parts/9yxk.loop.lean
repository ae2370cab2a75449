/-! ===== the other calls, and the loop of the law ===== -/
theorem lw_00 {sl : Nat} {sx : Nat → Int32} {k18 : Option Nat → Option Nat → Int32 → MM → Prop} {l3 : Int32} {M : MM} (hv : VP8 l3 sl) (hI : INV M) (hk : ∀ M', INV M' → k18 (some 0) (some 203) (l3 + 9) M') : wL_212 sl sx k18 (some 0) (some 203) l3 M := by
  obtain ⟨v1, v2, v3, v4, v5, v6, v7, v8⟩ := hv
  have hI0 := hI
  obtain ⟨hL, k, q, A, S, O, Nm, t, T, o, F, st, f, pl, hC, hR, hP⟩ := hI
  exact ⟨0, rfl, kd_0 hL, w11_q hL ⟨203, rfl, kd_203 hL, w160_q hL ⟨fun _ => hk M hI0, fun z => absurd (hC.2.2.2.2.1.trans hR.2.2.2.2.2.2.1.symm) z⟩⟩⟩
theorem lw_1 {sl : Nat} {sx : Nat → Int32} {k18 : Option Nat → Option Nat → Int32 → MM → Prop} {l3 : Int32} {M : MM} (hv : VP8 l3 sl) (hI : INV M) (hk : ∀ M', INV M' → k18 (some 0) (some 203) (l3 + 9) M') : wL_225 sl sx k18 (some 0) (some 203) l3 M := by
  obtain ⟨v1, v2, v3, v4, v5, v6, v7, v8⟩ := hv
  have hI0 := hI
  obtain ⟨hL, k, q, A, S, O, Nm, t, T, o, F, st, f, pl, hC, hR, hP⟩ := hI
  exact ⟨0, rfl, kd_0 hL, w12_q hL hC.2.2.2.1 ⟨203, rfl, kd_203 hL, w161_q hL hR.2.2.2.2.2.1 ⟨fun _ => hk M hI0, fun z => absurd ((lc_eq _ _).mpr rfl) z⟩⟩⟩
theorem lw_2 {sl : Nat} {sx : Nat → Int32} {k18 : Option Nat → Option Nat → Int32 → MM → Prop} {l3 : Int32} {M : MM} (hv : VP8 l3 sl) (hI : INV M) (hk : ∀ M', INV M' → k18 (some 0) (some 203) (l3 + 9) M') : wL_239 sl sx k18 (some 0) (some 203) l3 M := by
  obtain ⟨v1, v2, v3, v4, v5, v6, v7, v8⟩ := hv
  have hI0 := hI
  obtain ⟨hL, k, q, A, S, O, Nm, t, T, o, F, st, f, pl, hC, hR, hP⟩ := hI
  exact ⟨0, rfl, kd_0 hL, w13_q hL hC.2.2.2.1 ⟨203, rfl, kd_203 hL, w162_q hL hR.2.2.2.2.2.1 ⟨fun _ => hk M hI0, fun z => absurd ((lc_eq _ _).mpr rfl) z⟩⟩⟩
theorem lw_3 {sl : Nat} {sx : Nat → Int32} {k18 : Option Nat → Option Nat → Int32 → MM → Prop} {l3 : Int32} {M : MM} (hv : VP8 l3 sl) (hI : INV M) (hk : ∀ M', INV M' → k18 (some 0) (some 203) (l3 + 9) M') : wL_253 sl sx k18 (some 0) (some 203) l3 M := by
  obtain ⟨v1, v2, v3, v4, v5, v6, v7, v8⟩ := hv
  have hI0 := hI
  obtain ⟨hL, k, q, A, S, O, Nm, t, T, o, F, st, f, pl, hC, hR, hP⟩ := hI
  refine ⟨v1, v2, v3, v4, v5, 0, rfl, kd_0 hL, w14_q hL hC.2.1 (fun M2 r t1 T1 f1 a1 c1 => ⟨v1, v2, v3, v4, v5, 203, rfl, kd_203 (f1.1 hL), w163_q (f1.1 hL) (RH_l f1 lo_T hR).2.2.1 (fun M5 r1 t2 T2 f2 a2 c2 => ?_)⟩)⟩
  obtain ⟨rfl, h9⟩ := Prod.mk.inj (a1.trans a2.symm)
  obtain ⟨rfl, rfl⟩ := Prod.mk.inj h9
  exact ⟨fun _ => hk _ ⟨f2.1 (f1.1 hL), k, q, A, S, O, Nm, t1, T1, o, F, st, f, pl, CH_h f2 hi_T (CH_T f1 c1 hC), RH_T f2 c2 (RH_l f1 lo_T hR), ⟨hP.1, BT_f hP.2.1 a1, hP.2.2⟩⟩, fun z => absurd rfl z⟩
theorem RA_k {M M' : MM} {k A : Nat} {S : Nat → Nat → WY} (e5 : mI M' 203 5 = mI M 203 5) (e12 : mI M' 203 12 = mI M 203 12) (e4 : ∀ j, mI M' 204 j = mI M 204 j) (e6 : ∀ j, mI M' 206 j = mI M 206 j) (h : RA M k A S) : RA M' k A S :=
  ⟨⟨e5.trans h.1.1, h.1.2.1, fun w hw => ⟨(h.1.2.2 w hw).1, RBk_m (RWs_b h.1 hw) (h.1.2.2 w hw).1.2.1 (fun d _ => e4 _)⟩⟩, e12.trans h.2.1, h.2.2.1, fun j hj w hw => ⟨(h.2.2.2 j hj w hw).1, RBk_m (h.2.2.2 j hj w hw).2 (h.2.2.2 j hj w hw).1.2.1 (fun d _ => e6 _)⟩⟩
theorem lw_4 {sl : Nat} {sx : Nat → Int32} {k18 : Option Nat → Option Nat → Int32 → MM → Prop} {l3 : Int32} {M : MM} (hv : VP8 l3 sl) (hI : INV M) (hk : ∀ M', INV M' → k18 (some 0) (some 203) (l3 + 9) M') : wL_316 sl sx k18 (some 0) (some 203) l3 M := by
  obtain ⟨v1, v2, v3, v4, v5, v6, v7, v8⟩ := hv
  have hI0 := hI
  obtain ⟨hL, k, q, A, S, O, Nm, t, T, o, F, st, f, pl, hC, hR, hP⟩ := hI
  have t7 := hC.2.1.2.1
  refine ⟨v1, 0, rfl, kd_0 hL, w16_q hL hC.1 hC.2.1 hP.2.1 (fun z M2 f1 e1 => ⟨v1, 203, rfl, kd_203 (f1.1 hL), w165_q (f1.1 hL) (RH_l f1 lo_Q hR).2.2.1 hP.2.1 (fun _ M5 f2 e2 => ?_) (fun n M5 g p s hn en => absurd ⟨n, hn, en⟩ z) (fun n M5 p s hn en => absurd ⟨n, hn, en⟩ z)⟩) (fun n M2 g p s hn en f1 c1 c3 c4 c6 c10 a1 g0 cA => ⟨v1, 203, rfl, kd_203 (f1.1 hL), w165_q (f1.1 hL) (RH_l f1 lo_L hR).2.2.1 hP.2.1 (fun z => absurd ⟨n, hn, en⟩ z) (fun n' M5 g' p' s' hn' en' f2 d8 d10 d11 d9 a2 g0' d5 d12 d4 d7 => ?_) (fun n' M5 p' s' hn' en' f2 d8 d10 d11 d9 a2 => ?_)⟩) (fun n M2 p s hn en f1 c1 c3 c4 c10 a1 pI s0 cA => ⟨v1, 203, rfl, kd_203 (f1.1 hL), w165_q (f1.1 hL) (RH_l f1 lo_L hR).2.2.1 hP.2.1 (fun z => absurd ⟨n, hn, en⟩ z) (fun n' M5 g' p' s' hn' en' f2 d8 d10 d11 d9 a2 g0' d5 d12 d4 d7 => ?_) (fun n' M5 p' s' hn' en' f2 d8 d10 d11 d9 a2 pI' s0' dW dN d12 => ?_)⟩)⟩
  · exact ⟨fun _ => hk _ ⟨f2.1 (f1.1 hL), k, q, A, S, O, Nm, t, T, o, F, _, f, pl, CH_h f2 hi_Q (CH_Q f1 e1 hC), RH_Q f2 e2 (RH_l f1 lo_Q hR), hP⟩, fun z => absurd rfl z⟩
  · have nn : n = n' := by
      have := en.symm.trans en'
      rw [jI_eq (by omega) (by omega) (by omega) (by omega)] at this
      omega
    subst nn
    obtain ⟨rfl, h9⟩ := Prod.mk.inj (a1.trans a2.symm)
    obtain ⟨rfl, rfl⟩ := Prod.mk.inj h9
    have R2 := RH_l f1 lo_L hR
    exact ⟨fun _ => hk _ ⟨f2.1 (f1.1 hL), k, q, A, S, O, Nm, 0, T, o, F, _, _, _, CH_h f2 hi_L (CH_L f1 c10 c1 c3 c4 cA hC), RH_L f2 d9 d8 d10 d11 (RA_k d5 d12 d4 (fun j => Fr_I f2 (sLO_f (by omega) (by omega) (by omega))) R2.1) (fun w hw => (d7 w).trans (R2.2.1 w hw)) R2, ⟨hP.1, fun i hi => absurd hi (by omega), hP.2.2⟩⟩, fun z => absurd rfl z⟩
  · have nn : n = n' := by
      have := en.symm.trans en'
      rw [jI_eq (by omega) (by omega) (by omega) (by omega)] at this
      omega
    subst nn
    exact absurd (Prod.mk.inj (a1.trans a2.symm)).1 g0
  · have nn : n = n' := by
      have := en.symm.trans en'
      rw [jI_eq (by omega) (by omega) (by omega) (by omega)] at this
      omega
    subst nn
    exact absurd (Prod.mk.inj (a1.trans a2.symm)).1.symm g0'
  · have nn : n = n' := by
      have := en.symm.trans en'
      rw [jI_eq (by omega) (by omega) (by omega) (by omega)] at this
      omega
    subst nn
    obtain ⟨_, h9⟩ := Prod.mk.inj (a1.trans a2.symm)
    obtain ⟨rfl, rfl⟩ := Prod.mk.inj h9
    have R2 := RH_l f1 lo_L hR
    exact ⟨fun _ => hk _ ⟨f2.1 (f1.1 hL), s.2.1, q, 0, fun _ => s.2.2.2.1, O, s.2.2.1, 0, T, o, F, _, _, _, CH_h f2 hi_L (CH_L f1 c10 c1 c3 c4 cA hC), RH_L f2 d9 d8 d10 d11 ⟨dW, d12, by omega, fun j hj => absurd hj (by omega)⟩ dN R2, ⟨fun w hw => (pI.2.2.2.2.2 w hw).1, fun i hi => absurd hi (by omega), hP.2.2⟩⟩, fun z => absurd rfl z⟩
theorem lw_5 {sl : Nat} {sx : Nat → Int32} {k18 : Option Nat → Option Nat → Int32 → MM → Prop} {l3 : Int32} {M : MM} (hv : VP8 l3 sl) (hI : INV M) (hk : ∀ M', INV M' → k18 (some 0) (some 203) (l3 + 9) M') : wL_339 sl sx k18 (some 0) (some 203) l3 M := by
  obtain ⟨v1, v2, v3, v4, v5, v6, v7, v8⟩ := hv
  have hI0 := hI
  obtain ⟨hL, k, q, A, S, O, Nm, t, T, o, F, st, f, pl, hC, hR, hP⟩ := hI
  refine ⟨v1, 0, rfl, kd_0 hL, w36_q hL ⟨v1, 203, rfl, kd_203 hL, w178_q hL ⟨fun _ => hk M hI0, fun z => absurd ?_ z⟩⟩⟩
  rw [hC.2.2.2.2.2.1, hC.2.2.2.2.2.2, hR.2.2.2.2.2.2.2.1, hR.2.2.2.2.2.2.2.2]
theorem lw_6 {sl : Nat} {sx : Nat → Int32} {k18 : Option Nat → Option Nat → Int32 → MM → Prop} {l3 : Int32} {M : MM} (hv : VP8 l3 sl) (hI : INV M) (hk : ∀ M', INV M' → k18 (some 0) (some 203) (l3 + 9) M') : wL_362 sl sx k18 (some 0) (some 203) l3 M := by
  obtain ⟨v1, v2, v3, v4, v5, v6, v7, v8⟩ := hv
  have hI0 := hI
  obtain ⟨hL, k, q, A, S, O, Nm, t, T, o, F, st, f, pl, hC, hR, hP⟩ := hI
  refine ⟨v1, 0, rfl, kd_0 hL, w37_q (A := jI (A : Int)) hL hC.1.1 (fun a ha => ?_) ⟨20, rf_0_7 hL, kd_20 hL⟩ (fun M2 r s f1 e1 a1 => ⟨v1, 203, rfl, kd_203 (f1.1 hL), w179_q (A := jI (A : Int)) (f1.1 hL) (RH_l f1 lo_Q hR).1.1 (RH_l f1 lo_Q hR).1.2.1 (fun M5 r1 s1 f2 e2 a2 => ?_)⟩)⟩
  · obtain rfl : 20 = a := Option.some.inj ((rf_0_7 hL).symm.trans ha)
    exact hC.1.2.2.1.2.2.1
  obtain ⟨rfl, rfl⟩ := Prod.mk.inj (a1.trans a2.symm)
  exact ⟨fun _ => hk _ ⟨f2.1 (f1.1 hL), k, q, A, S, O, Nm, t, T, o, F, _, f, pl, CH_h f2 hi_Q (CH_Q f1 e1 hC), RH_Q f2 e2 (RH_l f1 lo_Q hR), hP⟩, fun z => absurd rfl z⟩
theorem lw_34 {sl : Nat} {sx : Nat → Int32} {k18 : Option Nat → Option Nat → Int32 → MM → Prop} {l3 : Int32} {M : MM} (hv : VP8 l3 sl) (hI : INV M) (hk : ∀ M', INV M' → k18 (some 0) (some 203) (l3 + 9) M') : wL_1742 sl sx k18 (some 0) (some 203) l3 M := by
  obtain ⟨v1, v2, v3, v4, v5, v6, v7, v8⟩ := hv
  have hI0 := hI
  obtain ⟨hL, k, q, A, S, O, Nm, t, T, o, F, st, f, pl, hC, hR, hP⟩ := hI
  have g := prO_l (fun w hw => (hC.1.1.2.2 w hw).1) hP.1 k (Nat.le_refl k)
  have k4 := hC.1.1.2.1
  refine ⟨0, rfl, kd_0 hL, w145_q hL hC.1.1 (fun w hw => ⟨hP.1 w hw, hC.1.2.1 w hw⟩) (fun M2 f1 e1 c1 => ⟨203, rfl, kd_203 (f1.1 hL), w277_q (f1.1 hL) (RH_l f1 lo_P hR).1.1 (fun w hw => ⟨hP.1 w hw, (RH_l f1 lo_P hR).2.1 w hw⟩) (fun M5 f2 e2 e7 c2 => ?_)⟩)⟩
  exact ⟨fun _ => hk _ ⟨f2.1 (f1.1 hL), k, q, A, S, O, Nm, t, T, prO Nm (S 0) k, F, _, f, pl, CH_h f2 hi_P (CH_P f1 e1 c1 hC), RH_P f2 e2 e7 c2 (RH_l f1 lo_P hR), ⟨hP.1, hP.2.1, by omega⟩⟩, fun z => absurd rfl z⟩
theorem lw_35 {sl : Nat} {sx : Nat → Int32} {k18 : Option Nat → Option Nat → Int32 → MM → Prop} {l3 : Int32} {M : MM} (hv : VP8 l3 sl) (hI : INV M) (hk : ∀ M', INV M' → k18 (some 0) (some 203) (l3 + 9) M') : wL_1755 sl sx k18 (some 0) (some 203) l3 M := by
  obtain ⟨v1, v2, v3, v4, v5, v6, v7, v8⟩ := hv
  have hI0 := hI
  obtain ⟨hL, k, q, A, S, O, Nm, t, T, o, F, st, f, pl, hC, hR, hP⟩ := hI
  refine ⟨v1, 0, rfl, kd_0 hL, w149_q hL hC.2.2.1 hP.2.2 (fun M2 r s f1 e1 a1 => ⟨v1, 203, rfl, kd_203 (f1.1 hL), w281_q (f1.1 hL) (RH_l f1 lo_Q hR).2.2.2.1 hP.2.2 (RH_l f1 lo_Q hR).2.2.2.2.1 (fun M5 r1 s1 f2 e2 a2 => ?_)⟩)⟩
  obtain ⟨rfl, rfl⟩ := Prod.mk.inj (a1.trans a2.symm)
  exact ⟨fun _ => hk _ ⟨f2.1 (f1.1 hL), k, q, A, S, O, Nm, t, T, o, F, _, f, pl, CH_h f2 hi_Q (CH_Q f1 e1 hC), RH_Q f2 e2 (RH_l f1 lo_Q hR), hP⟩, fun z => absurd rfl z⟩
theorem lw_40 {sl : Nat} {sx : Nat → Int32} {k18 : Option Nat → Option Nat → Int32 → MM → Prop} {l3 : Int32} {M : MM} (hv : VP8 l3 sl) (hI : INV M) (hk : ∀ M', INV M' → k18 (some 0) (some 203) (l3 + 9) M') : wL_1940 sl sx k18 (some 0) (some 203) l3 M := by
  obtain ⟨v1, v2, v3, v4, v5, v6, v7, v8⟩ := hv
  have hI0 := hI
  obtain ⟨hL, k, q, A, S, O, Nm, t, T, o, F, st, f, pl, hC, hR, hP⟩ := hI
  refine ⟨0, rfl, kd_0 hL, w157_q hL hC.1 (fun a0 M2 f1 e1 c1 => ⟨203, rfl, kd_203 (f1.1 hL), w282_q (f1.1 hL) (RH_l f1 lo_A hR).1 (fun _ M5 f2 e2 c2 => ?_) (fun B eB => absurd eB (by omega))⟩) (fun B eB M2 q1 f1 e1 c1 => ⟨203, rfl, kd_203 (f1.1 hL), w282_q (f1.1 hL) (RH_l f1 lo_A hR).1 (fun a0 => absurd eB (by omega)) (fun B1 eB1 M5 f2 e2 c2 => ?_)⟩)⟩
  · exact ⟨fun _ => hk _ ⟨f2.1 (f1.1 hL), k, q, A, S, O, Nm, t, T, o, F, _, f, pl, CH_h f2 hi_A (CH_A f1 e1 c1 hC), RH_A f2 e2 c2 (RH_l f1 lo_A hR), hP⟩, fun z => absurd rfl z⟩
  · obtain rfl : B = B1 := by omega
    exact ⟨fun _ => hk _ ⟨f2.1 (f1.1 hL), k, q1, B, fun j => S (j + 1), fun j => O (j + 1), Nm, t, T, o, F, _, f, pl, CH_h f2 hi_A (CH_A f1 e1 c1 hC), RH_A f2 e2 c2 (RH_l f1 lo_A hR), hP⟩, fun z => absurd rfl z⟩
theorem lw_all {sl : Nat} {sx : Nat → Int32} {k18 : Option Nat → Option Nat → Int32 → MM → Prop} {l3 s0 : Int32} {M : MM} (hv : VP8 l3 sl) (hI : INV M) (hk : ∀ M', INV M' → k18 (some 0) (some 203) (l3 + 9) M') : wL_33 sl sx k18 (some 0) (some 203) l3 s0 M :=
  ⟨fun _ => lw_00 hv hI hk, fun _ => lw_1 hv hI hk, fun _ => lw_2 hv hI hk, fun _ => lw_3 hv hI hk, fun _ => lw_4 hv hI hk, fun _ => lw_5 hv hI hk, fun _ => lw_6 hv hI hk, fun _ => lw_7 hv hI hk, fun _ => lw_8 hv hI hk, fun _ => lw_9 hv hI hk, fun _ => lw_10 hv hI hk, fun _ => lw_11 hv hI hk, fun _ => lw_12 hv hI hk, fun _ => lw_13 hv hI hk, fun _ => lw_14 hv hI hk, fun _ => lw_15 hv hI hk, fun _ => lw_16 hv hI hk, fun _ => lw_17 hv hI hk, fun _ => lw_18 hv hI hk, fun _ => lw_19 hv hI hk, fun _ => lw_20 hv hI hk, fun _ => lw_21 hv hI hk, fun _ => lw_22 hv hI hk, fun _ => lw_23 hv hI hk, fun _ => lw_24 hv hI hk, fun _ => lw_25 hv hI hk, fun _ => lw_26 hv hI hk, fun _ => lw_27 hv hI hk, fun _ => lw_28 hv hI hk, fun _ => lw_29 hv hI hk, fun _ => lw_30 hv hI hk, fun _ => lw_31 hv hI hk, fun _ => lw_32 hv hI hk, fun _ => lw_33 hv hI hk, fun _ => lw_34 hv hI hk, fun _ => lw_35 hv hI hk, fun _ => lw_36 hv hI hk, fun _ => lw_37 hv hI hk, fun _ => lw_38 hv hI hk, fun _ => lw_39 hv hI hk, fun _ => lw_40 hv hI hk, fun _ => hk M hI⟩
theorem lw_in {sl i c : Nat} (h : i + c < sl) (b : sl ≤ 4608) : vp_in (jI (i : Int) + jI (c : Int)) sl := by
  rw [jI_add]
  exact vp_in_iff.mpr (by rw [jI_toInt (by omega) (by omega)]; omega)
/-- the loop of the law -/
theorem lw_loop {sl : Nat} {sx : Nat → Int32} (b : sl ≤ 4608) : ∀ (r i : Nat) (M : MM), INV M → i ≤ 4608 → sl < i + 9 * (r + 1) → wL_18 sl sx (r + 1) (some 0) (some 203) (jI (i : Int)) M := by
  intro r
  induction r with
  | zero =>
    intro i M hI ib h
    refine ⟨fun _ => rfl, fun z => absurd ?_ z⟩
    rw [show Int32.ofNat sl = jI (sl : Int) from nI_j sl, show (9 : Int32) = jI 9 from rfl, jI_sub, jI_lt (by omega) (by omega) (by omega) (by omega)]
    omega
  | succ r ih =>
    intro i M hI ib h
    refine ⟨fun _ => rfl, fun z => ?_⟩
    rw [show Int32.ofNat sl = jI (sl : Int) from nI_j sl, show (9 : Int32) = jI 9 from rfl, jI_sub, jI_lt (by omega) (by omega) (by omega) (by omega)] at z
    refine ⟨?_, lw_all ⟨lw_in (c := 1) (by omega) b, lw_in (c := 2) (by omega) b, lw_in (c := 3) (by omega) b, lw_in (c := 4) (by omega) b, lw_in (c := 5) (by omega) b, lw_in (c := 6) (by omega) b, lw_in (c := 7) (by omega) b, lw_in (c := 8) (by omega) b⟩ hI (fun M' hI' => ?_)⟩
    · exact vp_in_iff.mpr (by rw [jI_toInt (by omega) (by omega)]; omega)
    · have g := ih (i + 9) M' hI' (by omega) (by omega)
      have e : jI (i : Int) + 9 = jI ((i + 9 : Nat) : Int) := by
        rw [show (9 : Int32) = jI 9 from rfl, jI_add]; rfl
      rw [e]; exact g
theorem law_runs {L : Nat} {xs : Nat → Int32} (b : L ≤ 4608) : LawRuns L xs := law_of_loop ⟨L + 1, lw_loop b L 0 MI INV_0 (by omega) (by omega)⟩
