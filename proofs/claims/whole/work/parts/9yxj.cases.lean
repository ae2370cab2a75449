/-! ===== printed by program (wip/whole/gen_cases.py): each question keeps what holds between the calls ===== -/
def VP8 (l3 : Int32) (sl : Nat) : Prop := vp_in (l3 + (1 : Int32)) sl ∧ vp_in (l3 + (2 : Int32)) sl ∧ vp_in (l3 + (3 : Int32)) sl ∧ vp_in (l3 + (4 : Int32)) sl ∧ vp_in (l3 + (5 : Int32)) sl ∧ vp_in (l3 + (6 : Int32)) sl ∧ vp_in (l3 + (7 : Int32)) sl ∧ vp_in (l3 + (8 : Int32)) sl
theorem w208_b {M : MM} {k : Nat} {W : Nat → WY} {l1 l2 l4 l5 l6 l7 l8 b : Int32} {P : Int32 → MM → Prop} (hb : b = 0 ∨ b = 1) (hL : Lay M) (hW : RWs M k W) (hX : ∀ M' r st, Fr sRQ M M' → mI M' 203 9 = st → (r, st) = freeA k W l1 l2 b l4 l5 l6 l7 l8 → P r M') : w208 203 l1 l2 b l4 l5 l6 l7 l8 M P := by
  have e0 : bI (decide ((0 : Int32) ≠ 0)) = 0 := by decide
  have e1 : bI (decide ((1 : Int32) ≠ 0)) = 1 := by decide
  rcases hb with rfl | rfl
  · have g := @w208_q M k W l1 l2 0 l4 l5 l6 l7 l8 P hL hW
    rw [e0] at g
    exact g hX
  · have g := @w208_q M k W l1 l2 1 l4 l5 l6 l7 l8 P hL hW
    rw [e1] at g
    exact g hX
theorem w229_b {M : MM} {k : Nat} {W : Nat → WY} {l1 l2 l4 l5 l6 l7 b : Int32} {P : Int32 → MM → Prop} (hb : b = 0 ∨ b = 1) (hL : Lay M) (hW : RWs M k W) (hX : ∀ M' r st, Fr sRQ M M' → mI M' 203 9 = st → (r, st) = lowA k W l1 l2 b l4 l5 l6 l7 → P r M') : w229 203 l1 l2 b l4 l5 l6 l7 M P := by
  have e0 : bI (decide ((0 : Int32) ≠ 0)) = 0 := by decide
  have e1 : bI (decide ((1 : Int32) ≠ 0)) = 1 := by decide
  rcases hb with rfl | rfl
  · have g := @w229_q M k W l1 l2 0 l4 l5 l6 l7 P hL hW
    rw [e0] at g
    exact g hX
  · have g := @w229_q M k W l1 l2 1 l4 l5 l6 l7 P hL hW
    rw [e1] at g
    exact g hX
theorem lw_7 {sl : Nat} {sx : Nat → Int32} {k18 : Option Nat → Option Nat → Int32 → MM → Prop} {l3 : Int32} {M : MM} (hv : VP8 l3 sl) (hI : INV M) (hk : ∀ M', INV M' → k18 (some 0) (some 203) (l3 + 9) M') : wL_385 sl sx k18 (some 0) (some 203) l3 M := by
  obtain ⟨v1, v2, v3, v4, v5, v6, v7, v8⟩ := hv
  have hI0 := hI
  obtain ⟨hL, k, q, A, S, O, Nm, t, T, o, F, st, f, pl, hC, hR, hP⟩ := hI
  refine ⟨v1, v2, 0, rfl, kd_0 hL, w39_q hL hC.1.1 (fun M2 r s f1 e1 a1 => ⟨v1, v2, 203, rfl, kd_203 (f1.1 hL), w181_q (f1.1 hL) (RH_l f1 lo_Q hR).1.1 (fun M5 r1 s1 f2 e2 a2 => ?_)⟩)⟩
  obtain ⟨rfl, rfl⟩ := Prod.mk.inj (a1.trans a2.symm)
  exact ⟨fun _ => hk _ ⟨f2.1 (f1.1 hL), k, q, A, S, O, Nm, t, T, o, F, _, f, pl, CH_h f2 hi_Q (CH_Q f1 e1 hC), RH_Q f2 e2 (RH_l f1 lo_Q hR), hP⟩, fun z => absurd rfl z⟩
theorem lw_8 {sl : Nat} {sx : Nat → Int32} {k18 : Option Nat → Option Nat → Int32 → MM → Prop} {l3 : Int32} {M : MM} (hv : VP8 l3 sl) (hI : INV M) (hk : ∀ M', INV M' → k18 (some 0) (some 203) (l3 + 9) M') : wL_418 sl sx k18 (some 0) (some 203) l3 M := by
  obtain ⟨v1, v2, v3, v4, v5, v6, v7, v8⟩ := hv
  have hI0 := hI
  obtain ⟨hL, k, q, A, S, O, Nm, t, T, o, F, st, f, pl, hC, hR, hP⟩ := hI
  refine ⟨v1, v2, v3, v4, 0, rfl, kd_0 hL, w44_q hL hC.1.1 (fun M2 r s f1 e1 a1 => ⟨v1, v2, v3, v4, 203, rfl, kd_203 (f1.1 hL), w188_q (f1.1 hL) (RH_l f1 lo_Q hR).1.1 (fun M5 r1 s1 f2 e2 a2 => ?_)⟩)⟩
  obtain ⟨rfl, rfl⟩ := Prod.mk.inj (a1.trans a2.symm)
  exact ⟨fun _ => hk _ ⟨f2.1 (f1.1 hL), k, q, A, S, O, Nm, t, T, o, F, _, f, pl, CH_h f2 hi_Q (CH_Q f1 e1 hC), RH_Q f2 e2 (RH_l f1 lo_Q hR), hP⟩, fun z => absurd rfl z⟩
theorem lw_12 {sl : Nat} {sx : Nat → Int32} {k18 : Option Nat → Option Nat → Int32 → MM → Prop} {l3 : Int32} {M : MM} (hv : VP8 l3 sl) (hI : INV M) (hk : ∀ M', INV M' → k18 (some 0) (some 203) (l3 + 9) M') : wL_600 sl sx k18 (some 0) (some 203) l3 M := by
  obtain ⟨v1, v2, v3, v4, v5, v6, v7, v8⟩ := hv
  have hI0 := hI
  obtain ⟨hL, k, q, A, S, O, Nm, t, T, o, F, st, f, pl, hC, hR, hP⟩ := hI
  refine ⟨v1, v2, v3, 0, rfl, kd_0 hL, w64_q hL hC.1.1 (fun M2 r s f1 e1 a1 => ⟨v1, v2, v3, 203, rfl, kd_203 (f1.1 hL), w203_q (f1.1 hL) (RH_l f1 lo_Q hR).1.1 (fun M5 r1 s1 f2 e2 a2 => ?_)⟩)⟩
  obtain ⟨rfl, rfl⟩ := Prod.mk.inj (a1.trans a2.symm)
  exact ⟨fun _ => hk _ ⟨f2.1 (f1.1 hL), k, q, A, S, O, Nm, t, T, o, F, _, f, pl, CH_h f2 hi_Q (CH_Q f1 e1 hC), RH_Q f2 e2 (RH_l f1 lo_Q hR), hP⟩, fun z => absurd rfl z⟩
theorem lw_13 {sl : Nat} {sx : Nat → Int32} {k18 : Option Nat → Option Nat → Int32 → MM → Prop} {l3 : Int32} {M : MM} (hv : VP8 l3 sl) (hI : INV M) (hk : ∀ M', INV M' → k18 (some 0) (some 203) (l3 + 9) M') : wL_643 sl sx k18 (some 0) (some 203) l3 M := by
  obtain ⟨v1, v2, v3, v4, v5, v6, v7, v8⟩ := hv
  have hI0 := hI
  obtain ⟨hL, k, q, A, S, O, Nm, t, T, o, F, st, f, pl, hC, hR, hP⟩ := hI
  refine ⟨v1, v2, 0, rfl, kd_0 hL, w71_q hL hC.1.1 (fun M2 r s f1 e1 a1 => ⟨v1, v2, 203, rfl, kd_203 (f1.1 hL), w207_q (f1.1 hL) (RH_l f1 lo_Q hR).1.1 (fun M5 r1 s1 f2 e2 a2 => ?_)⟩)⟩
  obtain ⟨rfl, rfl⟩ := Prod.mk.inj (a1.trans a2.symm)
  exact ⟨fun _ => hk _ ⟨f2.1 (f1.1 hL), k, q, A, S, O, Nm, t, T, o, F, _, f, pl, CH_h f2 hi_Q (CH_Q f1 e1 hC), RH_Q f2 e2 (RH_l f1 lo_Q hR), hP⟩, fun z => absurd rfl z⟩
theorem lw_16 {sl : Nat} {sx : Nat → Int32} {k18 : Option Nat → Option Nat → Int32 → MM → Prop} {l3 : Int32} {M : MM} (hv : VP8 l3 sl) (hI : INV M) (hk : ∀ M', INV M' → k18 (some 0) (some 203) (l3 + 9) M') : wL_894 sl sx k18 (some 0) (some 203) l3 M := by
  obtain ⟨v1, v2, v3, v4, v5, v6, v7, v8⟩ := hv
  have hI0 := hI
  obtain ⟨hL, k, q, A, S, O, Nm, t, T, o, F, st, f, pl, hC, hR, hP⟩ := hI
  refine ⟨v1, v2, v3, v4, v5, 0, rfl, kd_0 hL, w91_q hL hC.1.1 (fun M2 r s f1 e1 a1 => ⟨v1, v2, v3, v4, v5, 203, rfl, kd_203 (f1.1 hL), w236_q (f1.1 hL) (RH_l f1 lo_Q hR).1.1 (fun M5 r1 s1 f2 e2 a2 => ?_)⟩)⟩
  obtain ⟨rfl, rfl⟩ := Prod.mk.inj (a1.trans a2.symm)
  exact ⟨fun _ => hk _ ⟨f2.1 (f1.1 hL), k, q, A, S, O, Nm, t, T, o, F, _, f, pl, CH_h f2 hi_Q (CH_Q f1 e1 hC), RH_Q f2 e2 (RH_l f1 lo_Q hR), hP⟩, fun z => absurd rfl z⟩
theorem lw_17 {sl : Nat} {sx : Nat → Int32} {k18 : Option Nat → Option Nat → Int32 → MM → Prop} {l3 : Int32} {M : MM} (hv : VP8 l3 sl) (hI : INV M) (hk : ∀ M', INV M' → k18 (some 0) (some 203) (l3 + 9) M') : wL_957 sl sx k18 (some 0) (some 203) l3 M := by
  obtain ⟨v1, v2, v3, v4, v5, v6, v7, v8⟩ := hv
  have hI0 := hI
  obtain ⟨hL, k, q, A, S, O, Nm, t, T, o, F, st, f, pl, hC, hR, hP⟩ := hI
  refine ⟨v1, v2, v3, v4, v5, 0, rfl, kd_0 hL, w93_q hL hC.1.1 (fun M2 r s f1 e1 a1 => ⟨v1, v2, v3, v4, v5, 203, rfl, kd_203 (f1.1 hL), w238_q (f1.1 hL) (RH_l f1 lo_Q hR).1.1 (fun M5 r1 s1 f2 e2 a2 => ?_)⟩)⟩
  obtain ⟨rfl, rfl⟩ := enoR_u a1 a2
  exact ⟨fun _ => hk _ ⟨f2.1 (f1.1 hL), k, q, A, S, O, Nm, t, T, o, F, _, f, pl, CH_h f2 hi_Q (CH_Q f1 e1 hC), RH_Q f2 e2 (RH_l f1 lo_Q hR), hP⟩, fun z => absurd rfl z⟩
theorem lw_19 {sl : Nat} {sx : Nat → Int32} {k18 : Option Nat → Option Nat → Int32 → MM → Prop} {l3 : Int32} {M : MM} (hv : VP8 l3 sl) (hI : INV M) (hk : ∀ M', INV M' → k18 (some 0) (some 203) (l3 + 9) M') : wL_1063 sl sx k18 (some 0) (some 203) l3 M := by
  obtain ⟨v1, v2, v3, v4, v5, v6, v7, v8⟩ := hv
  have hI0 := hI
  obtain ⟨hL, k, q, A, S, O, Nm, t, T, o, F, st, f, pl, hC, hR, hP⟩ := hI
  refine ⟨v1, v2, v3, 0, rfl, kd_0 hL, w112_q hL hC.1.1 (fun M2 r s f1 e1 a1 => ⟨v1, v2, v3, 203, rfl, kd_203 (f1.1 hL), w250_q (f1.1 hL) (RH_l f1 lo_Q hR).1.1 (fun M5 r1 s1 f2 e2 a2 => ?_)⟩)⟩
  obtain ⟨rfl, rfl⟩ := criR_u a1 a2
  exact ⟨fun _ => hk _ ⟨f2.1 (f1.1 hL), k, q, A, S, O, Nm, t, T, o, F, _, f, pl, CH_h f2 hi_Q (CH_Q f1 e1 hC), RH_Q f2 e2 (RH_l f1 lo_Q hR), hP⟩, fun z => absurd rfl z⟩
theorem lw_23 {sl : Nat} {sx : Nat → Int32} {k18 : Option Nat → Option Nat → Int32 → MM → Prop} {l3 : Int32} {M : MM} (hv : VP8 l3 sl) (hI : INV M) (hk : ∀ M', INV M' → k18 (some 0) (some 203) (l3 + 9) M') : wL_1309 sl sx k18 (some 0) (some 203) l3 M := by
  obtain ⟨v1, v2, v3, v4, v5, v6, v7, v8⟩ := hv
  have hI0 := hI
  obtain ⟨hL, k, q, A, S, O, Nm, t, T, o, F, st, f, pl, hC, hR, hP⟩ := hI
  refine ⟨v1, v2, v3, 0, rfl, kd_0 hL, w120_q hL hC.1.1 (fun M2 r s f1 e1 a1 => ⟨v1, v2, v3, 203, rfl, kd_203 (f1.1 hL), w257_q (f1.1 hL) (RH_l f1 lo_Q hR).1.1 (fun M5 r1 s1 f2 e2 a2 => ?_)⟩)⟩
  obtain ⟨rfl, rfl⟩ := Prod.mk.inj (a1.trans a2.symm)
  exact ⟨fun _ => hk _ ⟨f2.1 (f1.1 hL), k, q, A, S, O, Nm, t, T, o, F, _, f, pl, CH_h f2 hi_Q (CH_Q f1 e1 hC), RH_Q f2 e2 (RH_l f1 lo_Q hR), hP⟩, fun z => absurd rfl z⟩
theorem lw_24 {sl : Nat} {sx : Nat → Int32} {k18 : Option Nat → Option Nat → Int32 → MM → Prop} {l3 : Int32} {M : MM} (hv : VP8 l3 sl) (hI : INV M) (hk : ∀ M', INV M' → k18 (some 0) (some 203) (l3 + 9) M') : wL_1352 sl sx k18 (some 0) (some 203) l3 M := by
  obtain ⟨v1, v2, v3, v4, v5, v6, v7, v8⟩ := hv
  have hI0 := hI
  obtain ⟨hL, k, q, A, S, O, Nm, t, T, o, F, st, f, pl, hC, hR, hP⟩ := hI
  refine ⟨v1, v2, v3, v4, v5, 0, rfl, kd_0 hL, w123_q hL hC.1.1 (fun M2 r s f1 e1 a1 => ⟨v1, v2, v3, v4, v5, 203, rfl, kd_203 (f1.1 hL), w259_q (f1.1 hL) (RH_l f1 lo_Q hR).1.1 (fun M5 r1 s1 f2 e2 a2 => ?_)⟩)⟩
  obtain ⟨rfl, rfl⟩ := Prod.mk.inj (a1.trans a2.symm)
  exact ⟨fun _ => hk _ ⟨f2.1 (f1.1 hL), k, q, A, S, O, Nm, t, T, o, F, _, f, pl, CH_h f2 hi_Q (CH_Q f1 e1 hC), RH_Q f2 e2 (RH_l f1 lo_Q hR), hP⟩, fun z => absurd rfl z⟩
theorem lw_25 {sl : Nat} {sx : Nat → Int32} {k18 : Option Nat → Option Nat → Int32 → MM → Prop} {l3 : Int32} {M : MM} (hv : VP8 l3 sl) (hI : INV M) (hk : ∀ M', INV M' → k18 (some 0) (some 203) (l3 + 9) M') : wL_1415 sl sx k18 (some 0) (some 203) l3 M := by
  obtain ⟨v1, v2, v3, v4, v5, v6, v7, v8⟩ := hv
  have hI0 := hI
  obtain ⟨hL, k, q, A, S, O, Nm, t, T, o, F, st, f, pl, hC, hR, hP⟩ := hI
  refine ⟨v1, v2, v3, 0, rfl, kd_0 hL, w124_q hL hC.1.1 (fun M2 r s f1 e1 a1 => ⟨v1, v2, v3, 203, rfl, kd_203 (f1.1 hL), w260_q (f1.1 hL) (RH_l f1 lo_Q hR).1.1 (fun M5 r1 s1 f2 e2 a2 => ?_)⟩)⟩
  obtain ⟨rfl, rfl⟩ := Prod.mk.inj (a1.trans a2.symm)
  exact ⟨fun _ => hk _ ⟨f2.1 (f1.1 hL), k, q, A, S, O, Nm, t, T, o, F, _, f, pl, CH_h f2 hi_Q (CH_Q f1 e1 hC), RH_Q f2 e2 (RH_l f1 lo_Q hR), hP⟩, fun z => absurd rfl z⟩
theorem lw_28 {sl : Nat} {sx : Nat → Int32} {k18 : Option Nat → Option Nat → Int32 → MM → Prop} {l3 : Int32} {M : MM} (hv : VP8 l3 sl) (hI : INV M) (hk : ∀ M', INV M' → k18 (some 0) (some 203) (l3 + 9) M') : wL_1524 sl sx k18 (some 0) (some 203) l3 M := by
  obtain ⟨v1, v2, v3, v4, v5, v6, v7, v8⟩ := hv
  have hI0 := hI
  obtain ⟨hL, k, q, A, S, O, Nm, t, T, o, F, st, f, pl, hC, hR, hP⟩ := hI
  refine ⟨v1, v2, v3, v4, 0, rfl, kd_0 hL, w130_q hL hC.1.1 (fun M2 r s f1 e1 a1 => ⟨v1, v2, v3, v4, 203, rfl, kd_203 (f1.1 hL), w264_q (f1.1 hL) (RH_l f1 lo_Q hR).1.1 (fun M5 r1 s1 f2 e2 a2 => ?_)⟩)⟩
  obtain ⟨rfl, rfl⟩ := Prod.mk.inj (a1.trans a2.symm)
  exact ⟨fun _ => hk _ ⟨f2.1 (f1.1 hL), k, q, A, S, O, Nm, t, T, o, F, _, f, pl, CH_h f2 hi_Q (CH_Q f1 e1 hC), RH_Q f2 e2 (RH_l f1 lo_Q hR), hP⟩, fun z => absurd rfl z⟩
theorem lw_29 {sl : Nat} {sx : Nat → Int32} {k18 : Option Nat → Option Nat → Int32 → MM → Prop} {l3 : Int32} {M : MM} (hv : VP8 l3 sl) (hI : INV M) (hk : ∀ M', INV M' → k18 (some 0) (some 203) (l3 + 9) M') : wL_1577 sl sx k18 (some 0) (some 203) l3 M := by
  obtain ⟨v1, v2, v3, v4, v5, v6, v7, v8⟩ := hv
  have hI0 := hI
  obtain ⟨hL, k, q, A, S, O, Nm, t, T, o, F, st, f, pl, hC, hR, hP⟩ := hI
  refine ⟨v1, 0, rfl, kd_0 hL, w135_q hL hC.1.1 (fun M2 r s f1 e1 a1 => ⟨v1, 203, rfl, kd_203 (f1.1 hL), w267_q (f1.1 hL) (RH_l f1 lo_Q hR).1.1 (fun M5 r1 s1 f2 e2 a2 => ?_)⟩)⟩
  obtain ⟨rfl, rfl⟩ := Prod.mk.inj (a1.trans a2.symm)
  exact ⟨fun _ => hk _ ⟨f2.1 (f1.1 hL), k, q, A, S, O, Nm, t, T, o, F, _, f, pl, CH_h f2 hi_Q (CH_Q f1 e1 hC), RH_Q f2 e2 (RH_l f1 lo_Q hR), hP⟩, fun z => absurd rfl z⟩
theorem lw_30 {sl : Nat} {sx : Nat → Int32} {k18 : Option Nat → Option Nat → Int32 → MM → Prop} {l3 : Int32} {M : MM} (hv : VP8 l3 sl) (hI : INV M) (hk : ∀ M', INV M' → k18 (some 0) (some 203) (l3 + 9) M') : wL_1600 sl sx k18 (some 0) (some 203) l3 M := by
  obtain ⟨v1, v2, v3, v4, v5, v6, v7, v8⟩ := hv
  have hI0 := hI
  obtain ⟨hL, k, q, A, S, O, Nm, t, T, o, F, st, f, pl, hC, hR, hP⟩ := hI
  refine ⟨0, rfl, kd_0 hL, w136_q hL hC.1.1 (fun M2 r s f1 e1 a1 => ⟨203, rfl, kd_203 (f1.1 hL), w269_q (f1.1 hL) (RH_l f1 lo_Q hR).1.1 (fun M5 r1 s1 f2 e2 a2 => ?_)⟩)⟩
  obtain ⟨rfl, rfl⟩ := Prod.mk.inj (a1.trans a2.symm)
  exact ⟨fun _ => hk _ ⟨f2.1 (f1.1 hL), k, q, A, S, O, Nm, t, T, o, F, _, f, pl, CH_h f2 hi_Q (CH_Q f1 e1 hC), RH_Q f2 e2 (RH_l f1 lo_Q hR), hP⟩, fun z => absurd rfl z⟩
theorem lw_31 {sl : Nat} {sx : Nat → Int32} {k18 : Option Nat → Option Nat → Int32 → MM → Prop} {l3 : Int32} {M : MM} (hv : VP8 l3 sl) (hI : INV M) (hk : ∀ M', INV M' → k18 (some 0) (some 203) (l3 + 9) M') : wL_1613 sl sx k18 (some 0) (some 203) l3 M := by
  obtain ⟨v1, v2, v3, v4, v5, v6, v7, v8⟩ := hv
  have hI0 := hI
  obtain ⟨hL, k, q, A, S, O, Nm, t, T, o, F, st, f, pl, hC, hR, hP⟩ := hI
  refine ⟨v1, v2, v3, 0, rfl, kd_0 hL, w138_q hL hC.1.1 (fun M2 r s f1 e1 a1 => ⟨v1, v2, v3, 203, rfl, kd_203 (f1.1 hL), w270_q (f1.1 hL) (RH_l f1 lo_Q hR).1.1 (fun M5 r1 s1 f2 e2 a2 => ?_)⟩)⟩
  obtain ⟨rfl, rfl⟩ := Prod.mk.inj (a1.trans a2.symm)
  exact ⟨fun _ => hk _ ⟨f2.1 (f1.1 hL), k, q, A, S, O, Nm, t, T, o, F, _, f, pl, CH_h f2 hi_Q (CH_Q f1 e1 hC), RH_Q f2 e2 (RH_l f1 lo_Q hR), hP⟩, fun z => absurd rfl z⟩
theorem lw_9 {sl : Nat} {sx : Nat → Int32} {k18 : Option Nat → Option Nat → Int32 → MM → Prop} {l3 : Int32} {M : MM} (hv : VP8 l3 sl) (hI : INV M) (hk : ∀ M', INV M' → k18 (some 0) (some 203) (l3 + 9) M') : wL_471 sl sx k18 (some 0) (some 203) l3 M := by
  obtain ⟨v1, v2, v3, v4, v5, v6, v7, v8⟩ := hv
  have hI0 := hI
  obtain ⟨hL, k, q, A, S, O, Nm, t, T, o, F, st, f, pl, hC, hR, hP⟩ := hI
  refine ⟨v1, v2, v3, v4, 0, rfl, kd_0 hL, w46_q hL hC.1.1 hC.2.2.2.1 (fun M2 r s G f1 e1 c1 a1 => ⟨v1, v2, v3, v4, 203, rfl, kd_203 (f1.1 hL), w189_q (f1.1 hL) (RH_l f1 lo_F hR).1.1 (RH_l f1 lo_F hR).2.2.2.2.2.1 (fun M5 r1 s1 G1 f2 e2 c2 a2 => ?_)⟩)⟩
  obtain ⟨rfl, h9⟩ := Prod.mk.inj (a1.trans a2.symm)
  obtain ⟨rfl, rfl⟩ := Prod.mk.inj h9
  exact ⟨fun _ => hk _ ⟨f2.1 (f1.1 hL), k, q, A, S, O, Nm, t, T, o, G, _, f, pl, CH_h f2 hi_F (CH_F f1 e1 c1 hC), RH_F f2 e2 c2 (RH_l f1 lo_F hR), hP⟩, fun z => absurd rfl z⟩
theorem lw_10 {sl : Nat} {sx : Nat → Int32} {k18 : Option Nat → Option Nat → Int32 → MM → Prop} {l3 : Int32} {M : MM} (hv : VP8 l3 sl) (hI : INV M) (hk : ∀ M', INV M' → k18 (some 0) (some 203) (l3 + 9) M') : wL_524 sl sx k18 (some 0) (some 203) l3 M := by
  obtain ⟨v1, v2, v3, v4, v5, v6, v7, v8⟩ := hv
  have hI0 := hI
  obtain ⟨hL, k, q, A, S, O, Nm, t, T, o, F, st, f, pl, hC, hR, hP⟩ := hI
  refine ⟨v1, v2, v3, 0, rfl, kd_0 hL, w58_q hL hC.1.1 hC.2.2.2.1 (fun M2 r s G f1 e1 c1 a1 => ⟨v1, v2, v3, 203, rfl, kd_203 (f1.1 hL), w197_q (f1.1 hL) (RH_l f1 lo_F hR).1.1 (RH_l f1 lo_F hR).2.2.2.2.2.1 (fun M5 r1 s1 G1 f2 e2 c2 a2 => ?_)⟩)⟩
  obtain ⟨rfl, h9⟩ := Prod.mk.inj (a1.trans a2.symm)
  obtain ⟨rfl, rfl⟩ := Prod.mk.inj h9
  exact ⟨fun _ => hk _ ⟨f2.1 (f1.1 hL), k, q, A, S, O, Nm, t, T, o, G, _, f, pl, CH_h f2 hi_F (CH_F f1 e1 c1 hC), RH_F f2 e2 c2 (RH_l f1 lo_F hR), hP⟩, fun z => absurd rfl z⟩
theorem lw_11 {sl : Nat} {sx : Nat → Int32} {k18 : Option Nat → Option Nat → Int32 → MM → Prop} {l3 : Int32} {M : MM} (hv : VP8 l3 sl) (hI : INV M) (hk : ∀ M', INV M' → k18 (some 0) (some 203) (l3 + 9) M') : wL_567 sl sx k18 (some 0) (some 203) l3 M := by
  obtain ⟨v1, v2, v3, v4, v5, v6, v7, v8⟩ := hv
  have hI0 := hI
  obtain ⟨hL, k, q, A, S, O, Nm, t, T, o, F, st, f, pl, hC, hR, hP⟩ := hI
  refine ⟨v1, v2, 0, rfl, kd_0 hL, w61_q hL hC.1.1 hC.2.2.2.1 (fun M2 r s G f1 e1 c1 a1 => ⟨v1, v2, 203, rfl, kd_203 (f1.1 hL), w201_q (f1.1 hL) (RH_l f1 lo_F hR).1.1 (RH_l f1 lo_F hR).2.2.2.2.2.1 (fun M5 r1 s1 G1 f2 e2 c2 a2 => ?_)⟩)⟩
  obtain ⟨rfl, h9⟩ := Prod.mk.inj (a1.trans a2.symm)
  obtain ⟨rfl, rfl⟩ := Prod.mk.inj h9
  exact ⟨fun _ => hk _ ⟨f2.1 (f1.1 hL), k, q, A, S, O, Nm, t, T, o, G, _, f, pl, CH_h f2 hi_F (CH_F f1 e1 c1 hC), RH_F f2 e2 c2 (RH_l f1 lo_F hR), hP⟩, fun z => absurd rfl z⟩
theorem lw_18 {sl : Nat} {sx : Nat → Int32} {k18 : Option Nat → Option Nat → Int32 → MM → Prop} {l3 : Int32} {M : MM} (hv : VP8 l3 sl) (hI : INV M) (hk : ∀ M', INV M' → k18 (some 0) (some 203) (l3 + 9) M') : wL_1020 sl sx k18 (some 0) (some 203) l3 M := by
  obtain ⟨v1, v2, v3, v4, v5, v6, v7, v8⟩ := hv
  have hI0 := hI
  obtain ⟨hL, k, q, A, S, O, Nm, t, T, o, F, st, f, pl, hC, hR, hP⟩ := hI
  refine ⟨v1, v2, v3, 0, rfl, kd_0 hL, w105_q hL hC.1.1 hC.2.2.2.1 (fun M2 r s G f1 e1 c1 a1 => ⟨v1, v2, v3, 203, rfl, kd_203 (f1.1 hL), w244_q (f1.1 hL) (RH_l f1 lo_F hR).1.1 (RH_l f1 lo_F hR).2.2.2.2.2.1 (fun M5 r1 s1 G1 f2 e2 c2 a2 => ?_)⟩)⟩
  obtain ⟨rfl, rfl, rfl⟩ := shoR_u a1 a2
  exact ⟨fun _ => hk _ ⟨f2.1 (f1.1 hL), k, q, A, S, O, Nm, t, T, o, G, _, f, pl, CH_h f2 hi_F (CH_F f1 e1 c1 hC), RH_F f2 e2 c2 (RH_l f1 lo_F hR), hP⟩, fun z => absurd rfl z⟩
theorem lw_20 {sl : Nat} {sx : Nat → Int32} {k18 : Option Nat → Option Nat → Int32 → MM → Prop} {l3 : Int32} {M : MM} (hv : VP8 l3 sl) (hI : INV M) (hk : ∀ M', INV M' → k18 (some 0) (some 203) (l3 + 9) M') : wL_1106 sl sx k18 (some 0) (some 203) l3 M := by
  obtain ⟨v1, v2, v3, v4, v5, v6, v7, v8⟩ := hv
  have hI0 := hI
  obtain ⟨hL, k, q, A, S, O, Nm, t, T, o, F, st, f, pl, hC, hR, hP⟩ := hI
  refine ⟨v1, v2, v3, 0, rfl, kd_0 hL, w115_q hL hC.1.1 hC.2.2.2.1 (fun M2 r s G f1 e1 c1 a1 => ⟨v1, v2, v3, 203, rfl, kd_203 (f1.1 hL), w251_q (f1.1 hL) (RH_l f1 lo_F hR).1.1 (RH_l f1 lo_F hR).2.2.2.2.2.1 (fun M5 r1 s1 G1 f2 e2 c2 a2 => ?_)⟩)⟩
  obtain ⟨rfl, rfl, rfl⟩ := ciR_u a1 a2
  exact ⟨fun _ => hk _ ⟨f2.1 (f1.1 hL), k, q, A, S, O, Nm, t, T, o, G, _, f, pl, CH_h f2 hi_F (CH_F f1 e1 c1 hC), RH_F f2 e2 c2 (RH_l f1 lo_F hR), hP⟩, fun z => absurd rfl z⟩
theorem lw_26 {sl : Nat} {sx : Nat → Int32} {k18 : Option Nat → Option Nat → Int32 → MM → Prop} {l3 : Int32} {M : MM} (hv : VP8 l3 sl) (hI : INV M) (hk : ∀ M', INV M' → k18 (some 0) (some 203) (l3 + 9) M') : wL_1458 sl sx k18 (some 0) (some 203) l3 M := by
  obtain ⟨v1, v2, v3, v4, v5, v6, v7, v8⟩ := hv
  have hI0 := hI
  obtain ⟨hL, k, q, A, S, O, Nm, t, T, o, F, st, f, pl, hC, hR, hP⟩ := hI
  refine ⟨v1, v2, 0, rfl, kd_0 hL, w126_q hL hC.1.1 hC.2.2.2.1 (fun M2 r s G f1 e1 c1 a1 => ⟨v1, v2, 203, rfl, kd_203 (f1.1 hL), w262_q (f1.1 hL) (RH_l f1 lo_F hR).1.1 (RH_l f1 lo_F hR).2.2.2.2.2.1 (fun M5 r1 s1 G1 f2 e2 c2 a2 => ?_)⟩)⟩
  obtain ⟨rfl, h9⟩ := Prod.mk.inj (a1.trans a2.symm)
  obtain ⟨rfl, rfl⟩ := Prod.mk.inj h9
  exact ⟨fun _ => hk _ ⟨f2.1 (f1.1 hL), k, q, A, S, O, Nm, t, T, o, G, _, f, pl, CH_h f2 hi_F (CH_F f1 e1 c1 hC), RH_F f2 e2 c2 (RH_l f1 lo_F hR), hP⟩, fun z => absurd rfl z⟩
theorem lw_27 {sl : Nat} {sx : Nat → Int32} {k18 : Option Nat → Option Nat → Int32 → MM → Prop} {l3 : Int32} {M : MM} (hv : VP8 l3 sl) (hI : INV M) (hk : ∀ M', INV M' → k18 (some 0) (some 203) (l3 + 9) M') : wL_1491 sl sx k18 (some 0) (some 203) l3 M := by
  obtain ⟨v1, v2, v3, v4, v5, v6, v7, v8⟩ := hv
  have hI0 := hI
  obtain ⟨hL, k, q, A, S, O, Nm, t, T, o, F, st, f, pl, hC, hR, hP⟩ := hI
  refine ⟨v1, v2, 0, rfl, kd_0 hL, w127_q hL hC.1.1 hC.2.2.2.1 (fun M2 r s G f1 e1 c1 a1 => ⟨v1, v2, 203, rfl, kd_203 (f1.1 hL), w263_q (f1.1 hL) (RH_l f1 lo_F hR).1.1 (RH_l f1 lo_F hR).2.2.2.2.2.1 (fun M5 r1 s1 G1 f2 e2 c2 a2 => ?_)⟩)⟩
  obtain ⟨rfl, h9⟩ := Prod.mk.inj (a1.trans a2.symm)
  obtain ⟨rfl, rfl⟩ := Prod.mk.inj h9
  exact ⟨fun _ => hk _ ⟨f2.1 (f1.1 hL), k, q, A, S, O, Nm, t, T, o, G, _, f, pl, CH_h f2 hi_F (CH_F f1 e1 c1 hC), RH_F f2 e2 c2 (RH_l f1 lo_F hR), hP⟩, fun z => absurd rfl z⟩
theorem lw_32 {sl : Nat} {sx : Nat → Int32} {k18 : Option Nat → Option Nat → Int32 → MM → Prop} {l3 : Int32} {M : MM} (hv : VP8 l3 sl) (hI : INV M) (hk : ∀ M', INV M' → k18 (some 0) (some 203) (l3 + 9) M') : wL_1656 sl sx k18 (some 0) (some 203) l3 M := by
  obtain ⟨v1, v2, v3, v4, v5, v6, v7, v8⟩ := hv
  have hI0 := hI
  obtain ⟨hL, k, q, A, S, O, Nm, t, T, o, F, st, f, pl, hC, hR, hP⟩ := hI
  refine ⟨v1, v2, v3, 0, rfl, kd_0 hL, w141_q hL hC.1.1 hC.2.2.2.1 (fun M2 r s G f1 e1 c1 a1 => ⟨v1, v2, v3, 203, rfl, kd_203 (f1.1 hL), w274_q (f1.1 hL) (RH_l f1 lo_F hR).1.1 (RH_l f1 lo_F hR).2.2.2.2.2.1 (fun M5 r1 s1 G1 f2 e2 c2 a2 => ?_)⟩)⟩
  obtain ⟨rfl, h9⟩ := Prod.mk.inj (a1.trans a2.symm)
  obtain ⟨rfl, rfl⟩ := Prod.mk.inj h9
  exact ⟨fun _ => hk _ ⟨f2.1 (f1.1 hL), k, q, A, S, O, Nm, t, T, o, G, _, f, pl, CH_h f2 hi_F (CH_F f1 e1 c1 hC), RH_F f2 e2 c2 (RH_l f1 lo_F hR), hP⟩, fun z => absurd rfl z⟩
theorem lw_33 {sl : Nat} {sx : Nat → Int32} {k18 : Option Nat → Option Nat → Int32 → MM → Prop} {l3 : Int32} {M : MM} (hv : VP8 l3 sl) (hI : INV M) (hk : ∀ M', INV M' → k18 (some 0) (some 203) (l3 + 9) M') : wL_1699 sl sx k18 (some 0) (some 203) l3 M := by
  obtain ⟨v1, v2, v3, v4, v5, v6, v7, v8⟩ := hv
  have hI0 := hI
  obtain ⟨hL, k, q, A, S, O, Nm, t, T, o, F, st, f, pl, hC, hR, hP⟩ := hI
  refine ⟨v1, v2, v3, 0, rfl, kd_0 hL, w143_q hL hC.1.1 hC.2.2.2.1 (fun M2 r s G f1 e1 c1 a1 => ⟨v1, v2, v3, 203, rfl, kd_203 (f1.1 hL), w276_q (f1.1 hL) (RH_l f1 lo_F hR).1.1 (RH_l f1 lo_F hR).2.2.2.2.2.1 (fun M5 r1 s1 G1 f2 e2 c2 a2 => ?_)⟩)⟩
  obtain ⟨rfl, h9⟩ := Prod.mk.inj (a1.trans a2.symm)
  obtain ⟨rfl, rfl⟩ := Prod.mk.inj h9
  exact ⟨fun _ => hk _ ⟨f2.1 (f1.1 hL), k, q, A, S, O, Nm, t, T, o, G, _, f, pl, CH_h f2 hi_F (CH_F f1 e1 c1 hC), RH_F f2 e2 c2 (RH_l f1 lo_F hR), hP⟩, fun z => absurd rfl z⟩
theorem lw_36 {sl : Nat} {sx : Nat → Int32} {k18 : Option Nat → Option Nat → Int32 → MM → Prop} {l3 : Int32} {M : MM} (hv : VP8 l3 sl) (hI : INV M) (hk : ∀ M', INV M' → k18 (some 0) (some 203) (l3 + 9) M') : wL_1778 sl sx k18 (some 0) (some 203) l3 M := by
  obtain ⟨v1, v2, v3, v4, v5, v6, v7, v8⟩ := hv
  have hI0 := hI
  obtain ⟨hL, k, q, A, S, O, Nm, t, T, o, F, st, f, pl, hC, hR, hP⟩ := hI
  refine ⟨v1, v2, v3, v4, 0, rfl, kd_0 hL, w150_q hL hC.1 (fun M2 x r s q1 f1 e1 a1 c1 => ⟨v1, v2, v3, v4, 203, rfl, kd_203 (f1.1 hL), w283_q (f1.1 hL) (RH_l f1 lo_A hR).1 (fun M5 x1 r1 s1 f2 e2 a2 c2 => ?_)⟩)⟩
  obtain ⟨rfl, h9⟩ := Prod.mk.inj (a1.trans a2.symm)
  obtain ⟨rfl, rfl⟩ := Prod.mk.inj h9
  exact ⟨fun _ => hk _ ⟨f2.1 (f1.1 hL), k, q1, acA x A, acS x S, acO x O, Nm, t, T, o, F, _, f, pl, CH_h f2 hi_A (CH_A f1 e1 c1 hC), RH_A f2 e2 c2 (RH_l f1 lo_A hR), hP⟩, fun z => absurd rfl z⟩
theorem lw_37 {sl : Nat} {sx : Nat → Int32} {k18 : Option Nat → Option Nat → Int32 → MM → Prop} {l3 : Int32} {M : MM} (hv : VP8 l3 sl) (hI : INV M) (hk : ∀ M', INV M' → k18 (some 0) (some 203) (l3 + 9) M') : wL_1831 sl sx k18 (some 0) (some 203) l3 M := by
  obtain ⟨v1, v2, v3, v4, v5, v6, v7, v8⟩ := hv
  have hI0 := hI
  obtain ⟨hL, k, q, A, S, O, Nm, t, T, o, F, st, f, pl, hC, hR, hP⟩ := hI
  refine ⟨v1, v2, v3, v4, 0, rfl, kd_0 hL, w153_q hL hC.1 (fun M2 x r s q1 f1 e1 a1 c1 => ⟨v1, v2, v3, v4, 203, rfl, kd_203 (f1.1 hL), w287_q (f1.1 hL) (RH_l f1 lo_A hR).1 (fun M5 x1 r1 s1 f2 e2 a2 c2 => ?_)⟩)⟩
  obtain ⟨rfl, h9⟩ := Prod.mk.inj (a1.trans a2.symm)
  obtain ⟨rfl, rfl⟩ := Prod.mk.inj h9
  exact ⟨fun _ => hk _ ⟨f2.1 (f1.1 hL), k, q1, acA x A, acS x S, acO x O, Nm, t, T, o, F, _, f, pl, CH_h f2 hi_A (CH_A f1 e1 c1 hC), RH_A f2 e2 c2 (RH_l f1 lo_A hR), hP⟩, fun z => absurd rfl z⟩
theorem lw_38 {sl : Nat} {sx : Nat → Int32} {k18 : Option Nat → Option Nat → Int32 → MM → Prop} {l3 : Int32} {M : MM} (hv : VP8 l3 sl) (hI : INV M) (hk : ∀ M', INV M' → k18 (some 0) (some 203) (l3 + 9) M') : wL_1884 sl sx k18 (some 0) (some 203) l3 M := by
  obtain ⟨v1, v2, v3, v4, v5, v6, v7, v8⟩ := hv
  have hI0 := hI
  obtain ⟨hL, k, q, A, S, O, Nm, t, T, o, F, st, f, pl, hC, hR, hP⟩ := hI
  refine ⟨v1, v2, 0, rfl, kd_0 hL, w155_q hL hC.1 (fun M2 x r s q1 f1 e1 a1 c1 => ⟨v1, v2, 203, rfl, kd_203 (f1.1 hL), w288_q (f1.1 hL) (RH_l f1 lo_A hR).1 (fun M5 x1 r1 s1 f2 e2 a2 c2 => ?_)⟩)⟩
  obtain ⟨rfl, h9⟩ := Prod.mk.inj (a1.trans a2.symm)
  obtain ⟨rfl, rfl⟩ := Prod.mk.inj h9
  exact ⟨fun _ => hk _ ⟨f2.1 (f1.1 hL), k, q1, acA x A, acS x S, acO x O, Nm, t, T, o, F, _, f, pl, CH_h f2 hi_A (CH_A f1 e1 c1 hC), RH_A f2 e2 c2 (RH_l f1 lo_A hR), hP⟩, fun z => absurd rfl z⟩
theorem lw_39 {sl : Nat} {sx : Nat → Int32} {k18 : Option Nat → Option Nat → Int32 → MM → Prop} {l3 : Int32} {M : MM} (hv : VP8 l3 sl) (hI : INV M) (hk : ∀ M', INV M' → k18 (some 0) (some 203) (l3 + 9) M') : wL_1917 sl sx k18 (some 0) (some 203) l3 M := by
  obtain ⟨v1, v2, v3, v4, v5, v6, v7, v8⟩ := hv
  have hI0 := hI
  obtain ⟨hL, k, q, A, S, O, Nm, t, T, o, F, st, f, pl, hC, hR, hP⟩ := hI
  refine ⟨v1, 0, rfl, kd_0 hL, w156_q hL hC.1 (fun M2 x r s q1 f1 e1 a1 c1 => ⟨v1, 203, rfl, kd_203 (f1.1 hL), w289_q (f1.1 hL) (RH_l f1 lo_A hR).1 (fun M5 x1 r1 s1 f2 e2 a2 c2 => ?_)⟩)⟩
  obtain ⟨rfl, h9⟩ := Prod.mk.inj (a1.trans a2.symm)
  obtain ⟨rfl, rfl⟩ := Prod.mk.inj h9
  exact ⟨fun _ => hk _ ⟨f2.1 (f1.1 hL), k, q1, acA x A, acS x S, acO x O, Nm, t, T, o, F, _, f, pl, CH_h f2 hi_A (CH_A f1 e1 c1 hC), RH_A f2 e2 c2 (RH_l f1 lo_A hR), hP⟩, fun z => absurd rfl z⟩
theorem lw_14 {sl : Nat} {sx : Nat → Int32} {k18 : Option Nat → Option Nat → Int32 → MM → Prop} {l3 : Int32} {M : MM} (hv : VP8 l3 sl) (hI : INV M) (hk : ∀ M', INV M' → k18 (some 0) (some 203) (l3 + 9) M') : wL_676 sl sx k18 (some 0) (some 203) l3 M := by
  obtain ⟨v1, v2, v3, v4, v5, v6, v7, v8⟩ := hv
  have hI0 := hI
  obtain ⟨hL, k, q, A, S, O, Nm, t, T, o, F, st, f, pl, hC, hR, hP⟩ := hI
  have go : ∀ b : Int32, (b = 0 ∨ b = 1) → ((sx (l3 + (3 : Int32)).toNatClampNeg) = 0 → b = 0) → (¬ (sx (l3 + (3 : Int32)).toNatClampNeg) = 0 → b = 1) → wL_700 sl sx k18 (some 0) (some 203) l3 (some 0) (sx (l3 + (1 : Int32)).toNatClampNeg) (sx (l3 + (2 : Int32)).toNatClampNeg) b M := fun b hb z1 z2 => by
    refine ⟨v4, v5, v6, v7, v8, 0, rfl, kd_0 hL, w73_q hL hC.1.1 (fun M2 r s f1 e1 a1 => ?_)⟩
    have go2 : wL_755 sl sx k18 (some 0) (some 203) l3 r (some 203) (sx (l3 + (1 : Int32)).toNatClampNeg) (sx (l3 + (2 : Int32)).toNatClampNeg) b M2 := by
      refine ⟨v4, v5, v6, v7, v8, 203, rfl, kd_203 (f1.1 hL), w208_b hb (f1.1 hL) (RH_l f1 lo_Q hR).1.1 (fun M5 r1 s1 f2 e2 a2 => ?_)⟩
      obtain ⟨rfl, rfl⟩ := Prod.mk.inj (a1.trans a2.symm)
      exact ⟨fun _ => hk _ ⟨f2.1 (f1.1 hL), k, q, A, S, O, Nm, t, T, o, F, _, f, pl, CH_h f2 hi_Q (CH_Q f1 e1 hC), RH_Q f2 e2 (RH_l f1 lo_Q hR), hP⟩, fun z => absurd rfl z⟩
    refine ⟨v1, v2, v3, fun y => ?_, fun y => ?_⟩
    · rw [z1 y] at go2; exact go2
    · rw [z2 y] at go2; exact go2
  exact ⟨v1, v2, v3, fun z => go 0 (Or.inl rfl) (fun _ => rfl) (fun y => absurd z y), fun z => go 1 (Or.inr rfl) (fun y => absurd y z) (fun _ => rfl)⟩
theorem lw_15 {sl : Nat} {sx : Nat → Int32} {k18 : Option Nat → Option Nat → Int32 → MM → Prop} {l3 : Int32} {M : MM} (hv : VP8 l3 sl) (hI : INV M) (hk : ∀ M', INV M' → k18 (some 0) (some 203) (l3 + 9) M') : wL_791 sl sx k18 (some 0) (some 203) l3 M := by
  obtain ⟨v1, v2, v3, v4, v5, v6, v7, v8⟩ := hv
  have hI0 := hI
  obtain ⟨hL, k, q, A, S, O, Nm, t, T, o, F, st, f, pl, hC, hR, hP⟩ := hI
  have go : ∀ b : Int32, (b = 0 ∨ b = 1) → ((sx (l3 + (3 : Int32)).toNatClampNeg) = 0 → b = 0) → (¬ (sx (l3 + (3 : Int32)).toNatClampNeg) = 0 → b = 1) → wL_815 sl sx k18 (some 0) (some 203) l3 (some 0) (sx (l3 + (1 : Int32)).toNatClampNeg) (sx (l3 + (2 : Int32)).toNatClampNeg) b M := fun b hb z1 z2 => by
    refine ⟨v4, v5, v6, v7, 0, rfl, kd_0 hL, w90_q hL hC.1.1 (fun M2 r s f1 e1 a1 => ?_)⟩
    have go2 : wL_864 sl sx k18 (some 0) (some 203) l3 r (some 203) (sx (l3 + (1 : Int32)).toNatClampNeg) (sx (l3 + (2 : Int32)).toNatClampNeg) b M2 := by
      refine ⟨v4, v5, v6, v7, 203, rfl, kd_203 (f1.1 hL), w229_b hb (f1.1 hL) (RH_l f1 lo_Q hR).1.1 (fun M5 r1 s1 f2 e2 a2 => ?_)⟩
      obtain ⟨rfl, rfl⟩ := Prod.mk.inj (a1.trans a2.symm)
      exact ⟨fun _ => hk _ ⟨f2.1 (f1.1 hL), k, q, A, S, O, Nm, t, T, o, F, _, f, pl, CH_h f2 hi_Q (CH_Q f1 e1 hC), RH_Q f2 e2 (RH_l f1 lo_Q hR), hP⟩, fun z => absurd rfl z⟩
    refine ⟨v1, v2, v3, fun y => ?_, fun y => ?_⟩
    · rw [z1 y] at go2; exact go2
    · rw [z2 y] at go2; exact go2
  exact ⟨v1, v2, v3, fun z => go 0 (Or.inl rfl) (fun _ => rfl) (fun y => absurd z y), fun z => go 1 (Or.inr rfl) (fun y => absurd y z) (fun _ => rfl)⟩
theorem lw_21 {sl : Nat} {sx : Nat → Int32} {k18 : Option Nat → Option Nat → Int32 → MM → Prop} {l3 : Int32} {M : MM} (hv : VP8 l3 sl) (hI : INV M) (hk : ∀ M', INV M' → k18 (some 0) (some 203) (l3 + 9) M') : wL_1149 sl sx k18 (some 0) (some 203) l3 M := by
  obtain ⟨v1, v2, v3, v4, v5, v6, v7, v8⟩ := hv
  have hI0 := hI
  obtain ⟨hL, k, q, A, S, O, Nm, t, T, o, F, st, f, pl, hC, hR, hP⟩ := hI
  have go : ∀ b : Int32, (b = 0 ∨ b = 1) → ((sx (l3 + (6 : Int32)).toNatClampNeg) = 0 → b = 0) → (¬ (sx (l3 + (6 : Int32)).toNatClampNeg) = 0 → b = 1) → wL_1189 sl sx k18 (some 0) (some 203) l3 (some 0) (sx (l3 + (1 : Int32)).toNatClampNeg) (sx (l3 + (2 : Int32)).toNatClampNeg) (sx (l3 + (3 : Int32)).toNatClampNeg) (sx (l3 + (4 : Int32)).toNatClampNeg) (sx (l3 + (5 : Int32)).toNatClampNeg) b M := fun b hb z1 z2 => by
    refine ⟨0, rfl, kd_0 hL, w116_q hL hC.1.1 (fun M2 r s f1 e1 a1 => ?_)⟩
    have go2 : wL_1232 sl sx k18 (some 0) (some 203) l3 r (some 203) (sx (l3 + (1 : Int32)).toNatClampNeg) (sx (l3 + (2 : Int32)).toNatClampNeg) (sx (l3 + (3 : Int32)).toNatClampNeg) (sx (l3 + (4 : Int32)).toNatClampNeg) (sx (l3 + (5 : Int32)).toNatClampNeg) b M2 := by
      refine ⟨203, rfl, kd_203 (f1.1 hL), w252_q (f1.1 hL) (RH_l f1 lo_Q hR).1.1 (fun M5 r1 s1 f2 e2 a2 => ?_)⟩
      obtain ⟨rfl, rfl⟩ := Prod.mk.inj (a1.trans a2.symm)
      exact ⟨fun _ => hk _ ⟨f2.1 (f1.1 hL), k, q, A, S, O, Nm, t, T, o, F, _, f, pl, CH_h f2 hi_Q (CH_Q f1 e1 hC), RH_Q f2 e2 (RH_l f1 lo_Q hR), hP⟩, fun z => absurd rfl z⟩
    refine ⟨v1, v2, v3, v4, v5, v6, fun y => ?_, fun y => ?_⟩
    · rw [z1 y] at go2; exact go2
    · rw [z2 y] at go2; exact go2
  exact ⟨v1, v2, v3, v4, v5, v6, fun z => go 0 (Or.inl rfl) (fun _ => rfl) (fun y => absurd z y), fun z => go 1 (Or.inr rfl) (fun y => absurd y z) (fun _ => rfl)⟩
theorem lw_22 {sl : Nat} {sx : Nat → Int32} {k18 : Option Nat → Option Nat → Int32 → MM → Prop} {l3 : Int32} {M : MM} (hv : VP8 l3 sl) (hI : INV M) (hk : ∀ M', INV M' → k18 (some 0) (some 203) (l3 + 9) M') : wL_1240 sl sx k18 (some 0) (some 203) l3 M := by
  obtain ⟨v1, v2, v3, v4, v5, v6, v7, v8⟩ := hv
  have hI0 := hI
  obtain ⟨hL, k, q, A, S, O, Nm, t, T, o, F, st, f, pl, hC, hR, hP⟩ := hI
  have go : ∀ b : Int32, (b = 0 ∨ b = 1) → ((sx (l3 + (4 : Int32)).toNatClampNeg) = 0 → b = 0) → (¬ (sx (l3 + (4 : Int32)).toNatClampNeg) = 0 → b = 1) → wL_1269 sl sx k18 (some 0) (some 203) l3 (some 0) (sx (l3 + (1 : Int32)).toNatClampNeg) (sx (l3 + (2 : Int32)).toNatClampNeg) (sx (l3 + (3 : Int32)).toNatClampNeg) b M := fun b hb z1 z2 => by
    refine ⟨0, rfl, kd_0 hL, w118_q hL hC.1.1 (fun M2 r s f1 e1 a1 => ?_)⟩
    have go2 : wL_1301 sl sx k18 (some 0) (some 203) l3 r (some 203) (sx (l3 + (1 : Int32)).toNatClampNeg) (sx (l3 + (2 : Int32)).toNatClampNeg) (sx (l3 + (3 : Int32)).toNatClampNeg) b M2 := by
      refine ⟨203, rfl, kd_203 (f1.1 hL), w255_q (f1.1 hL) (RH_l f1 lo_Q hR).1.1 (fun M5 r1 s1 f2 e2 a2 => ?_)⟩
      obtain ⟨rfl, rfl⟩ := Prod.mk.inj (a1.trans a2.symm)
      exact ⟨fun _ => hk _ ⟨f2.1 (f1.1 hL), k, q, A, S, O, Nm, t, T, o, F, _, f, pl, CH_h f2 hi_Q (CH_Q f1 e1 hC), RH_Q f2 e2 (RH_l f1 lo_Q hR), hP⟩, fun z => absurd rfl z⟩
    refine ⟨v1, v2, v3, v4, fun y => ?_, fun y => ?_⟩
    · rw [z1 y] at go2; exact go2
    · rw [z2 y] at go2; exact go2
  exact ⟨v1, v2, v3, v4, fun z => go 0 (Or.inl rfl) (fun _ => rfl) (fun y => absurd z y), fun z => go 1 (Or.inr rfl) (fun y => absurd y z) (fun _ => rfl)⟩
