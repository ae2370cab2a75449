/-! ===== printed by program: what must hold that a call ends with what is asked ===== -/
-- TwoLeash.low(IIZIIII)I
abbrev q90 : MQ7 := (8, 1, 9, 9, 0, 0, 1)
abbrev R90 (sl : Nat) (sx : Nat → Int32) (d : Nat) (M0 : MM) (P : Int32 → MM → Prop) : Nat → LL → List VV → MM → Prop := RN 9 false (mS M0).length (mT M0) 0 0 sl sx (callX TBg sl sx (d + 6)) (rtW q90 M0 (PI P)) (as2 tb90)
def w90 (l0 : Nat) (l1 : Int32) (l2 : Int32) (l3 : Int32) (l4 : Int32) (l5 : Int32) (l6 : Int32) (l7 : Int32) (M : MM) (P : Int32 → MM → Prop) : Prop := w74 l6 l7 M (fun r2 M1 => kd M1 l0 9 ∧ w75 l0 r2 l1 l2 l3 l4 l5 M1 (fun r4 M3 => kd M3 l0 9 ∧ (kd (sI M3 l0 10 r4) l0 9 ∧ (((mI (sI M3 l0 10 r4) l0 10) = 0 → (kd (sI M3 l0 10 r4) l0 9 ∧ w76 l0 l1 l2 l3 l4 l5 l6 l7 (sI M3 l0 10 r4) (fun r6 M5 => ∃ a7, r6 = some a7 ∧ (kd M5 a7 7 ∧ ((¬ (mR M5 a7 10) = none → (∃ a8, mR M5 a7 10 = some a8 ∧ (kd M5 a8 7 ∧ w87 a8 M5 (fun r10 M9 => kd M9 l0 9 ∧ w35 l0 r10 M9 (fun r12 M11 => P r12 M11))))) ∧ ((mR M5 a7 10) = none → (kd M5 l0 9 ∧ w17 l0 (5 : Int32) M5 (fun r14 M13 => P r14 M13)))))))) ∧ (¬ ((mI (sI M3 l0 10 r4) l0 10) = 0) → (P (-1 : Int32) (sI M3 l0 10 r4)))))))
theorem t90_E {sl : Nat} {sx : Nat → Int32} {d : Nat} {M0 : MM} {P : Int32 → MM → Prop} (l0 : Nat) (l1 : Int32) (l2 : Int32) (l3 : Int32) (l4 : Int32) (l5 : Int32) (l6 : Int32) (l7 : Int32) (M : MM) (hM : lenO M0 M) (h : w90  l0 l1 l2 l3 l4 l5 l6 l7 M P) : R90 sl sx d M0 P 0 [some (vR (some l0)), some (vI l1), some (vI l2), some (vI l3), some (vI l4), some (vI l5), some (vI l6), some (vI l7), none] [] M := by
  refine RN_k (callX_det _) 5 _ _ _ _ (show callX TBg sl sx (d + 6) 74 [vI l6, vI l7] M (fun v M9 => R90 sl sx d M0 P 9 [some (vR (some l0)), some (vI l1), some (vI l2), some (vI l3), some (vI l4), some (vI l5), some (vI l6), some (vI l7), none] (pushO v [vR (some l0), vR (some l0)]) M9) from ?_)
  refine callX_mono (callX_len (d := (d + 6)) rfl rfl rfl (c74 (d := d + 5) h)) ?_
  clear h
  rintro v9 M1 ⟨hl, r2, rfl, h⟩
  replace hM := lenT hM hl
  show R90 sl sx d M0 P 9 [some (vR (some l0)), some (vI l1), some (vI l2), some (vI l3), some (vI l4), some (vI l5), some (vI l6), some (vI l7), none] [vI r2, vR (some l0), vR (some l0)] M1
  refine RN_k (callX_det _) 6 _ _ _ _ (show kd M1 l0 9 ∧ callX TBg sl sx (d + 6) 75 [vR (some l0), vI r2, vI l1, vI l2, vI l3, vI l4, vI l5] M1 (fun v M9 => R90 sl sx d M0 P 19 [some (vR (some l0)), some (vI l1), some (vI l2), some (vI l3), some (vI l4), some (vI l5), some (vI l6), some (vI l7), none] (pushO v [vR (some l0)]) M9) from ⟨h.1, ?_⟩)
  replace h := h.2
  refine callX_mono (callX_len (d := (d + 6)) rfl rfl rfl (c75 (d := d + 3) h)) ?_
  clear h
  rintro v9 M3 ⟨hl, r4, rfl, h⟩
  replace hM := lenT hM hl
  show R90 sl sx d M0 P 19 [some (vR (some l0)), some (vI l1), some (vI l2), some (vI l3), some (vI l4), some (vI l5), some (vI l6), some (vI l7), none] [vI r4, vR (some l0)] M3
  refine RN_k (callX_det _) 1 _ _ _ _ (show kd M3 l0 9 ∧ R90 sl sx d M0 P 22 [some (vR (some l0)), some (vI l1), some (vI l2), some (vI l3), some (vI l4), some (vI l5), some (vI l6), some (vI l7), none] [] (sI M3 l0 10 r4) from ⟨h.1, ?_⟩)
  replace h := h.2
  refine RN_k (callX_det _) 2 _ _ _ _ (show kd (sI M3 l0 10 r4) l0 9 ∧ R90 sl sx d M0 P 26 [some (vR (some l0)), some (vI l1), some (vI l2), some (vI l3), some (vI l4), some (vI l5), some (vI l6), some (vI l7), none] [vI (mI (sI M3 l0 10 r4) l0 10)] (sI M3 l0 10 r4) from ⟨h.1, ?_⟩)
  replace h := h.2
  refine RN_k (callX_det _) 1 _ _ _ _ (show ((mI (sI M3 l0 10 r4) l0 10) = 0 → R90 sl sx d M0 P 31 [some (vR (some l0)), some (vI l1), some (vI l2), some (vI l3), some (vI l4), some (vI l5), some (vI l6), some (vI l7), none] [] (sI M3 l0 10 r4)) ∧ (¬ ((mI (sI M3 l0 10 r4) l0 10) = 0) → R90 sl sx d M0 P 29 [some (vR (some l0)), some (vI l1), some (vI l2), some (vI l3), some (vI l4), some (vI l5), some (vI l6), some (vI l7), none] [] (sI M3 l0 10 r4)) from ⟨fun hc => ?_, fun hc => ?_⟩)
  · replace h := h.1 hc
    refine RN_k (callX_det _) 9 _ _ _ _ (show kd (sI M3 l0 10 r4) l0 9 ∧ callX TBg sl sx (d + 6) 76 [vR (some l0), vI l1, vI l2, vI l3, vI l4, vI l5, vI l6, vI l7] (sI M3 l0 10 r4) (fun v M9 => R90 sl sx d M0 P 46 [some (vR (some l0)), some (vI l1), some (vI l2), some (vI l3), some (vI l4), some (vI l5), some (vI l6), some (vI l7), none] (pushO v []) M9) from ⟨h.1, ?_⟩)
    replace h := h.2
    refine callX_mono (callX_len (d := (d + 6)) rfl rfl rfl (c76 (d := d) h)) ?_
    clear h
    rintro v9 M5 ⟨hl, r6, rfl, h⟩
    replace hM := lenT hM hl
    show R90 sl sx d M0 P 46 [some (vR (some l0)), some (vI l1), some (vI l2), some (vI l3), some (vI l4), some (vI l5), some (vI l6), some (vI l7), none] [vR r6] M5
    obtain ⟨a7, he, h⟩ := h
    subst he
    refine RN_k (callX_det _) 1 _ _ _ _ (show kd M5 a7 7 ∧ R90 sl sx d M0 P 49 [some (vR (some l0)), some (vI l1), some (vI l2), some (vI l3), some (vI l4), some (vI l5), some (vI l6), some (vI l7), none] [vR (mR M5 a7 10)] M5 from ⟨h.1, ?_⟩)
    replace h := h.2
    refine RN_k (callX_det _) 3 _ _ _ _ (show (¬ (mR M5 a7 10) = none → R90 sl sx d M0 P 62 [some (vR (some l0)), some (vI l1), some (vI l2), some (vI l3), some (vI l4), some (vI l5), some (vI l6), some (vI l7), some (vR (mR M5 a7 10))] [] M5) ∧ ((mR M5 a7 10) = none → R90 sl sx d M0 P 56 [some (vR (some l0)), some (vI l1), some (vI l2), some (vI l3), some (vI l4), some (vI l5), some (vI l6), some (vI l7), some (vR (mR M5 a7 10))] [] M5) from ⟨fun hc => ?_, fun hc => ?_⟩)
    · replace h := h.1 hc
      obtain ⟨a8, he, h⟩ := h
      refine RN_k (callX_det _) 2 _ _ _ _ (show R90 sl sx d M0 P 65 [some (vR (some l0)), some (vI l1), some (vI l2), some (vI l3), some (vI l4), some (vI l5), some (vI l6), some (vI l7), some (vR (mR M5 a7 10))] [vR (mR M5 a7 10), vR (some l0)] M5 from ?_)
      rw [he]
      refine RN_k (callX_det _) 1 _ _ _ _ (show kd M5 a8 7 ∧ callX TBg sl sx (d + 6) 87 [vR (some a8)] M5 (fun v M9 => R90 sl sx d M0 P 68 [some (vR (some l0)), some (vI l1), some (vI l2), some (vI l3), some (vI l4), some (vI l5), some (vI l6), some (vI l7), some (vR (some a8))] (pushO v [vR (some l0)]) M9) from ⟨h.1, ?_⟩)
      replace h := h.2
      refine callX_mono (callX_len (d := (d + 6)) rfl rfl rfl (c87 (d := d + 3) h)) ?_
      clear h
      rintro v9 M9 ⟨hl, r10, rfl, h⟩
      replace hM := lenT hM hl
      show R90 sl sx d M0 P 68 [some (vR (some l0)), some (vI l1), some (vI l2), some (vI l3), some (vI l4), some (vI l5), some (vI l6), some (vI l7), some (vR (some a8))] [vI r10, vR (some l0)] M9
      refine RN_k (callX_det _) 1 _ _ _ _ (show kd M9 l0 9 ∧ callX TBg sl sx (d + 6) 35 [vR (some l0), vI r10] M9 (fun v M9 => R90 sl sx d M0 P 71 [some (vR (some l0)), some (vI l1), some (vI l2), some (vI l3), some (vI l4), some (vI l5), some (vI l6), some (vI l7), some (vR (some a8))] (pushO v []) M9) from ⟨h.1, ?_⟩)
      replace h := h.2
      refine callX_mono (callX_len (d := (d + 6)) rfl rfl rfl (c35 (d := d + 5) h)) ?_
      clear h
      rintro v9 M11 ⟨hl, r12, rfl, h⟩
      replace hM := lenT hM hl
      show R90 sl sx d M0 P 71 [some (vR (some l0)), some (vI l1), some (vI l2), some (vI l3), some (vI l4), some (vI l5), some (vI l6), some (vI l7), some (vR (some a8))] [vI r12] M11
      exact RN_k (callX_det _) 1 _ _ _ _ (show rtW q90 M0 (PI P) (some (vI r12)) M11 from ⟨⟨_, rfl⟩, hM.1, hM.2, _, rfl, h⟩)
    · replace h := h.2 hc
      refine RN_k (callX_det _) 3 _ _ _ _ (show kd M5 l0 9 ∧ callX TBg sl sx (d + 6) 17 [vR (some l0), vI (5 : Int32)] M5 (fun v M9 => R90 sl sx d M0 P 61 [some (vR (some l0)), some (vI l1), some (vI l2), some (vI l3), some (vI l4), some (vI l5), some (vI l6), some (vI l7), some (vR (mR M5 a7 10))] (pushO v []) M9) from ⟨h.1, ?_⟩)
      replace h := h.2
      refine callX_mono (callX_len (d := (d + 6)) rfl rfl rfl (c17 (d := d + 5) h)) ?_
      clear h
      rintro v9 M13 ⟨hl, r14, rfl, h⟩
      replace hM := lenT hM hl
      show R90 sl sx d M0 P 61 [some (vR (some l0)), some (vI l1), some (vI l2), some (vI l3), some (vI l4), some (vI l5), some (vI l6), some (vI l7), some (vR (mR M5 a7 10))] [vI r14] M13
      exact RN_k (callX_det _) 1 _ _ _ _ (show rtW q90 M0 (PI P) (some (vI r14)) M13 from ⟨⟨_, rfl⟩, hM.1, hM.2, _, rfl, h⟩)
  · replace h := h.2 hc
    exact RN_k (callX_det _) 2 _ _ _ _ (show rtW q90 M0 (PI P) (some (vI (-1 : Int32))) (sI M3 l0 10 r4) from ⟨⟨_, rfl⟩, hM.1, hM.2, _, rfl, h⟩)
theorem c90 {sl : Nat} {sx : Nat → Int32} {d : Nat} {l0 : Nat} {l1 : Int32} {l2 : Int32} {l3 : Int32} {l4 : Int32} {l5 : Int32} {l6 : Int32} {l7 : Int32} {M : MM} {P : Int32 → MM → Prop} (h : w90 l0 l1 l2 l3 l4 l5 l6 l7 M P) : callX TBg sl sx (d + 7) 90 [vR (some l0), vI l1, vI l2, vI l3, vI l4, vI l5, vI l6, vI l7] M (PI P) :=
  cX (d := d + 6) q90 (false, tb90) rfl rfl rfl (t90_E l0 l1 l2 l3 l4 l5 l6 l7 M lenR h)
-- TwoLeash$Cells.countSides(I)I
abbrev q92 : MQ7 := (2, 1, 7, 1, 0, 0, 1)
abbrev R92 (sl : Nat) (sx : Nat → Int32) (d : Nat) (M0 : MM) (P : Int32 → MM → Prop) : Nat → LL → List VV → MM → Prop := RN 1 false (mS M0).length (mT M0) 0 0 sl sx (callX TBg sl sx (d + 1)) (rtW q92 M0 (PI P)) (as2 tb92)
def w92_99 (k4 : Nat → Int32 → Int32 → Int32 → MM → Prop) (k13 : Nat → Int32 → Int32 → Int32 → Int32 → MM → Prop) (l0 : Nat) (l1 : Int32) (l2 : Int32) (l3 : Int32) (l4 : Int32) (M : MM) (P : Int32 → MM → Prop) : Prop := k13 l0 l1 l2 l3 (l4 + (1 : Int32)) M
theorem t92_99 {sl : Nat} {sx : Nat → Int32} {d : Nat} {M0 : MM} {P : Int32 → MM → Prop} {k4 : Nat → Int32 → Int32 → Int32 → MM → Prop} {k13 : Nat → Int32 → Int32 → Int32 → Int32 → MM → Prop} (hk4 : ∀ (l0 : Nat) (l1 : Int32) (l2 : Int32) (l3 : Int32) (M : MM), lenO M0 M → k4 l0 l1 l2 l3 M → R92 sl sx d M0 P 4 [some (vR (some l0)), some (vI l1), some (vI l2), some (vI l3), none, none, none] [] M) (hk13 : ∀ (l0 : Nat) (l1 : Int32) (l2 : Int32) (l3 : Int32) (l4 : Int32) (M : MM), lenO M0 M → k13 l0 l1 l2 l3 l4 M → R92 sl sx d M0 P 13 [some (vR (some l0)), some (vI l1), some (vI l2), some (vI l3), some (vI l4), none, none] [] M) (l0 : Nat) (l1 : Int32) (l2 : Int32) (l3 : Int32) (l4 : Int32) (M : MM) (hM : lenO M0 M) (h : w92_99 k4 k13 l0 l1 l2 l3 l4 M P) : R92 sl sx d M0 P 99 [some (vR (some l0)), some (vI l1), some (vI l2), some (vI l3), some (vI l4), none, none] [] M := by
  refine RN_k (callX_det _) 2 _ _ _ _ (show R92 sl sx d M0 P 13 [some (vR (some l0)), some (vI l1), some (vI l2), some (vI l3), some (vI (l4 + (1 : Int32))), none, none] [] M from ?_)
  exact RN_weak (K := [some (vR (some l0)), some (vI l1), some (vI l2), some (vI l3), some (vI (l4 + (1 : Int32))), none, none]) (callX_det _) (show _ ∧ _ ∧ _ ∧ _ ∧ _ ∧ True from ⟨rfl, rfl, rfl, rfl, rfl, trivial⟩) (hk13 l0 l1 l2 l3 (l4 + (1 : Int32)) _ hM h)
def w92_96 (k4 : Nat → Int32 → Int32 → Int32 → MM → Prop) (k13 : Nat → Int32 → Int32 → Int32 → Int32 → MM → Prop) (l0 : Nat) (l1 : Int32) (l2 : Int32) (l3 : Int32) (l4 : Int32) (M : MM) (P : Int32 → MM → Prop) : Prop := w92_99 k4 k13 l0 l1 (l2 + (1 : Int32)) l3 l4 M P
theorem t92_96 {sl : Nat} {sx : Nat → Int32} {d : Nat} {M0 : MM} {P : Int32 → MM → Prop} {k4 : Nat → Int32 → Int32 → Int32 → MM → Prop} {k13 : Nat → Int32 → Int32 → Int32 → Int32 → MM → Prop} (hk4 : ∀ (l0 : Nat) (l1 : Int32) (l2 : Int32) (l3 : Int32) (M : MM), lenO M0 M → k4 l0 l1 l2 l3 M → R92 sl sx d M0 P 4 [some (vR (some l0)), some (vI l1), some (vI l2), some (vI l3), none, none, none] [] M) (hk13 : ∀ (l0 : Nat) (l1 : Int32) (l2 : Int32) (l3 : Int32) (l4 : Int32) (M : MM), lenO M0 M → k13 l0 l1 l2 l3 l4 M → R92 sl sx d M0 P 13 [some (vR (some l0)), some (vI l1), some (vI l2), some (vI l3), some (vI l4), none, none] [] M) (l0 : Nat) (l1 : Int32) (l2 : Int32) (l3 : Int32) (l4 : Int32) (M : MM) (hM : lenO M0 M) (h : w92_96 k4 k13 l0 l1 l2 l3 l4 M P) : R92 sl sx d M0 P 96 [some (vR (some l0)), some (vI l1), some (vI l2), some (vI l3), some (vI l4), none, none] [] M := by
  refine RN_k (callX_det _) 1 _ _ _ _ (show R92 sl sx d M0 P 99 [some (vR (some l0)), some (vI l1), some (vI (l2 + (1 : Int32))), some (vI l3), some (vI l4), none, none] [] M from ?_)
  exact RN_weak (K := [some (vR (some l0)), some (vI l1), some (vI (l2 + (1 : Int32))), some (vI l3), some (vI l4), none, none]) (callX_det _) (show _ ∧ _ ∧ _ ∧ _ ∧ _ ∧ True from ⟨rfl, rfl, rfl, rfl, rfl, trivial⟩) (t92_99 hk4 hk13 l0 l1 (l2 + (1 : Int32)) l3 l4 _ hM h)
def w92_58 (k4 : Nat → Int32 → Int32 → Int32 → MM → Prop) (k13 : Nat → Int32 → Int32 → Int32 → Int32 → MM → Prop) (l0 : Nat) (l1 : Int32) (l2 : Int32) (l3 : Int32) (l4 : Int32) (l5 : Option Nat) (s0 : Int32) (M : MM) (P : Int32 → MM → Prop) : Prop := (l1 ≠ 0 → ((l1 ≠ (1 : Int32) → ((s0 = 0 → (w92_99 k4 k13 l0 l1 l2 l3 l4 M P)) ∧ (¬ (s0 = 0) → (w92_96 k4 k13 l0 l1 l2 l3 l4 M P)))) ∧ (¬ (l1 ≠ (1 : Int32)) → (∃ a1, l5 = some a1 ∧ (kd M a1 7 ∧ (((mR M a1 10) = none → (w92_99 k4 k13 l0 l1 l2 l3 l4 M P)) ∧ (¬ (mR M a1 10) = none → (w92_96 k4 k13 l0 l1 l2 l3 l4 M P)))))))) ∧ (¬ (l1 ≠ 0) → (∃ a2, l5 = some a2 ∧ (kd M a2 7 ∧ (((mI M a2 9) = 0 → (w92_99 k4 k13 l0 l1 l2 l3 l4 M P)) ∧ (¬ ((mI M a2 9) = 0) → (w92_96 k4 k13 l0 l1 l2 l3 l4 M P))))))
theorem t92_58 {sl : Nat} {sx : Nat → Int32} {d : Nat} {M0 : MM} {P : Int32 → MM → Prop} {k4 : Nat → Int32 → Int32 → Int32 → MM → Prop} {k13 : Nat → Int32 → Int32 → Int32 → Int32 → MM → Prop} (hk4 : ∀ (l0 : Nat) (l1 : Int32) (l2 : Int32) (l3 : Int32) (M : MM), lenO M0 M → k4 l0 l1 l2 l3 M → R92 sl sx d M0 P 4 [some (vR (some l0)), some (vI l1), some (vI l2), some (vI l3), none, none, none] [] M) (hk13 : ∀ (l0 : Nat) (l1 : Int32) (l2 : Int32) (l3 : Int32) (l4 : Int32) (M : MM), lenO M0 M → k13 l0 l1 l2 l3 l4 M → R92 sl sx d M0 P 13 [some (vR (some l0)), some (vI l1), some (vI l2), some (vI l3), some (vI l4), none, none] [] M) (l0 : Nat) (l1 : Int32) (l2 : Int32) (l3 : Int32) (l4 : Int32) (l5 : Option Nat) (s0 : Int32) (M : MM) (hM : lenO M0 M) (h : w92_58 k4 k13 l0 l1 l2 l3 l4 l5 s0 M P) : R92 sl sx d M0 P 58 [some (vR (some l0)), some (vI l1), some (vI l2), some (vI l3), some (vI l4), some (vR l5), none] [vI s0] M := by
  refine RN_k (callX_det _) 3 _ _ _ _ (show (l1 ≠ 0 → R92 sl sx d M0 P 75 [some (vR (some l0)), some (vI l1), some (vI l2), some (vI l3), some (vI l4), some (vR l5), some (vI s0)] [] M) ∧ (¬ (l1 ≠ 0) → R92 sl sx d M0 P 64 [some (vR (some l0)), some (vI l1), some (vI l2), some (vI l3), some (vI l4), some (vR l5), some (vI s0)] [] M) from ⟨fun hc => ?_, fun hc => ?_⟩)
  · replace h := h.1 hc
    refine RN_k (callX_det _) 3 _ _ _ _ (show (l1 ≠ (1 : Int32) → R92 sl sx d M0 P 91 [some (vR (some l0)), some (vI l1), some (vI l2), some (vI l3), some (vI l4), some (vR l5), some (vI s0)] [] M) ∧ (¬ (l1 ≠ (1 : Int32)) → R92 sl sx d M0 P 80 [some (vR (some l0)), some (vI l1), some (vI l2), some (vI l3), some (vI l4), some (vR l5), some (vI s0)] [] M) from ⟨fun hc => ?_, fun hc => ?_⟩)
    · replace h := h.1 hc
      refine RN_k (callX_det _) 2 _ _ _ _ (show (s0 = 0 → R92 sl sx d M0 P 99 [some (vR (some l0)), some (vI l1), some (vI l2), some (vI l3), some (vI l4), some (vR l5), some (vI s0)] [] M) ∧ (¬ (s0 = 0) → R92 sl sx d M0 P 96 [some (vR (some l0)), some (vI l1), some (vI l2), some (vI l3), some (vI l4), some (vR l5), some (vI s0)] [] M) from ⟨fun hc => ?_, fun hc => ?_⟩)
      · replace h := h.1 hc
        exact RN_weak (K := [some (vR (some l0)), some (vI l1), some (vI l2), some (vI l3), some (vI l4), none, none]) (callX_det _) (show _ ∧ _ ∧ _ ∧ _ ∧ _ ∧ True from ⟨rfl, rfl, rfl, rfl, rfl, trivial⟩) (t92_99 hk4 hk13 l0 l1 l2 l3 l4 _ hM h)
      · replace h := h.2 hc
        exact RN_weak (K := [some (vR (some l0)), some (vI l1), some (vI l2), some (vI l3), some (vI l4), none, none]) (callX_det _) (show _ ∧ _ ∧ _ ∧ _ ∧ _ ∧ True from ⟨rfl, rfl, rfl, rfl, rfl, trivial⟩) (t92_96 hk4 hk13 l0 l1 l2 l3 l4 _ hM h)
    · replace h := h.2 hc
      obtain ⟨a1, he, h⟩ := h
      refine RN_k (callX_det _) 1 _ _ _ _ (show R92 sl sx d M0 P 82 [some (vR (some l0)), some (vI l1), some (vI l2), some (vI l3), some (vI l4), some (vR l5), some (vI s0)] [vR l5] M from ?_)
      subst he
      refine RN_k (callX_det _) 1 _ _ _ _ (show kd M a1 7 ∧ R92 sl sx d M0 P 85 [some (vR (some l0)), some (vI l1), some (vI l2), some (vI l3), some (vI l4), some (vR (some a1)), some (vI s0)] [vR (mR M a1 10)] M from ⟨h.1, ?_⟩)
      replace h := h.2
      refine RN_k (callX_det _) 1 _ _ _ _ (show ((mR M a1 10) = none → R92 sl sx d M0 P 99 [some (vR (some l0)), some (vI l1), some (vI l2), some (vI l3), some (vI l4), some (vR (some a1)), some (vI s0)] [] M) ∧ (¬ (mR M a1 10) = none → R92 sl sx d M0 P 88 [some (vR (some l0)), some (vI l1), some (vI l2), some (vI l3), some (vI l4), some (vR (some a1)), some (vI s0)] [] M) from ⟨fun hc => ?_, fun hc => ?_⟩)
      · replace h := h.1 hc
        exact RN_weak (K := [some (vR (some l0)), some (vI l1), some (vI l2), some (vI l3), some (vI l4), none, none]) (callX_det _) (show _ ∧ _ ∧ _ ∧ _ ∧ _ ∧ True from ⟨rfl, rfl, rfl, rfl, rfl, trivial⟩) (t92_99 hk4 hk13 l0 l1 l2 l3 l4 _ hM h)
      · replace h := h.2 hc
        refine RN_k (callX_det _) 1 _ _ _ _ (show R92 sl sx d M0 P 96 [some (vR (some l0)), some (vI l1), some (vI l2), some (vI l3), some (vI l4), some (vR (some a1)), some (vI s0)] [] M from ?_)
        exact RN_weak (K := [some (vR (some l0)), some (vI l1), some (vI l2), some (vI l3), some (vI l4), none, none]) (callX_det _) (show _ ∧ _ ∧ _ ∧ _ ∧ _ ∧ True from ⟨rfl, rfl, rfl, rfl, rfl, trivial⟩) (t92_96 hk4 hk13 l0 l1 l2 l3 l4 _ hM h)
  · replace h := h.2 hc
    obtain ⟨a2, he, h⟩ := h
    refine RN_k (callX_det _) 1 _ _ _ _ (show R92 sl sx d M0 P 66 [some (vR (some l0)), some (vI l1), some (vI l2), some (vI l3), some (vI l4), some (vR l5), some (vI s0)] [vR l5] M from ?_)
    subst he
    refine RN_k (callX_det _) 1 _ _ _ _ (show kd M a2 7 ∧ R92 sl sx d M0 P 69 [some (vR (some l0)), some (vI l1), some (vI l2), some (vI l3), some (vI l4), some (vR (some a2)), some (vI s0)] [vI (mI M a2 9)] M from ⟨h.1, ?_⟩)
    replace h := h.2
    refine RN_k (callX_det _) 1 _ _ _ _ (show ((mI M a2 9) = 0 → R92 sl sx d M0 P 99 [some (vR (some l0)), some (vI l1), some (vI l2), some (vI l3), some (vI l4), some (vR (some a2)), some (vI s0)] [] M) ∧ (¬ ((mI M a2 9) = 0) → R92 sl sx d M0 P 72 [some (vR (some l0)), some (vI l1), some (vI l2), some (vI l3), some (vI l4), some (vR (some a2)), some (vI s0)] [] M) from ⟨fun hc => ?_, fun hc => ?_⟩)
    · replace h := h.1 hc
      exact RN_weak (K := [some (vR (some l0)), some (vI l1), some (vI l2), some (vI l3), some (vI l4), none, none]) (callX_det _) (show _ ∧ _ ∧ _ ∧ _ ∧ _ ∧ True from ⟨rfl, rfl, rfl, rfl, rfl, trivial⟩) (t92_99 hk4 hk13 l0 l1 l2 l3 l4 _ hM h)
    · replace h := h.2 hc
      refine RN_k (callX_det _) 1 _ _ _ _ (show R92 sl sx d M0 P 96 [some (vR (some l0)), some (vI l1), some (vI l2), some (vI l3), some (vI l4), some (vR (some a2)), some (vI s0)] [] M from ?_)
      exact RN_weak (K := [some (vR (some l0)), some (vI l1), some (vI l2), some (vI l3), some (vI l4), none, none]) (callX_det _) (show _ ∧ _ ∧ _ ∧ _ ∧ _ ∧ True from ⟨rfl, rfl, rfl, rfl, rfl, trivial⟩) (t92_96 hk4 hk13 l0 l1 l2 l3 l4 _ hM h)
def w92_57 (k4 : Nat → Int32 → Int32 → Int32 → MM → Prop) (k13 : Nat → Int32 → Int32 → Int32 → Int32 → MM → Prop) (l0 : Nat) (l1 : Int32) (l2 : Int32) (l3 : Int32) (l4 : Int32) (l5 : Option Nat) (M : MM) (P : Int32 → MM → Prop) : Prop := w92_58 k4 k13 l0 l1 l2 l3 l4 l5 (0 : Int32) M P
theorem t92_57 {sl : Nat} {sx : Nat → Int32} {d : Nat} {M0 : MM} {P : Int32 → MM → Prop} {k4 : Nat → Int32 → Int32 → Int32 → MM → Prop} {k13 : Nat → Int32 → Int32 → Int32 → Int32 → MM → Prop} (hk4 : ∀ (l0 : Nat) (l1 : Int32) (l2 : Int32) (l3 : Int32) (M : MM), lenO M0 M → k4 l0 l1 l2 l3 M → R92 sl sx d M0 P 4 [some (vR (some l0)), some (vI l1), some (vI l2), some (vI l3), none, none, none] [] M) (hk13 : ∀ (l0 : Nat) (l1 : Int32) (l2 : Int32) (l3 : Int32) (l4 : Int32) (M : MM), lenO M0 M → k13 l0 l1 l2 l3 l4 M → R92 sl sx d M0 P 13 [some (vR (some l0)), some (vI l1), some (vI l2), some (vI l3), some (vI l4), none, none] [] M) (l0 : Nat) (l1 : Int32) (l2 : Int32) (l3 : Int32) (l4 : Int32) (l5 : Option Nat) (M : MM) (hM : lenO M0 M) (h : w92_57 k4 k13 l0 l1 l2 l3 l4 l5 M P) : R92 sl sx d M0 P 57 [some (vR (some l0)), some (vI l1), some (vI l2), some (vI l3), some (vI l4), some (vR l5), none] [] M := by
  refine RN_k (callX_det _) 1 _ _ _ _ (show R92 sl sx d M0 P 58 [some (vR (some l0)), some (vI l1), some (vI l2), some (vI l3), some (vI l4), some (vR l5), none] [vI (0 : Int32)] M from ?_)
  exact RN_weak (K := [some (vR (some l0)), some (vI l1), some (vI l2), some (vI l3), some (vI l4), some (vR l5), none]) (callX_det _) (show _ ∧ _ ∧ _ ∧ _ ∧ _ ∧ _ ∧ True from ⟨rfl, rfl, rfl, rfl, rfl, rfl, trivial⟩) (t92_58 hk4 hk13 l0 l1 l2 l3 l4 l5 (0 : Int32) _ hM h)
def w92_13 (k4 : Nat → Int32 → Int32 → Int32 → MM → Prop) : Nat → Nat → Int32 → Int32 → Int32 → Int32 → MM → (Int32 → MM → Prop) → Prop
  | 0 => fun _ _ _ _ _ _ _ => False
  | n + 1 => fun l0 l1 l2 l3 l4 M P => kd M l0 1 ∧ w79 l0 l3 M (fun r2 M1 => (r2 ≤ l4 → (k4 l0 l1 l2 (l3 + (1 : Int32)) M1)) ∧ (¬ (r2 ≤ l4) → (kd M1 l0 1 ∧ (∃ a3, mR M1 l0 0 = some a3 ∧ (inb M1 a3 15 ((l3 * (8 : Int32)) + l4) ∧ (∃ a4, mR M1 a3 ((l3 * (8 : Int32)) + l4).toNatClampNeg = some a4 ∧ (kd M1 a4 7 ∧ (((mI M1 a4 7) = 0 → (w92_57 k4 (fun z0 z1 z2 z3 z4 z5 => w92_13 k4 n z0 z1 z2 z3 z4 z5 P) l0 l1 l2 l3 l4 (some a4) M1 P)) ∧ (¬ ((mI M1 a4 7) = 0) → (kd M1 a4 7 ∧ (((mI M1 a4 8) = 0 → (w92_57 k4 (fun z0 z1 z2 z3 z4 z5 => w92_13 k4 n z0 z1 z2 z3 z4 z5 P) l0 l1 l2 l3 l4 (some a4) M1 P)) ∧ (¬ ((mI M1 a4 8) = 0) → (w92_58 k4 (fun z0 z1 z2 z3 z4 z5 => w92_13 k4 n z0 z1 z2 z3 z4 z5 P) l0 l1 l2 l3 l4 (some a4) (1 : Int32) M1 P)))))))))))))
theorem t92_13 {sl : Nat} {sx : Nat → Int32} {d : Nat} {M0 : MM} {P : Int32 → MM → Prop} {k4 : Nat → Int32 → Int32 → Int32 → MM → Prop} (hk4 : ∀ (l0 : Nat) (l1 : Int32) (l2 : Int32) (l3 : Int32) (M : MM), lenO M0 M → k4 l0 l1 l2 l3 M → R92 sl sx d M0 P 4 [some (vR (some l0)), some (vI l1), some (vI l2), some (vI l3), none, none, none] [] M) (n : Nat) : ∀ (l0 : Nat) (l1 : Int32) (l2 : Int32) (l3 : Int32) (l4 : Int32) (M : MM) (_ : lenO M0 M) (_ : w92_13 k4 n l0 l1 l2 l3 l4 M P), R92 sl sx d M0 P 13 [some (vR (some l0)), some (vI l1), some (vI l2), some (vI l3), some (vI l4), none, none] [] M := by
  induction n with
  | zero => intro l0 l1 l2 l3 l4 M hM h; cases h
  | succ n ih =>
    intro l0 l1 l2 l3 l4 M hM h
    refine RN_k (callX_det _) 4 _ _ _ _ (show kd M l0 1 ∧ callX TBg sl sx (d + 1) 79 [vR (some l0), vI l3] M (fun v M9 => R92 sl sx d M0 P 20 [some (vR (some l0)), some (vI l1), some (vI l2), some (vI l3), some (vI l4), none, none] (pushO v [vI l4]) M9) from ⟨h.1, ?_⟩)
    replace h := h.2
    refine callX_mono (callX_len (d := (d + 1)) rfl rfl rfl (c79 (d := d) h)) ?_
    clear h
    rintro v9 M1 ⟨hl, r2, rfl, h⟩
    replace hM := lenT hM hl
    show R92 sl sx d M0 P 20 [some (vR (some l0)), some (vI l1), some (vI l2), some (vI l3), some (vI l4), none, none] [vI r2, vI l4] M1
    refine RN_k (callX_det _) 1 _ _ _ _ (show (r2 ≤ l4 → R92 sl sx d M0 P 105 [some (vR (some l0)), some (vI l1), some (vI l2), some (vI l3), some (vI l4), none, none] [] M1) ∧ (¬ (r2 ≤ l4) → R92 sl sx d M0 P 23 [some (vR (some l0)), some (vI l1), some (vI l2), some (vI l3), some (vI l4), none, none] [] M1) from ⟨fun hc => ?_, fun hc => ?_⟩)
    · replace h := h.1 hc
      refine RN_k (callX_det _) 2 _ _ _ _ (show R92 sl sx d M0 P 4 [some (vR (some l0)), some (vI l1), some (vI l2), some (vI (l3 + (1 : Int32))), some (vI l4), none, none] [] M1 from ?_)
      exact RN_weak (K := [some (vR (some l0)), some (vI l1), some (vI l2), some (vI (l3 + (1 : Int32))), none, none, none]) (callX_det _) (show _ ∧ _ ∧ _ ∧ _ ∧ True from ⟨rfl, rfl, rfl, rfl, trivial⟩) (hk4 l0 l1 l2 (l3 + (1 : Int32)) _ hM h)
    · replace h := h.2 hc
      refine RN_k (callX_det _) 2 _ _ _ _ (show kd M1 l0 1 ∧ R92 sl sx d M0 P 27 [some (vR (some l0)), some (vI l1), some (vI l2), some (vI l3), some (vI l4), none, none] [vR (mR M1 l0 0)] M1 from ⟨h.1, ?_⟩)
      replace h := h.2
      obtain ⟨a3, he, h⟩ := h
      refine RN_k (callX_det _) 5 _ _ _ _ (show R92 sl sx d M0 P 34 [some (vR (some l0)), some (vI l1), some (vI l2), some (vI l3), some (vI l4), none, none] [vI ((l3 * (8 : Int32)) + l4), vR (mR M1 l0 0)] M1 from ?_)
      rw [he]
      refine RN_k (callX_det _) 1 _ _ _ _ (show inb M1 a3 15 ((l3 * (8 : Int32)) + l4) ∧ R92 sl sx d M0 P 35 [some (vR (some l0)), some (vI l1), some (vI l2), some (vI l3), some (vI l4), none, none] [vR (mR M1 a3 ((l3 * (8 : Int32)) + l4).toNatClampNeg)] M1 from ⟨h.1, ?_⟩)
      replace h := h.2
      obtain ⟨a4, he, h⟩ := h
      refine RN_k (callX_det _) 2 _ _ _ _ (show R92 sl sx d M0 P 39 [some (vR (some l0)), some (vI l1), some (vI l2), some (vI l3), some (vI l4), some (vR (mR M1 a3 ((l3 * (8 : Int32)) + l4).toNatClampNeg)), none] [vR (mR M1 a3 ((l3 * (8 : Int32)) + l4).toNatClampNeg)] M1 from ?_)
      rw [he]
      refine RN_k (callX_det _) 1 _ _ _ _ (show kd M1 a4 7 ∧ R92 sl sx d M0 P 42 [some (vR (some l0)), some (vI l1), some (vI l2), some (vI l3), some (vI l4), some (vR (some a4)), none] [vI (mI M1 a4 7)] M1 from ⟨h.1, ?_⟩)
      replace h := h.2
      refine RN_k (callX_det _) 1 _ _ _ _ (show ((mI M1 a4 7) = 0 → R92 sl sx d M0 P 57 [some (vR (some l0)), some (vI l1), some (vI l2), some (vI l3), some (vI l4), some (vR (some a4)), none] [] M1) ∧ (¬ ((mI M1 a4 7) = 0) → R92 sl sx d M0 P 45 [some (vR (some l0)), some (vI l1), some (vI l2), some (vI l3), some (vI l4), some (vR (some a4)), none] [] M1) from ⟨fun hc => ?_, fun hc => ?_⟩)
      · replace h := h.1 hc
        exact RN_weak (K := [some (vR (some l0)), some (vI l1), some (vI l2), some (vI l3), some (vI l4), some (vR (some a4)), none]) (callX_det _) (show _ ∧ _ ∧ _ ∧ _ ∧ _ ∧ _ ∧ True from ⟨rfl, rfl, rfl, rfl, rfl, rfl, trivial⟩) (t92_57 hk4 ih l0 l1 l2 l3 l4 (some a4) _ hM h)
      · replace h := h.2 hc
        refine RN_k (callX_det _) 2 _ _ _ _ (show kd M1 a4 7 ∧ R92 sl sx d M0 P 50 [some (vR (some l0)), some (vI l1), some (vI l2), some (vI l3), some (vI l4), some (vR (some a4)), none] [vI (mI M1 a4 8)] M1 from ⟨h.1, ?_⟩)
        replace h := h.2
        refine RN_k (callX_det _) 1 _ _ _ _ (show ((mI M1 a4 8) = 0 → R92 sl sx d M0 P 57 [some (vR (some l0)), some (vI l1), some (vI l2), some (vI l3), some (vI l4), some (vR (some a4)), none] [] M1) ∧ (¬ ((mI M1 a4 8) = 0) → R92 sl sx d M0 P 53 [some (vR (some l0)), some (vI l1), some (vI l2), some (vI l3), some (vI l4), some (vR (some a4)), none] [] M1) from ⟨fun hc => ?_, fun hc => ?_⟩)
        · replace h := h.1 hc
          exact RN_weak (K := [some (vR (some l0)), some (vI l1), some (vI l2), some (vI l3), some (vI l4), some (vR (some a4)), none]) (callX_det _) (show _ ∧ _ ∧ _ ∧ _ ∧ _ ∧ _ ∧ True from ⟨rfl, rfl, rfl, rfl, rfl, rfl, trivial⟩) (t92_57 hk4 ih l0 l1 l2 l3 l4 (some a4) _ hM h)
        · replace h := h.2 hc
          refine RN_k (callX_det _) 2 _ _ _ _ (show R92 sl sx d M0 P 58 [some (vR (some l0)), some (vI l1), some (vI l2), some (vI l3), some (vI l4), some (vR (some a4)), none] [vI (1 : Int32)] M1 from ?_)
          exact RN_weak (K := [some (vR (some l0)), some (vI l1), some (vI l2), some (vI l3), some (vI l4), some (vR (some a4)), none]) (callX_det _) (show _ ∧ _ ∧ _ ∧ _ ∧ _ ∧ _ ∧ True from ⟨rfl, rfl, rfl, rfl, rfl, rfl, trivial⟩) (t92_58 hk4 ih l0 l1 l2 l3 l4 (some a4) (1 : Int32) _ hM h)
def w92_4 : Nat → Nat → Int32 → Int32 → Int32 → MM → (Int32 → MM → Prop) → Prop
  | 0 => fun _ _ _ _ _ _ => False
  | n + 1 => fun l0 l1 l2 l3 M P => ((14 : Int32) ≤ l3 → (P l2 M)) ∧ (¬ ((14 : Int32) ≤ l3) → (∃ n2, w92_13 (fun z0 z1 z2 z3 z4 => w92_4  n z0 z1 z2 z3 z4 P) n2 l0 l1 l2 l3 (0 : Int32) M P))
theorem t92_4 {sl : Nat} {sx : Nat → Int32} {d : Nat} {M0 : MM} {P : Int32 → MM → Prop} (n : Nat) : ∀ (l0 : Nat) (l1 : Int32) (l2 : Int32) (l3 : Int32) (M : MM) (_ : lenO M0 M) (_ : w92_4  n l0 l1 l2 l3 M P), R92 sl sx d M0 P 4 [some (vR (some l0)), some (vI l1), some (vI l2), some (vI l3), none, none, none] [] M := by
  induction n with
  | zero => intro l0 l1 l2 l3 M hM h; cases h
  | succ n ih =>
    intro l0 l1 l2 l3 M hM h
    refine RN_k (callX_det _) 3 _ _ _ _ (show ((14 : Int32) ≤ l3 → R92 sl sx d M0 P 111 [some (vR (some l0)), some (vI l1), some (vI l2), some (vI l3), none, none, none] [] M) ∧ (¬ ((14 : Int32) ≤ l3) → R92 sl sx d M0 P 10 [some (vR (some l0)), some (vI l1), some (vI l2), some (vI l3), none, none, none] [] M) from ⟨fun hc => ?_, fun hc => ?_⟩)
    · replace h := h.1 hc
      exact RN_k (callX_det _) 2 _ _ _ _ (show rtW q92 M0 (PI P) (some (vI l2)) M from ⟨⟨_, rfl⟩, hM.1, hM.2, _, rfl, h⟩)
    · replace h := h.2 hc
      refine RN_k (callX_det _) 2 _ _ _ _ (show R92 sl sx d M0 P 13 [some (vR (some l0)), some (vI l1), some (vI l2), some (vI l3), some (vI (0 : Int32)), none, none] [] M from ?_)
      obtain ⟨n2, h⟩ := h
      exact RN_weak (K := [some (vR (some l0)), some (vI l1), some (vI l2), some (vI l3), some (vI (0 : Int32)), none, none]) (callX_det _) (show _ ∧ _ ∧ _ ∧ _ ∧ _ ∧ True from ⟨rfl, rfl, rfl, rfl, rfl, trivial⟩) (t92_13 ih n2 l0 l1 l2 l3 (0 : Int32) _ hM h)
def w92 (l0 : Nat) (l1 : Int32) (M : MM) (P : Int32 → MM → Prop) : Prop := ∃ n2, w92_4  n2 l0 l1 (0 : Int32) (0 : Int32) M P
theorem t92_E {sl : Nat} {sx : Nat → Int32} {d : Nat} {M0 : MM} {P : Int32 → MM → Prop} (l0 : Nat) (l1 : Int32) (M : MM) (hM : lenO M0 M) (h : w92  l0 l1 M P) : R92 sl sx d M0 P 0 [some (vR (some l0)), some (vI l1), none, none, none, none, none] [] M := by
  refine RN_k (callX_det _) 4 _ _ _ _ (show R92 sl sx d M0 P 4 [some (vR (some l0)), some (vI l1), some (vI (0 : Int32)), some (vI (0 : Int32)), none, none, none] [] M from ?_)
  obtain ⟨n2, h⟩ := h
  exact RN_weak (K := [some (vR (some l0)), some (vI l1), some (vI (0 : Int32)), some (vI (0 : Int32)), none, none, none]) (callX_det _) (show _ ∧ _ ∧ _ ∧ _ ∧ True from ⟨rfl, rfl, rfl, rfl, trivial⟩) (t92_4  n2 l0 l1 (0 : Int32) (0 : Int32) _ hM h)
theorem c92 {sl : Nat} {sx : Nat → Int32} {d : Nat} {l0 : Nat} {l1 : Int32} {M : MM} {P : Int32 → MM → Prop} (h : w92 l0 l1 M P) : callX TBg sl sx (d + 2) 92 [vR (some l0), vI l1] M (PI P) :=
  cX (d := d + 1) q92 (false, tb92) rfl rfl rfl (t92_E l0 l1 M lenR h)
-- TwoLeash.sides(IIIII)I
abbrev q91 : MQ7 := (6, 1, 6, 9, 0, 0, 1)
abbrev R91 (sl : Nat) (sx : Nat → Int32) (d : Nat) (M0 : MM) (P : Int32 → MM → Prop) : Nat → LL → List VV → MM → Prop := RN 9 false (mS M0).length (mT M0) 0 0 sl sx (callX TBg sl sx (d + 5)) (rtW q91 M0 (PI P)) (as2 tb91)
def w91_27 (l0 : Nat) (l1 : Int32) (l2 : Int32) (l3 : Int32) (l4 : Int32) (l5 : Int32) (s0 : Option Nat) (s1 : Option Nat) (s2 : Int32) (M : MM) (P : Int32 → MM → Prop) : Prop := ∃ a1, s1 = some a1 ∧ (kd M a1 9 ∧ w62 a1 s2 l1 l2 M (fun r3 M2 => ∃ a4, s0 = some a4 ∧ (kd M2 a4 9 ∧ (kd (sI M2 a4 10 r3) l0 9 ∧ (((mI (sI M2 a4 10 r3) l0 10) = 0 → (kd (sI M2 a4 10 r3) l0 9 ∧ w77 l0 l1 l2 l3 l4 (sI M2 a4 10 r3) (fun r6 M5 => ∃ a7, r6 = some a7 ∧ (kd M5 a7 1 ∧ w92 a7 l5 M5 (fun r9 M8 => kd M8 l0 9 ∧ w35 l0 r9 M8 (fun r11 M10 => P r11 M10)))))) ∧ (¬ ((mI (sI M2 a4 10 r3) l0 10) = 0) → (P (-1 : Int32) (sI M2 a4 10 r3))))))))
theorem t91_27 {sl : Nat} {sx : Nat → Int32} {d : Nat} {M0 : MM} {P : Int32 → MM → Prop} (l0 : Nat) (l1 : Int32) (l2 : Int32) (l3 : Int32) (l4 : Int32) (l5 : Int32) (s0 : Option Nat) (s1 : Option Nat) (s2 : Int32) (M : MM) (hM : lenO M0 M) (h : w91_27  l0 l1 l2 l3 l4 l5 s0 s1 s2 M P) : R91 sl sx d M0 P 27 [some (vR (some l0)), some (vI l1), some (vI l2), some (vI l3), some (vI l4), some (vI l5)] [vI s2, vR s1, vR s0] M := by
  obtain ⟨a1, he, h⟩ := h
  refine RN_k (callX_det _) 2 _ _ _ _ (show R91 sl sx d M0 P 29 [some (vR (some l0)), some (vI l1), some (vI l2), some (vI l3), some (vI l4), some (vI l5)] [vI l2, vI l1, vI s2, vR s1, vR s0] M from ?_)
  subst he
  refine RN_k (callX_det _) 1 _ _ _ _ (show kd M a1 9 ∧ callX TBg sl sx (d + 5) 62 [vR (some a1), vI s2, vI l1, vI l2] M (fun v M9 => R91 sl sx d M0 P 32 [some (vR (some l0)), some (vI l1), some (vI l2), some (vI l3), some (vI l4), some (vI l5)] (pushO v [vR s0]) M9) from ⟨h.1, ?_⟩)
  replace h := h.2
  refine callX_mono (callX_len (d := (d + 5)) rfl rfl rfl (c62 (d := d + 3) h)) ?_
  clear h
  rintro v9 M2 ⟨hl, r3, rfl, h⟩
  replace hM := lenT hM hl
  show R91 sl sx d M0 P 32 [some (vR (some l0)), some (vI l1), some (vI l2), some (vI l3), some (vI l4), some (vI l5)] [vI r3, vR s0] M2
  obtain ⟨a4, he, h⟩ := h
  subst he
  refine RN_k (callX_det _) 1 _ _ _ _ (show kd M2 a4 9 ∧ R91 sl sx d M0 P 35 [some (vR (some l0)), some (vI l1), some (vI l2), some (vI l3), some (vI l4), some (vI l5)] [] (sI M2 a4 10 r3) from ⟨h.1, ?_⟩)
  replace h := h.2
  refine RN_k (callX_det _) 2 _ _ _ _ (show kd (sI M2 a4 10 r3) l0 9 ∧ R91 sl sx d M0 P 39 [some (vR (some l0)), some (vI l1), some (vI l2), some (vI l3), some (vI l4), some (vI l5)] [vI (mI (sI M2 a4 10 r3) l0 10)] (sI M2 a4 10 r3) from ⟨h.1, ?_⟩)
  replace h := h.2
  refine RN_k (callX_det _) 1 _ _ _ _ (show ((mI (sI M2 a4 10 r3) l0 10) = 0 → R91 sl sx d M0 P 44 [some (vR (some l0)), some (vI l1), some (vI l2), some (vI l3), some (vI l4), some (vI l5)] [] (sI M2 a4 10 r3)) ∧ (¬ ((mI (sI M2 a4 10 r3) l0 10) = 0) → R91 sl sx d M0 P 42 [some (vR (some l0)), some (vI l1), some (vI l2), some (vI l3), some (vI l4), some (vI l5)] [] (sI M2 a4 10 r3)) from ⟨fun hc => ?_, fun hc => ?_⟩)
  · replace h := h.1 hc
    refine RN_k (callX_det _) 7 _ _ _ _ (show kd (sI M2 a4 10 r3) l0 9 ∧ callX TBg sl sx (d + 5) 77 [vR (some l0), vI l1, vI l2, vI l3, vI l4] (sI M2 a4 10 r3) (fun v M9 => R91 sl sx d M0 P 54 [some (vR (some l0)), some (vI l1), some (vI l2), some (vI l3), some (vI l4), some (vI l5)] (pushO v [vR (some l0)]) M9) from ⟨h.1, ?_⟩)
    replace h := h.2
    refine callX_mono (callX_len (d := (d + 5)) rfl rfl rfl (c77 (d := d) h)) ?_
    clear h
    rintro v9 M5 ⟨hl, r6, rfl, h⟩
    replace hM := lenT hM hl
    show R91 sl sx d M0 P 54 [some (vR (some l0)), some (vI l1), some (vI l2), some (vI l3), some (vI l4), some (vI l5)] [vR r6, vR (some l0)] M5
    obtain ⟨a7, he, h⟩ := h
    refine RN_k (callX_det _) 1 _ _ _ _ (show R91 sl sx d M0 P 56 [some (vR (some l0)), some (vI l1), some (vI l2), some (vI l3), some (vI l4), some (vI l5)] [vI l5, vR r6, vR (some l0)] M5 from ?_)
    subst he
    refine RN_k (callX_det _) 1 _ _ _ _ (show kd M5 a7 1 ∧ callX TBg sl sx (d + 5) 92 [vR (some a7), vI l5] M5 (fun v M9 => R91 sl sx d M0 P 59 [some (vR (some l0)), some (vI l1), some (vI l2), some (vI l3), some (vI l4), some (vI l5)] (pushO v [vR (some l0)]) M9) from ⟨h.1, ?_⟩)
    replace h := h.2
    refine callX_mono (callX_len (d := (d + 5)) rfl rfl rfl (c92 (d := d + 3) h)) ?_
    clear h
    rintro v9 M8 ⟨hl, r9, rfl, h⟩
    replace hM := lenT hM hl
    show R91 sl sx d M0 P 59 [some (vR (some l0)), some (vI l1), some (vI l2), some (vI l3), some (vI l4), some (vI l5)] [vI r9, vR (some l0)] M8
    refine RN_k (callX_det _) 1 _ _ _ _ (show kd M8 l0 9 ∧ callX TBg sl sx (d + 5) 35 [vR (some l0), vI r9] M8 (fun v M9 => R91 sl sx d M0 P 62 [some (vR (some l0)), some (vI l1), some (vI l2), some (vI l3), some (vI l4), some (vI l5)] (pushO v []) M9) from ⟨h.1, ?_⟩)
    replace h := h.2
    refine callX_mono (callX_len (d := (d + 5)) rfl rfl rfl (c35 (d := d + 4) h)) ?_
    clear h
    rintro v9 M10 ⟨hl, r11, rfl, h⟩
    replace hM := lenT hM hl
    show R91 sl sx d M0 P 62 [some (vR (some l0)), some (vI l1), some (vI l2), some (vI l3), some (vI l4), some (vI l5)] [vI r11] M10
    exact RN_k (callX_det _) 1 _ _ _ _ (show rtW q91 M0 (PI P) (some (vI r11)) M10 from ⟨⟨_, rfl⟩, hM.1, hM.2, _, rfl, h⟩)
  · replace h := h.2 hc
    exact RN_k (callX_det _) 2 _ _ _ _ (show rtW q91 M0 (PI P) (some (vI (-1 : Int32))) (sI M2 a4 10 r3) from ⟨⟨_, rfl⟩, hM.1, hM.2, _, rfl, h⟩)
def w91_26 (l0 : Nat) (l1 : Int32) (l2 : Int32) (l3 : Int32) (l4 : Int32) (l5 : Int32) (s0 : Option Nat) (s1 : Option Nat) (M : MM) (P : Int32 → MM → Prop) : Prop := w91_27  l0 l1 l2 l3 l4 l5 s0 s1 (0 : Int32) M P
theorem t91_26 {sl : Nat} {sx : Nat → Int32} {d : Nat} {M0 : MM} {P : Int32 → MM → Prop} (l0 : Nat) (l1 : Int32) (l2 : Int32) (l3 : Int32) (l4 : Int32) (l5 : Int32) (s0 : Option Nat) (s1 : Option Nat) (M : MM) (hM : lenO M0 M) (h : w91_26  l0 l1 l2 l3 l4 l5 s0 s1 M P) : R91 sl sx d M0 P 26 [some (vR (some l0)), some (vI l1), some (vI l2), some (vI l3), some (vI l4), some (vI l5)] [vR s1, vR s0] M := by
  refine RN_k (callX_det _) 1 _ _ _ _ (show R91 sl sx d M0 P 27 [some (vR (some l0)), some (vI l1), some (vI l2), some (vI l3), some (vI l4), some (vI l5)] [vI (0 : Int32), vR s1, vR s0] M from ?_)
  exact RN_weak (K := [some (vR (some l0)), some (vI l1), some (vI l2), some (vI l3), some (vI l4), some (vI l5)]) (callX_det _) (show _ ∧ _ ∧ _ ∧ _ ∧ _ ∧ _ ∧ True from ⟨rfl, rfl, rfl, rfl, rfl, rfl, trivial⟩) (t91_27  l0 l1 l2 l3 l4 l5 s0 s1 (0 : Int32) _ hM h)
def w91 (l0 : Nat) (l1 : Int32) (l2 : Int32) (l3 : Int32) (l4 : Int32) (l5 : Int32) (M : MM) (P : Int32 → MM → Prop) : Prop := w74 l3 l4 M (fun r2 M1 => (r2 = 0 → (w91_26  l0 l1 l2 l3 l4 l5 (some l0) (some l0) M1 P)) ∧ (¬ (r2 = 0) → ((l5 < 0 → (w91_26  l0 l1 l2 l3 l4 l5 (some l0) (some l0) M1 P)) ∧ (¬ (l5 < 0) → (((2 : Int32) < l5 → (w91_26  l0 l1 l2 l3 l4 l5 (some l0) (some l0) M1 P)) ∧ (¬ ((2 : Int32) < l5) → (w91_27  l0 l1 l2 l3 l4 l5 (some l0) (some l0) (1 : Int32) M1 P)))))))
theorem t91_E {sl : Nat} {sx : Nat → Int32} {d : Nat} {M0 : MM} {P : Int32 → MM → Prop} (l0 : Nat) (l1 : Int32) (l2 : Int32) (l3 : Int32) (l4 : Int32) (l5 : Int32) (M : MM) (hM : lenO M0 M) (h : w91  l0 l1 l2 l3 l4 l5 M P) : R91 sl sx d M0 P 0 [some (vR (some l0)), some (vI l1), some (vI l2), some (vI l3), some (vI l4), some (vI l5)] [] M := by
  refine RN_k (callX_det _) 5 _ _ _ _ (show callX TBg sl sx (d + 5) 74 [vI l3, vI l4] M (fun v M9 => R91 sl sx d M0 P 8 [some (vR (some l0)), some (vI l1), some (vI l2), some (vI l3), some (vI l4), some (vI l5)] (pushO v [vR (some l0), vR (some l0)]) M9) from ?_)
  refine callX_mono (callX_len (d := (d + 5)) rfl rfl rfl (c74 (d := d + 4) h)) ?_
  clear h
  rintro v9 M1 ⟨hl, r2, rfl, h⟩
  replace hM := lenT hM hl
  show R91 sl sx d M0 P 8 [some (vR (some l0)), some (vI l1), some (vI l2), some (vI l3), some (vI l4), some (vI l5)] [vI r2, vR (some l0), vR (some l0)] M1
  refine RN_k (callX_det _) 1 _ _ _ _ (show (r2 = 0 → R91 sl sx d M0 P 26 [some (vR (some l0)), some (vI l1), some (vI l2), some (vI l3), some (vI l4), some (vI l5)] [vR (some l0), vR (some l0)] M1) ∧ (¬ (r2 = 0) → R91 sl sx d M0 P 11 [some (vR (some l0)), some (vI l1), some (vI l2), some (vI l3), some (vI l4), some (vI l5)] [vR (some l0), vR (some l0)] M1) from ⟨fun hc => ?_, fun hc => ?_⟩)
  · replace h := h.1 hc
    exact RN_weak (K := [some (vR (some l0)), some (vI l1), some (vI l2), some (vI l3), some (vI l4), some (vI l5)]) (callX_det _) (show _ ∧ _ ∧ _ ∧ _ ∧ _ ∧ _ ∧ True from ⟨rfl, rfl, rfl, rfl, rfl, rfl, trivial⟩) (t91_26  l0 l1 l2 l3 l4 l5 (some l0) (some l0) _ hM h)
  · replace h := h.2 hc
    refine RN_k (callX_det _) 2 _ _ _ _ (show (l5 < 0 → R91 sl sx d M0 P 26 [some (vR (some l0)), some (vI l1), some (vI l2), some (vI l3), some (vI l4), some (vI l5)] [vR (some l0), vR (some l0)] M1) ∧ (¬ (l5 < 0) → R91 sl sx d M0 P 16 [some (vR (some l0)), some (vI l1), some (vI l2), some (vI l3), some (vI l4), some (vI l5)] [vR (some l0), vR (some l0)] M1) from ⟨fun hc => ?_, fun hc => ?_⟩)
    · replace h := h.1 hc
      exact RN_weak (K := [some (vR (some l0)), some (vI l1), some (vI l2), some (vI l3), some (vI l4), some (vI l5)]) (callX_det _) (show _ ∧ _ ∧ _ ∧ _ ∧ _ ∧ _ ∧ True from ⟨rfl, rfl, rfl, rfl, rfl, rfl, trivial⟩) (t91_26  l0 l1 l2 l3 l4 l5 (some l0) (some l0) _ hM h)
    · replace h := h.2 hc
      refine RN_k (callX_det _) 3 _ _ _ _ (show ((2 : Int32) < l5 → R91 sl sx d M0 P 26 [some (vR (some l0)), some (vI l1), some (vI l2), some (vI l3), some (vI l4), some (vI l5)] [vR (some l0), vR (some l0)] M1) ∧ (¬ ((2 : Int32) < l5) → R91 sl sx d M0 P 22 [some (vR (some l0)), some (vI l1), some (vI l2), some (vI l3), some (vI l4), some (vI l5)] [vR (some l0), vR (some l0)] M1) from ⟨fun hc => ?_, fun hc => ?_⟩)
      · replace h := h.1 hc
        exact RN_weak (K := [some (vR (some l0)), some (vI l1), some (vI l2), some (vI l3), some (vI l4), some (vI l5)]) (callX_det _) (show _ ∧ _ ∧ _ ∧ _ ∧ _ ∧ _ ∧ True from ⟨rfl, rfl, rfl, rfl, rfl, rfl, trivial⟩) (t91_26  l0 l1 l2 l3 l4 l5 (some l0) (some l0) _ hM h)
      · replace h := h.2 hc
        refine RN_k (callX_det _) 2 _ _ _ _ (show R91 sl sx d M0 P 27 [some (vR (some l0)), some (vI l1), some (vI l2), some (vI l3), some (vI l4), some (vI l5)] [vI (1 : Int32), vR (some l0), vR (some l0)] M1 from ?_)
        exact RN_weak (K := [some (vR (some l0)), some (vI l1), some (vI l2), some (vI l3), some (vI l4), some (vI l5)]) (callX_det _) (show _ ∧ _ ∧ _ ∧ _ ∧ _ ∧ _ ∧ True from ⟨rfl, rfl, rfl, rfl, rfl, rfl, trivial⟩) (t91_27  l0 l1 l2 l3 l4 l5 (some l0) (some l0) (1 : Int32) _ hM h)
theorem c91 {sl : Nat} {sx : Nat → Int32} {d : Nat} {l0 : Nat} {l1 : Int32} {l2 : Int32} {l3 : Int32} {l4 : Int32} {l5 : Int32} {M : MM} {P : Int32 → MM → Prop} (h : w91 l0 l1 l2 l3 l4 l5 M P) : callX TBg sl sx (d + 6) 91 [vR (some l0), vI l1, vI l2, vI l3, vI l4, vI l5] M (PI P) :=
  cX (d := d + 5) q91 (false, tb91) rfl rfl rfl (t91_E l0 l1 l2 l3 l4 l5 M lenR h)
-- TwoLeash.isKind(I)Z
abbrev q94 : MQ7 := (1, 0, 1, 9, 0, 0, 4)
abbrev R94 (sl : Nat) (sx : Nat → Int32) (d : Nat) (M0 : MM) (P : Int32 → MM → Prop) : Nat → LL → List VV → MM → Prop := RN 9 false (mS M0).length (mT M0) 0 0 sl sx (callX TBg sl sx (d + 0)) (rtW q94 M0 (PI P)) (as2 tb94)
def w94_14 (s0 : Int32) (M : MM) (P : Int32 → MM → Prop) : Prop := (s0 = 0 ∨ s0 = 1) ∧ P s0 M
theorem t94_14 {sl : Nat} {sx : Nat → Int32} {d : Nat} {M0 : MM} {P : Int32 → MM → Prop} (s0 : Int32) (M : MM) (hM : lenO M0 M) (h : w94_14  s0 M P) : R94 sl sx d M0 P 14 [none] [vI s0] M := by
  exact RN_k (callX_det _) 1 _ _ _ _ (show rtW q94 M0 (PI P) (some (vI s0)) M from ⟨⟨_, rfl, h.1⟩, hM.1, hM.2, _, rfl, h.2⟩)
def w94_13 (M : MM) (P : Int32 → MM → Prop) : Prop := w94_14  (0 : Int32) M P
theorem t94_13 {sl : Nat} {sx : Nat → Int32} {d : Nat} {M0 : MM} {P : Int32 → MM → Prop}  (M : MM) (hM : lenO M0 M) (h : w94_13   M P) : R94 sl sx d M0 P 13 [none] [] M := by
  refine RN_k (callX_det _) 1 _ _ _ _ (show R94 sl sx d M0 P 14 [none] [vI (0 : Int32)] M from ?_)
  exact RN_weak (K := [none]) (callX_det _) (show True from trivial) (t94_14  (0 : Int32) _ hM h)
def w94 (l0 : Int32) (M : MM) (P : Int32 → MM → Prop) : Prop := (l0 < 0 → (w94_13  M P)) ∧ (¬ (l0 < 0) → (((2 : Int32) < l0 → (w94_13  M P)) ∧ (¬ ((2 : Int32) < l0) → (w94_14  (1 : Int32) M P))))
theorem t94_E {sl : Nat} {sx : Nat → Int32} {d : Nat} {M0 : MM} {P : Int32 → MM → Prop} (l0 : Int32) (M : MM) (hM : lenO M0 M) (h : w94  l0 M P) : R94 sl sx d M0 P 0 [some (vI l0)] [] M := by
  refine RN_k (callX_det _) 2 _ _ _ _ (show (l0 < 0 → R94 sl sx d M0 P 13 [some (vI l0)] [] M) ∧ (¬ (l0 < 0) → R94 sl sx d M0 P 4 [some (vI l0)] [] M) from ⟨fun hc => ?_, fun hc => ?_⟩)
  · replace h := h.1 hc
    exact RN_weak (K := [none]) (callX_det _) (show True from trivial) (t94_13   _ hM h)
  · replace h := h.2 hc
    refine RN_k (callX_det _) 3 _ _ _ _ (show ((2 : Int32) < l0 → R94 sl sx d M0 P 13 [some (vI l0)] [] M) ∧ (¬ ((2 : Int32) < l0) → R94 sl sx d M0 P 9 [some (vI l0)] [] M) from ⟨fun hc => ?_, fun hc => ?_⟩)
    · replace h := h.1 hc
      exact RN_weak (K := [none]) (callX_det _) (show True from trivial) (t94_13   _ hM h)
    · replace h := h.2 hc
      refine RN_k (callX_det _) 2 _ _ _ _ (show R94 sl sx d M0 P 14 [some (vI l0)] [vI (1 : Int32)] M from ?_)
      exact RN_weak (K := [none]) (callX_det _) (show True from trivial) (t94_14  (1 : Int32) _ hM h)
theorem c94 {sl : Nat} {sx : Nat → Int32} {d : Nat} {l0 : Int32} {M : MM} {P : Int32 → MM → Prop} (h : w94 l0 M P) : callX TBg sl sx (d + 1) 94 [vI l0] M (PI P) :=
  cX (d := d + 0) q94 (false, tb94) rfl rfl rfl (t94_E l0 M lenR h)
-- TwoLeash$Jumps.ahead([IIII)I
abbrev q98 : MQ7 := (5, 1, 7, 4, 0, 0, 1)
abbrev R98 (sl : Nat) (sx : Nat → Int32) (d : Nat) (M0 : MM) (P : Int32 → MM → Prop) : Nat → LL → List VV → MM → Prop := RN 4 false (mS M0).length (mT M0) 0 0 sl sx (callX TBg sl sx (d + 0)) (rtW q98 M0 (PI P)) (as2 tb98)
def w98_48 (M : MM) (P : Int32 → MM → Prop) : Prop := P (2147483647 : Int32) M
theorem t98_48 {sl : Nat} {sx : Nat → Int32} {d : Nat} {M0 : MM} {P : Int32 → MM → Prop}  (M : MM) (hM : lenO M0 M) (h : w98_48   M P) : R98 sl sx d M0 P 48 [none, none, none, none, none, none, none] [] M := by
  exact RN_k (callX_det _) 2 _ _ _ _ (show rtW q98 M0 (PI P) (some (vI (2147483647 : Int32))) M from ⟨⟨_, rfl⟩, hM.1, hM.2, _, rfl, h⟩)
def w98_28 (l0 : Nat) (l1 : Option Nat) (l5 : Int32) (s0 : Int32) (M : MM) (P : Int32 → MM → Prop) : Prop := kd M l0 4 ∧ (((mI M l0 5) < l5 → (w98_48  M P)) ∧ (¬ ((mI M l0 5) < l5) → (kd M l0 4 ∧ ((s0 ≤ (mI M l0 6) → (∃ a1, l1 = some a1 ∧ (inb M a1 11 ((l5 * (8 : Int32)) + s0) ∧ (P (mI M a1 ((l5 * (8 : Int32)) + s0).toNatClampNeg) M)))) ∧ (¬ (s0 ≤ (mI M l0 6)) → (w98_48  M P))))))
theorem t98_28 {sl : Nat} {sx : Nat → Int32} {d : Nat} {M0 : MM} {P : Int32 → MM → Prop} (l0 : Nat) (l1 : Option Nat) (l5 : Int32) (s0 : Int32) (M : MM) (hM : lenO M0 M) (h : w98_28  l0 l1 l5 s0 M P) : R98 sl sx d M0 P 28 [some (vR (some l0)), some (vR l1), none, none, none, some (vI l5), none] [vI s0] M := by
  refine RN_k (callX_det _) 4 _ _ _ _ (show kd M l0 4 ∧ R98 sl sx d M0 P 36 [some (vR (some l0)), some (vR l1), none, none, none, some (vI l5), some (vI s0)] [vI (mI M l0 5), vI l5] M from ⟨h.1, ?_⟩)
  replace h := h.2
  refine RN_k (callX_det _) 1 _ _ _ _ (show ((mI M l0 5) < l5 → R98 sl sx d M0 P 48 [some (vR (some l0)), some (vR l1), none, none, none, some (vI l5), some (vI s0)] [] M) ∧ (¬ ((mI M l0 5) < l5) → R98 sl sx d M0 P 39 [some (vR (some l0)), some (vR l1), none, none, none, some (vI l5), some (vI s0)] [] M) from ⟨fun hc => ?_, fun hc => ?_⟩)
  · replace h := h.1 hc
    exact RN_weak (K := [none, none, none, none, none, none, none]) (callX_det _) (show True from trivial) (t98_48   _ hM h)
  · replace h := h.2 hc
    refine RN_k (callX_det _) 3 _ _ _ _ (show kd M l0 4 ∧ R98 sl sx d M0 P 45 [some (vR (some l0)), some (vR l1), none, none, none, some (vI l5), some (vI s0)] [vI (mI M l0 6), vI s0] M from ⟨h.1, ?_⟩)
    replace h := h.2
    refine RN_k (callX_det _) 1 _ _ _ _ (show (s0 ≤ (mI M l0 6) → R98 sl sx d M0 P 51 [some (vR (some l0)), some (vR l1), none, none, none, some (vI l5), some (vI s0)] [] M) ∧ (¬ (s0 ≤ (mI M l0 6)) → R98 sl sx d M0 P 48 [some (vR (some l0)), some (vR l1), none, none, none, some (vI l5), some (vI s0)] [] M) from ⟨fun hc => ?_, fun hc => ?_⟩)
    · replace h := h.1 hc
      obtain ⟨a1, he, h⟩ := h
      refine RN_k (callX_det _) 6 _ _ _ _ (show R98 sl sx d M0 P 60 [some (vR (some l0)), some (vR l1), none, none, none, some (vI l5), some (vI s0)] [vI ((l5 * (8 : Int32)) + s0), vR l1] M from ?_)
      subst he
      refine RN_k (callX_det _) 1 _ _ _ _ (show inb M a1 11 ((l5 * (8 : Int32)) + s0) ∧ R98 sl sx d M0 P 61 [some (vR (some l0)), some (vR (some a1)), none, none, none, some (vI l5), some (vI s0)] [vI (mI M a1 ((l5 * (8 : Int32)) + s0).toNatClampNeg)] M from ⟨h.1, ?_⟩)
      replace h := h.2
      exact RN_k (callX_det _) 1 _ _ _ _ (show rtW q98 M0 (PI P) (some (vI (mI M a1 ((l5 * (8 : Int32)) + s0).toNatClampNeg))) M from ⟨⟨_, rfl⟩, hM.1, hM.2, _, rfl, h⟩)
    · replace h := h.2 hc
      exact RN_weak (K := [none, none, none, none, none, none, none]) (callX_det _) (show True from trivial) (t98_48   _ hM h)
def w98_13 (l0 : Nat) (l1 : Option Nat) (l3 : Int32) (l4 : Int32) (s0 : Int32) (M : MM) (P : Int32 → MM → Prop) : Prop := (l4 ≠ (1 : Int32) → (w98_28  l0 l1 s0 (l3 + (1 : Int32)) M P)) ∧ (¬ (l4 ≠ (1 : Int32)) → (w98_28  l0 l1 s0 l3 M P))
theorem t98_13 {sl : Nat} {sx : Nat → Int32} {d : Nat} {M0 : MM} {P : Int32 → MM → Prop} (l0 : Nat) (l1 : Option Nat) (l3 : Int32) (l4 : Int32) (s0 : Int32) (M : MM) (hM : lenO M0 M) (h : w98_13  l0 l1 l3 l4 s0 M P) : R98 sl sx d M0 P 13 [some (vR (some l0)), some (vR l1), none, some (vI l3), some (vI l4), none, none] [vI s0] M := by
  refine RN_k (callX_det _) 4 _ _ _ _ (show (l4 ≠ (1 : Int32) → R98 sl sx d M0 P 25 [some (vR (some l0)), some (vR l1), none, some (vI l3), some (vI l4), some (vI s0), none] [] M) ∧ (¬ (l4 ≠ (1 : Int32)) → R98 sl sx d M0 P 21 [some (vR (some l0)), some (vR l1), none, some (vI l3), some (vI l4), some (vI s0), none] [] M) from ⟨fun hc => ?_, fun hc => ?_⟩)
  · replace h := h.1 hc
    refine RN_k (callX_det _) 3 _ _ _ _ (show R98 sl sx d M0 P 28 [some (vR (some l0)), some (vR l1), none, some (vI l3), some (vI l4), some (vI s0), none] [vI (l3 + (1 : Int32))] M from ?_)
    exact RN_weak (K := [some (vR (some l0)), some (vR l1), none, none, none, some (vI s0), none]) (callX_det _) (show _ ∧ _ ∧ _ ∧ True from ⟨rfl, rfl, rfl, trivial⟩) (t98_28  l0 l1 s0 (l3 + (1 : Int32)) _ hM h)
  · replace h := h.2 hc
    refine RN_k (callX_det _) 2 _ _ _ _ (show R98 sl sx d M0 P 28 [some (vR (some l0)), some (vR l1), none, some (vI l3), some (vI l4), some (vI s0), none] [vI l3] M from ?_)
    exact RN_weak (K := [some (vR (some l0)), some (vR l1), none, none, none, some (vI s0), none]) (callX_det _) (show _ ∧ _ ∧ _ ∧ True from ⟨rfl, rfl, rfl, trivial⟩) (t98_28  l0 l1 s0 l3 _ hM h)
def w98 (l0 : Nat) (l1 : Option Nat) (l2 : Int32) (l3 : Int32) (l4 : Int32) (M : MM) (P : Int32 → MM → Prop) : Prop := (l4 ≠ (2 : Int32) → (w98_13  l0 l1 l3 l4 (l2 + (1 : Int32)) M P)) ∧ (¬ (l4 ≠ (2 : Int32)) → (w98_13  l0 l1 l3 l4 l2 M P))
theorem t98_E {sl : Nat} {sx : Nat → Int32} {d : Nat} {M0 : MM} {P : Int32 → MM → Prop} (l0 : Nat) (l1 : Option Nat) (l2 : Int32) (l3 : Int32) (l4 : Int32) (M : MM) (hM : lenO M0 M) (h : w98  l0 l1 l2 l3 l4 M P) : R98 sl sx d M0 P 0 [some (vR (some l0)), some (vR l1), some (vI l2), some (vI l3), some (vI l4), none, none] [] M := by
  refine RN_k (callX_det _) 3 _ _ _ _ (show (l4 ≠ (2 : Int32) → R98 sl sx d M0 P 10 [some (vR (some l0)), some (vR l1), some (vI l2), some (vI l3), some (vI l4), none, none] [] M) ∧ (¬ (l4 ≠ (2 : Int32)) → R98 sl sx d M0 P 6 [some (vR (some l0)), some (vR l1), some (vI l2), some (vI l3), some (vI l4), none, none] [] M) from ⟨fun hc => ?_, fun hc => ?_⟩)
  · replace h := h.1 hc
    refine RN_k (callX_det _) 3 _ _ _ _ (show R98 sl sx d M0 P 13 [some (vR (some l0)), some (vR l1), some (vI l2), some (vI l3), some (vI l4), none, none] [vI (l2 + (1 : Int32))] M from ?_)
    exact RN_weak (K := [some (vR (some l0)), some (vR l1), none, some (vI l3), some (vI l4), none, none]) (callX_det _) (show _ ∧ _ ∧ _ ∧ _ ∧ True from ⟨rfl, rfl, rfl, rfl, trivial⟩) (t98_13  l0 l1 l3 l4 (l2 + (1 : Int32)) _ hM h)
  · replace h := h.2 hc
    refine RN_k (callX_det _) 2 _ _ _ _ (show R98 sl sx d M0 P 13 [some (vR (some l0)), some (vR l1), some (vI l2), some (vI l3), some (vI l4), none, none] [vI l2] M from ?_)
    exact RN_weak (K := [some (vR (some l0)), some (vR l1), none, some (vI l3), some (vI l4), none, none]) (callX_det _) (show _ ∧ _ ∧ _ ∧ _ ∧ True from ⟨rfl, rfl, rfl, rfl, trivial⟩) (t98_13  l0 l1 l3 l4 l2 _ hM h)
theorem c98 {sl : Nat} {sx : Nat → Int32} {d : Nat} {l0 : Nat} {l1 : Option Nat} {l2 : Int32} {l3 : Int32} {l4 : Int32} {M : MM} {P : Int32 → MM → Prop} (h : w98 l0 l1 l2 l3 l4 M P) : callX TBg sl sx (d + 1) 98 [vR (some l0), vR l1, vI l2, vI l3, vI l4] M (PI P) :=
  cX (d := d + 0) q98 (false, tb98) rfl rfl rfl (t98_E l0 l1 l2 l3 l4 M lenR h)
-- TwoLeash$Jumps.leastAhead([III)I
abbrev q97 : MQ7 := (4, 1, 6, 4, 0, 0, 1)
abbrev R97 (sl : Nat) (sx : Nat → Int32) (d : Nat) (M0 : MM) (P : Int32 → MM → Prop) : Nat → LL → List VV → MM → Prop := RN 4 false (mS M0).length (mT M0) 0 0 sl sx (callX TBg sl sx (d + 1)) (rtW q97 M0 (PI P)) (as2 tb97)
def w97_25 : Nat → Nat → Option Nat → Int32 → Int32 → Int32 → Int32 → MM → (Int32 → MM → Prop) → Prop
  | 0 => fun _ _ _ _ _ _ _ _ => False
  | n + 1 => fun l0 l1 l2 l3 l4 l5 M P => ((3 : Int32) ≤ l5 → (P l4 M)) ∧ (¬ ((3 : Int32) ≤ l5) → (kd M l0 4 ∧ w98 l0 l1 l2 l3 l5 M (fun r2 M1 => w70 l4 r2 M1 (fun r4 M3 => w97_25  n l0 l1 l2 l3 r4 (l5 + (1 : Int32)) M3 P))))
theorem t97_25 {sl : Nat} {sx : Nat → Int32} {d : Nat} {M0 : MM} {P : Int32 → MM → Prop} (n : Nat) : ∀ (l0 : Nat) (l1 : Option Nat) (l2 : Int32) (l3 : Int32) (l4 : Int32) (l5 : Int32) (M : MM) (_ : lenO M0 M) (_ : w97_25  n l0 l1 l2 l3 l4 l5 M P), R97 sl sx d M0 P 25 [some (vR (some l0)), some (vR l1), some (vI l2), some (vI l3), some (vI l4), some (vI l5)] [] M := by
  induction n with
  | zero => intro l0 l1 l2 l3 l4 l5 M hM h; cases h
  | succ n ih =>
    intro l0 l1 l2 l3 l4 l5 M hM h
    refine RN_k (callX_det _) 3 _ _ _ _ (show ((3 : Int32) ≤ l5 → R97 sl sx d M0 P 53 [some (vR (some l0)), some (vR l1), some (vI l2), some (vI l3), some (vI l4), some (vI l5)] [] M) ∧ (¬ ((3 : Int32) ≤ l5) → R97 sl sx d M0 P 31 [some (vR (some l0)), some (vR l1), some (vI l2), some (vI l3), some (vI l4), some (vI l5)] [] M) from ⟨fun hc => ?_, fun hc => ?_⟩)
    · replace h := h.1 hc
      exact RN_k (callX_det _) 2 _ _ _ _ (show rtW q97 M0 (PI P) (some (vI l4)) M from ⟨⟨_, rfl⟩, hM.1, hM.2, _, rfl, h⟩)
    · replace h := h.2 hc
      refine RN_k (callX_det _) 7 _ _ _ _ (show kd M l0 4 ∧ callX TBg sl sx (d + 1) 98 [vR (some l0), vR l1, vI l2, vI l3, vI l5] M (fun v M9 => R97 sl sx d M0 P 42 [some (vR (some l0)), some (vR l1), some (vI l2), some (vI l3), some (vI l4), some (vI l5)] (pushO v [vI l4]) M9) from ⟨h.1, ?_⟩)
      replace h := h.2
      refine callX_mono (callX_len (d := (d + 1)) rfl rfl rfl (c98 (d := d) h)) ?_
      clear h
      rintro v9 M1 ⟨hl, r2, rfl, h⟩
      replace hM := lenT hM hl
      show R97 sl sx d M0 P 42 [some (vR (some l0)), some (vR l1), some (vI l2), some (vI l3), some (vI l4), some (vI l5)] [vI r2, vI l4] M1
      refine RN_k (callX_det _) 1 _ _ _ _ (show callX TBg sl sx (d + 1) 70 [vI l4, vI r2] M1 (fun v M9 => R97 sl sx d M0 P 45 [some (vR (some l0)), some (vR l1), some (vI l2), some (vI l3), some (vI l4), some (vI l5)] (pushO v []) M9) from ?_)
      refine callX_mono (callX_len (d := (d + 1)) rfl rfl rfl (c70 (d := d) h)) ?_
      clear h
      rintro v9 M3 ⟨hl, r4, rfl, h⟩
      replace hM := lenT hM hl
      show R97 sl sx d M0 P 45 [some (vR (some l0)), some (vR l1), some (vI l2), some (vI l3), some (vI l4), some (vI l5)] [vI r4] M3
      refine RN_k (callX_det _) 3 _ _ _ _ (show R97 sl sx d M0 P 25 [some (vR (some l0)), some (vR l1), some (vI l2), some (vI l3), some (vI r4), some (vI (l5 + (1 : Int32)))] [] M3 from ?_)
      exact RN_weak (K := [some (vR (some l0)), some (vR l1), some (vI l2), some (vI l3), some (vI r4), some (vI (l5 + (1 : Int32)))]) (callX_det _) (show _ ∧ _ ∧ _ ∧ _ ∧ _ ∧ _ ∧ True from ⟨rfl, rfl, rfl, rfl, rfl, rfl, trivial⟩) (ih l0 l1 l2 l3 r4 (l5 + (1 : Int32)) _ hM h)
def w97_18 (l0 : Nat) (l1 : Option Nat) (l2 : Int32) (l3 : Int32) (M : MM) (P : Int32 → MM → Prop) : Prop := ∃ n2, w97_25  n2 l0 l1 l2 l3 (2147483647 : Int32) (0 : Int32) M P
theorem t97_18 {sl : Nat} {sx : Nat → Int32} {d : Nat} {M0 : MM} {P : Int32 → MM → Prop} (l0 : Nat) (l1 : Option Nat) (l2 : Int32) (l3 : Int32) (M : MM) (hM : lenO M0 M) (h : w97_18  l0 l1 l2 l3 M P) : R97 sl sx d M0 P 18 [some (vR (some l0)), some (vR l1), some (vI l2), some (vI l3), none, none] [] M := by
  refine RN_k (callX_det _) 4 _ _ _ _ (show R97 sl sx d M0 P 25 [some (vR (some l0)), some (vR l1), some (vI l2), some (vI l3), some (vI (2147483647 : Int32)), some (vI (0 : Int32))] [] M from ?_)
  obtain ⟨n2, h⟩ := h
  exact RN_weak (K := [some (vR (some l0)), some (vR l1), some (vI l2), some (vI l3), some (vI (2147483647 : Int32)), some (vI (0 : Int32))]) (callX_det _) (show _ ∧ _ ∧ _ ∧ _ ∧ _ ∧ _ ∧ True from ⟨rfl, rfl, rfl, rfl, rfl, rfl, trivial⟩) (t97_25  n2 l0 l1 l2 l3 (2147483647 : Int32) (0 : Int32) _ hM h)
def w97 (l0 : Nat) (l1 : Option Nat) (l2 : Int32) (l3 : Int32) (M : MM) (P : Int32 → MM → Prop) : Prop := kd M l0 4 ∧ ((l2 ≠ (mI M l0 5) → (w97_18  l0 l1 l2 l3 M P)) ∧ (¬ (l2 ≠ (mI M l0 5)) → (kd M l0 4 ∧ ((l3 ≠ (mI M l0 6) → (w97_18  l0 l1 l2 l3 M P)) ∧ (¬ (l3 ≠ (mI M l0 6)) → (P (0 : Int32) M))))))
theorem t97_E {sl : Nat} {sx : Nat → Int32} {d : Nat} {M0 : MM} {P : Int32 → MM → Prop} (l0 : Nat) (l1 : Option Nat) (l2 : Int32) (l3 : Int32) (M : MM) (hM : lenO M0 M) (h : w97  l0 l1 l2 l3 M P) : R97 sl sx d M0 P 0 [some (vR (some l0)), some (vR l1), some (vI l2), some (vI l3), none, none] [] M := by
  refine RN_k (callX_det _) 3 _ _ _ _ (show kd M l0 4 ∧ R97 sl sx d M0 P 5 [some (vR (some l0)), some (vR l1), some (vI l2), some (vI l3), none, none] [vI (mI M l0 5), vI l2] M from ⟨h.1, ?_⟩)
  replace h := h.2
  refine RN_k (callX_det _) 1 _ _ _ _ (show (l2 ≠ (mI M l0 5) → R97 sl sx d M0 P 18 [some (vR (some l0)), some (vR l1), some (vI l2), some (vI l3), none, none] [] M) ∧ (¬ (l2 ≠ (mI M l0 5)) → R97 sl sx d M0 P 8 [some (vR (some l0)), some (vR l1), some (vI l2), some (vI l3), none, none] [] M) from ⟨fun hc => ?_, fun hc => ?_⟩)
  · replace h := h.1 hc
    exact RN_weak (K := [some (vR (some l0)), some (vR l1), some (vI l2), some (vI l3), none, none]) (callX_det _) (show _ ∧ _ ∧ _ ∧ _ ∧ True from ⟨rfl, rfl, rfl, rfl, trivial⟩) (t97_18  l0 l1 l2 l3 _ hM h)
  · replace h := h.2 hc
    refine RN_k (callX_det _) 3 _ _ _ _ (show kd M l0 4 ∧ R97 sl sx d M0 P 13 [some (vR (some l0)), some (vR l1), some (vI l2), some (vI l3), none, none] [vI (mI M l0 6), vI l3] M from ⟨h.1, ?_⟩)
    replace h := h.2
    refine RN_k (callX_det _) 1 _ _ _ _ (show (l3 ≠ (mI M l0 6) → R97 sl sx d M0 P 18 [some (vR (some l0)), some (vR l1), some (vI l2), some (vI l3), none, none] [] M) ∧ (¬ (l3 ≠ (mI M l0 6)) → R97 sl sx d M0 P 16 [some (vR (some l0)), some (vR l1), some (vI l2), some (vI l3), none, none] [] M) from ⟨fun hc => ?_, fun hc => ?_⟩)
    · replace h := h.1 hc
      exact RN_weak (K := [some (vR (some l0)), some (vR l1), some (vI l2), some (vI l3), none, none]) (callX_det _) (show _ ∧ _ ∧ _ ∧ _ ∧ True from ⟨rfl, rfl, rfl, rfl, trivial⟩) (t97_18  l0 l1 l2 l3 _ hM h)
    · replace h := h.2 hc
      exact RN_k (callX_det _) 2 _ _ _ _ (show rtW q97 M0 (PI P) (some (vI (0 : Int32))) M from ⟨⟨_, rfl⟩, hM.1, hM.2, _, rfl, h⟩)
theorem c97 {sl : Nat} {sx : Nat → Int32} {d : Nat} {l0 : Nat} {l1 : Option Nat} {l2 : Int32} {l3 : Int32} {M : MM} {P : Int32 → MM → Prop} (h : w97 l0 l1 l2 l3 M P) : callX TBg sl sx (d + 2) 97 [vR (some l0), vR l1, vI l2, vI l3] M (PI P) :=
  cX (d := d + 1) q97 (false, tb97) rfl rfl rfl (t97_E l0 l1 l2 l3 M lenR h)
-- TwoLeash$Jumps.lay(LTwoLeash$Track;LTwoLeash$Track;)V
abbrev q96 : MQ7 := (3, 1, 6, 4, 0, 0, 0)
abbrev R96 (sl : Nat) (sx : Nat → Int32) (d : Nat) (M0 : MM) (P : MM → Prop) : Nat → LL → List VV → MM → Prop := RN 4 false (mS M0).length (mT M0) 0 0 sl sx (callX TBg sl sx (d + 2)) (rtW q96 M0 (PV P)) (as2 tb96)
def w96_35 (k25 : Nat → Option Nat → Option Nat → Int32 → MM → Prop) : Nat → Nat → Option Nat → Option Nat → Int32 → Int32 → MM → (MM → Prop) → Prop
  | 0 => fun _ _ _ _ _ _ _ => False
  | n + 1 => fun l0 l1 l2 l3 l4 M P => (l4 < 0 → (k25 l0 l1 l2 (l3 + (-1 : Int32)) M)) ∧ (¬ (l4 < 0) → (∃ a1, l1 = some a1 ∧ (kd M a1 8 ∧ w42 a1 l3 l2 l4 M (fun r3 M2 => kd M2 l0 4 ∧ (∃ a4, mR M2 l0 0 = some a4 ∧ (inb M2 a4 11 ((l3 * (8 : Int32)) + l4) ∧ (kd (sI M2 a4 ((l3 * (8 : Int32)) + l4).toNatClampNeg r3) l0 4 ∧ (kd (sI M2 a4 ((l3 * (8 : Int32)) + l4).toNatClampNeg r3) l0 4 ∧ (kd (sI M2 a4 ((l3 * (8 : Int32)) + l4).toNatClampNeg r3) l0 4 ∧ w97 l0 (mR (sI M2 a4 ((l3 * (8 : Int32)) + l4).toNatClampNeg r3) l0 1) l3 l4 (sI M2 a4 ((l3 * (8 : Int32)) + l4).toNatClampNeg r3) (fun r6 M5 => w33 r3 r6 M5 (fun r8 M7 => ∃ a9, mR (sI M2 a4 ((l3 * (8 : Int32)) + l4).toNatClampNeg r3) l0 1 = some a9 ∧ (inb M7 a9 11 ((l3 * (8 : Int32)) + l4) ∧ (w96_35 k25 n l0 (some a1) l2 l3 (l4 + (-1 : Int32)) (sI M7 a9 ((l3 * (8 : Int32)) + l4).toNatClampNeg r8) P)))))))))))))
theorem t96_35 {sl : Nat} {sx : Nat → Int32} {d : Nat} {M0 : MM} {P : MM → Prop} {k25 : Nat → Option Nat → Option Nat → Int32 → MM → Prop} (hk25 : ∀ (l0 : Nat) (l1 : Option Nat) (l2 : Option Nat) (l3 : Int32) (M : MM), lenO M0 M → k25 l0 l1 l2 l3 M → R96 sl sx d M0 P 25 [some (vR (some l0)), some (vR l1), some (vR l2), some (vI l3), none, none] [] M) (n : Nat) : ∀ (l0 : Nat) (l1 : Option Nat) (l2 : Option Nat) (l3 : Int32) (l4 : Int32) (M : MM) (_ : lenO M0 M) (_ : w96_35 k25 n l0 l1 l2 l3 l4 M P), R96 sl sx d M0 P 35 [some (vR (some l0)), some (vR l1), some (vR l2), some (vI l3), some (vI l4), none] [] M := by
  induction n with
  | zero => intro l0 l1 l2 l3 l4 M hM h; cases h
  | succ n ih =>
    intro l0 l1 l2 l3 l4 M hM h
    refine RN_k (callX_det _) 2 _ _ _ _ (show (l4 < 0 → R96 sl sx d M0 P 98 [some (vR (some l0)), some (vR l1), some (vR l2), some (vI l3), some (vI l4), none] [] M) ∧ (¬ (l4 < 0) → R96 sl sx d M0 P 40 [some (vR (some l0)), some (vR l1), some (vR l2), some (vI l3), some (vI l4), none] [] M) from ⟨fun hc => ?_, fun hc => ?_⟩)
    · replace h := h.1 hc
      refine RN_k (callX_det _) 2 _ _ _ _ (show R96 sl sx d M0 P 25 [some (vR (some l0)), some (vR l1), some (vR l2), some (vI (l3 + (-1 : Int32))), some (vI l4), none] [] M from ?_)
      exact RN_weak (K := [some (vR (some l0)), some (vR l1), some (vR l2), some (vI (l3 + (-1 : Int32))), none, none]) (callX_det _) (show _ ∧ _ ∧ _ ∧ _ ∧ True from ⟨rfl, rfl, rfl, rfl, trivial⟩) (hk25 l0 l1 l2 (l3 + (-1 : Int32)) _ hM h)
    · replace h := h.2 hc
      obtain ⟨a1, he, h⟩ := h
      refine RN_k (callX_det _) 4 _ _ _ _ (show R96 sl sx d M0 P 45 [some (vR (some l0)), some (vR l1), some (vR l2), some (vI l3), some (vI l4), none] [vI l4, vR l2, vI l3, vR l1] M from ?_)
      subst he
      refine RN_k (callX_det _) 1 _ _ _ _ (show kd M a1 8 ∧ callX TBg sl sx (d + 2) 42 [vR (some a1), vI l3, vR l2, vI l4] M (fun v M9 => R96 sl sx d M0 P 48 [some (vR (some l0)), some (vR (some a1)), some (vR l2), some (vI l3), some (vI l4), none] (pushO v []) M9) from ⟨h.1, ?_⟩)
      replace h := h.2
      refine callX_mono (callX_len (d := (d + 2)) rfl rfl rfl (c42 (d := d + 1) h)) ?_
      clear h
      rintro v9 M2 ⟨hl, r3, rfl, h⟩
      replace hM := lenT hM hl
      show R96 sl sx d M0 P 48 [some (vR (some l0)), some (vR (some a1)), some (vR l2), some (vI l3), some (vI l4), none] [vI r3] M2
      refine RN_k (callX_det _) 3 _ _ _ _ (show kd M2 l0 4 ∧ R96 sl sx d M0 P 54 [some (vR (some l0)), some (vR (some a1)), some (vR l2), some (vI l3), some (vI l4), some (vI r3)] [vR (mR M2 l0 0)] M2 from ⟨h.1, ?_⟩)
      replace h := h.2
      obtain ⟨a4, he, h⟩ := h
      refine RN_k (callX_det _) 6 _ _ _ _ (show R96 sl sx d M0 P 63 [some (vR (some l0)), some (vR (some a1)), some (vR l2), some (vI l3), some (vI l4), some (vI r3)] [vI r3, vI ((l3 * (8 : Int32)) + l4), vR (mR M2 l0 0)] M2 from ?_)
      rw [he]
      refine RN_k (callX_det _) 1 _ _ _ _ (show inb M2 a4 11 ((l3 * (8 : Int32)) + l4) ∧ R96 sl sx d M0 P 64 [some (vR (some l0)), some (vR (some a1)), some (vR l2), some (vI l3), some (vI l4), some (vI r3)] [] (sI M2 a4 ((l3 * (8 : Int32)) + l4).toNatClampNeg r3) from ⟨h.1, ?_⟩)
      replace h := h.2
      refine RN_k (callX_det _) 2 _ _ _ _ (show kd (sI M2 a4 ((l3 * (8 : Int32)) + l4).toNatClampNeg r3) l0 4 ∧ R96 sl sx d M0 P 68 [some (vR (some l0)), some (vR (some a1)), some (vR l2), some (vI l3), some (vI l4), some (vI r3)] [vR (mR (sI M2 a4 ((l3 * (8 : Int32)) + l4).toNatClampNeg r3) l0 1)] (sI M2 a4 ((l3 * (8 : Int32)) + l4).toNatClampNeg r3) from ⟨h.1, ?_⟩)
      replace h := h.2
      refine RN_k (callX_det _) 9 _ _ _ _ (show kd (sI M2 a4 ((l3 * (8 : Int32)) + l4).toNatClampNeg r3) l0 4 ∧ R96 sl sx d M0 P 82 [some (vR (some l0)), some (vR (some a1)), some (vR l2), some (vI l3), some (vI l4), some (vI r3)] [vR (mR (sI M2 a4 ((l3 * (8 : Int32)) + l4).toNatClampNeg r3) l0 1), vR (some l0), vI r3, vI ((l3 * (8 : Int32)) + l4), vR (mR (sI M2 a4 ((l3 * (8 : Int32)) + l4).toNatClampNeg r3) l0 1)] (sI M2 a4 ((l3 * (8 : Int32)) + l4).toNatClampNeg r3) from ⟨h.1, ?_⟩)
      replace h := h.2
      refine RN_k (callX_det _) 3 _ _ _ _ (show kd (sI M2 a4 ((l3 * (8 : Int32)) + l4).toNatClampNeg r3) l0 4 ∧ callX TBg sl sx (d + 2) 97 [vR (some l0), vR (mR (sI M2 a4 ((l3 * (8 : Int32)) + l4).toNatClampNeg r3) l0 1), vI l3, vI l4] (sI M2 a4 ((l3 * (8 : Int32)) + l4).toNatClampNeg r3) (fun v M9 => R96 sl sx d M0 P 88 [some (vR (some l0)), some (vR (some a1)), some (vR l2), some (vI l3), some (vI l4), some (vI r3)] (pushO v [vI r3, vI ((l3 * (8 : Int32)) + l4), vR (mR (sI M2 a4 ((l3 * (8 : Int32)) + l4).toNatClampNeg r3) l0 1)]) M9) from ⟨h.1, ?_⟩)
      replace h := h.2
      refine callX_mono (callX_len (d := (d + 2)) rfl rfl rfl (c97 (d := d) h)) ?_
      clear h
      rintro v9 M5 ⟨hl, r6, rfl, h⟩
      replace hM := lenT hM hl
      show R96 sl sx d M0 P 88 [some (vR (some l0)), some (vR (some a1)), some (vR l2), some (vI l3), some (vI l4), some (vI r3)] [vI r6, vI r3, vI ((l3 * (8 : Int32)) + l4), vR (mR (sI M2 a4 ((l3 * (8 : Int32)) + l4).toNatClampNeg r3) l0 1)] M5
      refine RN_k (callX_det _) 1 _ _ _ _ (show callX TBg sl sx (d + 2) 33 [vI r3, vI r6] M5 (fun v M9 => R96 sl sx d M0 P 91 [some (vR (some l0)), some (vR (some a1)), some (vR l2), some (vI l3), some (vI l4), some (vI r3)] (pushO v [vI ((l3 * (8 : Int32)) + l4), vR (mR (sI M2 a4 ((l3 * (8 : Int32)) + l4).toNatClampNeg r3) l0 1)]) M9) from ?_)
      refine callX_mono (callX_len (d := (d + 2)) rfl rfl rfl (c33 (d := d + 1) h)) ?_
      clear h
      rintro v9 M7 ⟨hl, r8, rfl, h⟩
      replace hM := lenT hM hl
      show R96 sl sx d M0 P 91 [some (vR (some l0)), some (vR (some a1)), some (vR l2), some (vI l3), some (vI l4), some (vI r3)] [vI r8, vI ((l3 * (8 : Int32)) + l4), vR (mR (sI M2 a4 ((l3 * (8 : Int32)) + l4).toNatClampNeg r3) l0 1)] M7
      obtain ⟨a9, he, h⟩ := h
      rw [he]
      refine RN_k (callX_det _) 1 _ _ _ _ (show inb M7 a9 11 ((l3 * (8 : Int32)) + l4) ∧ R96 sl sx d M0 P 92 [some (vR (some l0)), some (vR (some a1)), some (vR l2), some (vI l3), some (vI l4), some (vI r3)] [] (sI M7 a9 ((l3 * (8 : Int32)) + l4).toNatClampNeg r8) from ⟨h.1, ?_⟩)
      replace h := h.2
      refine RN_k (callX_det _) 2 _ _ _ _ (show R96 sl sx d M0 P 35 [some (vR (some l0)), some (vR (some a1)), some (vR l2), some (vI l3), some (vI (l4 + (-1 : Int32))), some (vI r3)] [] (sI M7 a9 ((l3 * (8 : Int32)) + l4).toNatClampNeg r8) from ?_)
      exact RN_weak (K := [some (vR (some l0)), some (vR (some a1)), some (vR l2), some (vI l3), some (vI (l4 + (-1 : Int32))), none]) (callX_det _) (show _ ∧ _ ∧ _ ∧ _ ∧ _ ∧ True from ⟨rfl, rfl, rfl, rfl, rfl, trivial⟩) (ih l0 (some a1) l2 l3 (l4 + (-1 : Int32)) _ hM h)
def w96_25 : Nat → Nat → Option Nat → Option Nat → Int32 → MM → (MM → Prop) → Prop
  | 0 => fun _ _ _ _ _ _ => False
  | n + 1 => fun l0 l1 l2 l3 M P => (l3 < 0 → (P M)) ∧ (¬ (l3 < 0) → (kd M l0 4 ∧ (∃ n2, w96_35 (fun z0 z1 z2 z3 z4 => w96_25  n z0 z1 z2 z3 z4 P) n2 l0 l1 l2 l3 (mI M l0 6) M P)))
theorem t96_25 {sl : Nat} {sx : Nat → Int32} {d : Nat} {M0 : MM} {P : MM → Prop} (n : Nat) : ∀ (l0 : Nat) (l1 : Option Nat) (l2 : Option Nat) (l3 : Int32) (M : MM) (_ : lenO M0 M) (_ : w96_25  n l0 l1 l2 l3 M P), R96 sl sx d M0 P 25 [some (vR (some l0)), some (vR l1), some (vR l2), some (vI l3), none, none] [] M := by
  induction n with
  | zero => intro l0 l1 l2 l3 M hM h; cases h
  | succ n ih =>
    intro l0 l1 l2 l3 M hM h
    refine RN_k (callX_det _) 2 _ _ _ _ (show (l3 < 0 → R96 sl sx d M0 P 104 [some (vR (some l0)), some (vR l1), some (vR l2), some (vI l3), none, none] [] M) ∧ (¬ (l3 < 0) → R96 sl sx d M0 P 29 [some (vR (some l0)), some (vR l1), some (vR l2), some (vI l3), none, none] [] M) from ⟨fun hc => ?_, fun hc => ?_⟩)
    · replace h := h.1 hc
      exact RN_k (callX_det _) 1 _ _ _ _ (show rtW q96 M0 (PV P) none M from ⟨rfl, hM.1, hM.2, rfl, h⟩)
    · replace h := h.2 hc
      refine RN_k (callX_det _) 2 _ _ _ _ (show kd M l0 4 ∧ R96 sl sx d M0 P 33 [some (vR (some l0)), some (vR l1), some (vR l2), some (vI l3), none, none] [vI (mI M l0 6)] M from ⟨h.1, ?_⟩)
      replace h := h.2
      refine RN_k (callX_det _) 1 _ _ _ _ (show R96 sl sx d M0 P 35 [some (vR (some l0)), some (vR l1), some (vR l2), some (vI l3), some (vI (mI M l0 6)), none] [] M from ?_)
      obtain ⟨n2, h⟩ := h
      exact RN_weak (K := [some (vR (some l0)), some (vR l1), some (vR l2), some (vI l3), some (vI (mI M l0 6)), none]) (callX_det _) (show _ ∧ _ ∧ _ ∧ _ ∧ _ ∧ True from ⟨rfl, rfl, rfl, rfl, rfl, trivial⟩) (t96_35 ih n2 l0 l1 l2 l3 (mI M l0 6) _ hM h)
def w96 (l0 : Nat) (l1 : Option Nat) (l2 : Option Nat) (M : MM) (P : MM → Prop) : Prop := ∃ a1, l1 = some a1 ∧ (kd M a1 8 ∧ (kd M l0 4 ∧ (∃ a2, l2 = some a2 ∧ (kd (sI M l0 5 ((mI M a1 1) - (1 : Int32))) a2 8 ∧ (kd (sI M l0 5 ((mI M a1 1) - (1 : Int32))) l0 4 ∧ (kd (sI (sI M l0 5 ((mI M a1 1) - (1 : Int32))) l0 6 ((mI (sI M l0 5 ((mI M a1 1) - (1 : Int32))) a2 1) - (1 : Int32))) l0 4 ∧ (∃ n2, w96_25  n2 l0 (some a1) (some a2) (mI (sI (sI M l0 5 ((mI M a1 1) - (1 : Int32))) l0 6 ((mI (sI M l0 5 ((mI M a1 1) - (1 : Int32))) a2 1) - (1 : Int32))) l0 5) (sI (sI M l0 5 ((mI M a1 1) - (1 : Int32))) l0 6 ((mI (sI M l0 5 ((mI M a1 1) - (1 : Int32))) a2 1) - (1 : Int32))) P)))))))
theorem t96_E {sl : Nat} {sx : Nat → Int32} {d : Nat} {M0 : MM} {P : MM → Prop} (l0 : Nat) (l1 : Option Nat) (l2 : Option Nat) (M : MM) (hM : lenO M0 M) (h : w96  l0 l1 l2 M P) : R96 sl sx d M0 P 0 [some (vR (some l0)), some (vR l1), some (vR l2), none, none, none] [] M := by
  obtain ⟨a1, he, h⟩ := h
  refine RN_k (callX_det _) 2 _ _ _ _ (show R96 sl sx d M0 P 2 [some (vR (some l0)), some (vR l1), some (vR l2), none, none, none] [vR l1, vR (some l0)] M from ?_)
  subst he
  refine RN_k (callX_det _) 1 _ _ _ _ (show kd M a1 8 ∧ R96 sl sx d M0 P 5 [some (vR (some l0)), some (vR (some a1)), some (vR l2), none, none, none] [vI (mI M a1 1), vR (some l0)] M from ⟨h.1, ?_⟩)
  replace h := h.2
  refine RN_k (callX_det _) 3 _ _ _ _ (show kd M l0 4 ∧ R96 sl sx d M0 P 10 [some (vR (some l0)), some (vR (some a1)), some (vR l2), none, none, none] [] (sI M l0 5 ((mI M a1 1) - (1 : Int32))) from ⟨h.1, ?_⟩)
  replace h := h.2
  obtain ⟨a2, he, h⟩ := h
  refine RN_k (callX_det _) 2 _ _ _ _ (show R96 sl sx d M0 P 12 [some (vR (some l0)), some (vR (some a1)), some (vR l2), none, none, none] [vR l2, vR (some l0)] (sI M l0 5 ((mI M a1 1) - (1 : Int32))) from ?_)
  subst he
  refine RN_k (callX_det _) 1 _ _ _ _ (show kd (sI M l0 5 ((mI M a1 1) - (1 : Int32))) a2 8 ∧ R96 sl sx d M0 P 15 [some (vR (some l0)), some (vR (some a1)), some (vR (some a2)), none, none, none] [vI (mI (sI M l0 5 ((mI M a1 1) - (1 : Int32))) a2 1), vR (some l0)] (sI M l0 5 ((mI M a1 1) - (1 : Int32))) from ⟨h.1, ?_⟩)
  replace h := h.2
  refine RN_k (callX_det _) 3 _ _ _ _ (show kd (sI M l0 5 ((mI M a1 1) - (1 : Int32))) l0 4 ∧ R96 sl sx d M0 P 20 [some (vR (some l0)), some (vR (some a1)), some (vR (some a2)), none, none, none] [] (sI (sI M l0 5 ((mI M a1 1) - (1 : Int32))) l0 6 ((mI (sI M l0 5 ((mI M a1 1) - (1 : Int32))) a2 1) - (1 : Int32))) from ⟨h.1, ?_⟩)
  replace h := h.2
  refine RN_k (callX_det _) 2 _ _ _ _ (show kd (sI (sI M l0 5 ((mI M a1 1) - (1 : Int32))) l0 6 ((mI (sI M l0 5 ((mI M a1 1) - (1 : Int32))) a2 1) - (1 : Int32))) l0 4 ∧ R96 sl sx d M0 P 24 [some (vR (some l0)), some (vR (some a1)), some (vR (some a2)), none, none, none] [vI (mI (sI (sI M l0 5 ((mI M a1 1) - (1 : Int32))) l0 6 ((mI (sI M l0 5 ((mI M a1 1) - (1 : Int32))) a2 1) - (1 : Int32))) l0 5)] (sI (sI M l0 5 ((mI M a1 1) - (1 : Int32))) l0 6 ((mI (sI M l0 5 ((mI M a1 1) - (1 : Int32))) a2 1) - (1 : Int32))) from ⟨h.1, ?_⟩)
  replace h := h.2
  refine RN_k (callX_det _) 1 _ _ _ _ (show R96 sl sx d M0 P 25 [some (vR (some l0)), some (vR (some a1)), some (vR (some a2)), some (vI (mI (sI (sI M l0 5 ((mI M a1 1) - (1 : Int32))) l0 6 ((mI (sI M l0 5 ((mI M a1 1) - (1 : Int32))) a2 1) - (1 : Int32))) l0 5)), none, none] [] (sI (sI M l0 5 ((mI M a1 1) - (1 : Int32))) l0 6 ((mI (sI M l0 5 ((mI M a1 1) - (1 : Int32))) a2 1) - (1 : Int32))) from ?_)
  obtain ⟨n2, h⟩ := h
  exact RN_weak (K := [some (vR (some l0)), some (vR (some a1)), some (vR (some a2)), some (vI (mI (sI (sI M l0 5 ((mI M a1 1) - (1 : Int32))) l0 6 ((mI (sI M l0 5 ((mI M a1 1) - (1 : Int32))) a2 1) - (1 : Int32))) l0 5)), none, none]) (callX_det _) (show _ ∧ _ ∧ _ ∧ _ ∧ True from ⟨rfl, rfl, rfl, rfl, trivial⟩) (t96_25  n2 l0 (some a1) (some a2) (mI (sI (sI M l0 5 ((mI M a1 1) - (1 : Int32))) l0 6 ((mI (sI M l0 5 ((mI M a1 1) - (1 : Int32))) a2 1) - (1 : Int32))) l0 5) _ hM h)
theorem c96 {sl : Nat} {sx : Nat → Int32} {d : Nat} {l0 : Nat} {l1 : Option Nat} {l2 : Option Nat} {M : MM} {P : MM → Prop} (h : w96 l0 l1 l2 M P) : callX TBg sl sx (d + 3) 96 [vR (some l0), vR l1, vR l2] M (PV P) :=
  cX (d := d + 2) q96 (false, tb96) rfl rfl rfl (t96_E l0 l1 l2 M lenR h)
-- TwoLeash$Jumps.leash()I
abbrev q99 : MQ7 := (1, 1, 1, 4, 0, 0, 1)
abbrev R99 (sl : Nat) (sx : Nat → Int32) (d : Nat) (M0 : MM) (P : Int32 → MM → Prop) : Nat → LL → List VV → MM → Prop := RN 4 false (mS M0).length (mT M0) 0 0 sl sx (callX TBg sl sx (d + 0)) (rtW q99 M0 (PI P)) (as2 tb99)
def w99 (l0 : Nat) (M : MM) (P : Int32 → MM → Prop) : Prop := kd M l0 4 ∧ (∃ a1, mR M l0 1 = some a1 ∧ (inb M a1 11 (0 : Int32) ∧ (P (mI M a1 (0 : Int32).toNatClampNeg) M)))
theorem t99_E {sl : Nat} {sx : Nat → Int32} {d : Nat} {M0 : MM} {P : Int32 → MM → Prop} (l0 : Nat) (M : MM) (hM : lenO M0 M) (h : w99  l0 M P) : R99 sl sx d M0 P 0 [some (vR (some l0))] [] M := by
  refine RN_k (callX_det _) 2 _ _ _ _ (show kd M l0 4 ∧ R99 sl sx d M0 P 4 [some (vR (some l0))] [vR (mR M l0 1)] M from ⟨h.1, ?_⟩)
  replace h := h.2
  obtain ⟨a1, he, h⟩ := h
  refine RN_k (callX_det _) 1 _ _ _ _ (show R99 sl sx d M0 P 5 [some (vR (some l0))] [vI (0 : Int32), vR (mR M l0 1)] M from ?_)
  rw [he]
  refine RN_k (callX_det _) 1 _ _ _ _ (show inb M a1 11 (0 : Int32) ∧ R99 sl sx d M0 P 6 [some (vR (some l0))] [vI (mI M a1 (0 : Int32).toNatClampNeg)] M from ⟨h.1, ?_⟩)
  replace h := h.2
  exact RN_k (callX_det _) 1 _ _ _ _ (show rtW q99 M0 (PI P) (some (vI (mI M a1 (0 : Int32).toNatClampNeg))) M from ⟨⟨_, rfl⟩, hM.1, hM.2, _, rfl, h⟩)
theorem c99 {sl : Nat} {sx : Nat → Int32} {d : Nat} {l0 : Nat} {M : MM} {P : Int32 → MM → Prop} (h : w99 l0 M P) : callX TBg sl sx (d + 1) 99 [vR (some l0)] M (PI P) :=
  cX (d := d + 0) q99 (false, tb99) rfl rfl rfl (t99_E l0 M lenR h)
-- TwoLeash$Cells.bitOf(II)J
abbrev q102 : MQ7 := (2, 0, 2, 1, 0, 0, 2)
abbrev R102 (sl : Nat) (sx : Nat → Int32) (d : Nat) (M0 : MM) (P : Int64 → MM → Prop) : Nat → LL → List VV → MM → Prop := RN 1 false (mS M0).length (mT M0) 0 0 sl sx (callX TBg sl sx (d + 0)) (rtW q102 M0 (PL P)) (as2 tb102)
def w102 (l0 : Int32) (l1 : Int32) (M : MM) (P : Int64 → MM → Prop) : Prop := P ((1 : Int64) <<< (((l0 * (7 : Int32)) + l1).toInt64 &&& 63)) M
theorem t102_E {sl : Nat} {sx : Nat → Int32} {d : Nat} {M0 : MM} {P : Int64 → MM → Prop} (l0 : Int32) (l1 : Int32) (M : MM) (hM : lenO M0 M) (h : w102  l0 l1 M P) : R102 sl sx d M0 P 0 [some (vI l0), some (vI l1)] [] M := by
  exact RN_k (callX_det _) 8 _ _ _ _ (show rtW q102 M0 (PL P) (some (vL ((1 : Int64) <<< (((l0 * (7 : Int32)) + l1).toInt64 &&& 63)))) M from ⟨⟨_, rfl⟩, hM.1, hM.2, _, rfl, h⟩)
theorem c102 {sl : Nat} {sx : Nat → Int32} {d : Nat} {l0 : Int32} {l1 : Int32} {M : MM} {P : Int64 → MM → Prop} (h : w102 l0 l1 M P) : callX TBg sl sx (d + 1) 102 [vI l0, vI l1] M (PL P) :=
  cX (d := d + 0) q102 (false, tb102) rfl rfl rfl (t102_E l0 l1 M lenR h)
-- TwoLeash$Cells.join(JJ)J
abbrev q103 : MQ7 := (2, 0, 4, 1, 0, 0, 2)
abbrev R103 (sl : Nat) (sx : Nat → Int32) (d : Nat) (M0 : MM) (P : Int64 → MM → Prop) : Nat → LL → List VV → MM → Prop := RN 1 false (mS M0).length (mT M0) 0 0 sl sx (callX TBg sl sx (d + 0)) (rtW q103 M0 (PL P)) (as2 tb103)
def w103_15 (s0 : Int64) (M : MM) (P : Int64 → MM → Prop) : Prop := P s0 M
theorem t103_15 {sl : Nat} {sx : Nat → Int32} {d : Nat} {M0 : MM} {P : Int64 → MM → Prop} (s0 : Int64) (M : MM) (hM : lenO M0 M) (h : w103_15  s0 M P) : R103 sl sx d M0 P 15 [none, none, none, none] [vL s0] M := by
  exact RN_k (callX_det _) 1 _ _ _ _ (show rtW q103 M0 (PL P) (some (vL s0)) M from ⟨⟨_, rfl⟩, hM.1, hM.2, _, rfl, h⟩)
def w103 (l0 : Int64) (l2 : Int64) (M : MM) (P : Int64 → MM → Prop) : Prop := ((lg_cmp (l0 &&& l2) (0 : Int64)) = 0 → (w103_15  l0 M P)) ∧ (¬ ((lg_cmp (l0 &&& l2) (0 : Int64)) = 0) → (w103_15  (l0 ||| l2) M P))
theorem t103_E {sl : Nat} {sx : Nat → Int32} {d : Nat} {M0 : MM} {P : Int64 → MM → Prop} (l0 : Int64) (l2 : Int64) (M : MM) (hM : lenO M0 M) (h : w103  l0 l2 M P) : R103 sl sx d M0 P 0 [some (vL l0), none, some (vL l2), none] [] M := by
  refine RN_k (callX_det _) 6 _ _ _ _ (show ((lg_cmp (l0 &&& l2) (0 : Int64)) = 0 → R103 sl sx d M0 P 14 [some (vL l0), none, some (vL l2), none] [] M) ∧ (¬ ((lg_cmp (l0 &&& l2) (0 : Int64)) = 0) → R103 sl sx d M0 P 8 [some (vL l0), none, some (vL l2), none] [] M) from ⟨fun hc => ?_, fun hc => ?_⟩)
  · replace h := h.1 hc
    refine RN_k (callX_det _) 1 _ _ _ _ (show R103 sl sx d M0 P 15 [some (vL l0), none, some (vL l2), none] [vL l0] M from ?_)
    exact RN_weak (K := [none, none, none, none]) (callX_det _) (show True from trivial) (t103_15  l0 _ hM h)
  · replace h := h.2 hc
    refine RN_k (callX_det _) 4 _ _ _ _ (show R103 sl sx d M0 P 15 [some (vL l0), none, some (vL l2), none] [vL (l0 ||| l2)] M from ?_)
    exact RN_weak (K := [none, none, none, none]) (callX_det _) (show True from trivial) (t103_15  (l0 ||| l2) _ hM h)
theorem c103 {sl : Nat} {sx : Nat → Int32} {d : Nat} {l0 : Int64} {l2 : Int64} {M : MM} {P : Int64 → MM → Prop} (h : w103 l0 l2 M P) : callX TBg sl sx (d + 1) 103 [vL l0, vL l2] M (PL P) :=
  cX (d := d + 0) q103 (false, tb103) rfl rfl rfl (t103_E l0 l2 M lenR h)
-- TwoLeash$Cells.isStrolled()Z
abbrev q101 : MQ7 := (1, 1, 10, 1, 0, 0, 4)
abbrev R101 (sl : Nat) (sx : Nat → Int32) (d : Nat) (M0 : MM) (P : Int32 → MM → Prop) : Nat → LL → List VV → MM → Prop := RN 1 false (mS M0).length (mT M0) 0 0 sl sx (callX TBg sl sx (d + 1)) (rtW q101 M0 (PI P)) (as2 tb101)
def w101_178 (s0 : Int32) (M : MM) (P : Int32 → MM → Prop) : Prop := (s0 = 0 ∨ s0 = 1) ∧ P s0 M
theorem t101_178 {sl : Nat} {sx : Nat → Int32} {d : Nat} {M0 : MM} {P : Int32 → MM → Prop} (s0 : Int32) (M : MM) (hM : lenO M0 M) (h : w101_178  s0 M P) : R101 sl sx d M0 P 178 [none, none, none, none, none, none, none, none, none, none] [vI s0] M := by
  exact RN_k (callX_det _) 1 _ _ _ _ (show rtW q101 M0 (PI P) (some (vI s0)) M from ⟨⟨_, rfl, h.1⟩, hM.1, hM.2, _, rfl, h.2⟩)
def w101_165 (l1 : Int64) (l3 : Int64) (M : MM) (P : Int32 → MM → Prop) : Prop := ((lg_cmp (l3 &&& l1) (0 : Int64)) = 0 → (w101_178  (0 : Int32) M P)) ∧ (¬ ((lg_cmp (l3 &&& l1) (0 : Int64)) = 0) → (w101_178  (1 : Int32) M P))
theorem t101_165 {sl : Nat} {sx : Nat → Int32} {d : Nat} {M0 : MM} {P : Int32 → MM → Prop} (l1 : Int64) (l3 : Int64) (M : MM) (hM : lenO M0 M) (h : w101_165  l1 l3 M P) : R101 sl sx d M0 P 165 [none, some (vL l1), none, some (vL l3), none, none, none, none, none, none] [] M := by
  refine RN_k (callX_det _) 6 _ _ _ _ (show ((lg_cmp (l3 &&& l1) (0 : Int64)) = 0 → R101 sl sx d M0 P 177 [none, some (vL l1), none, some (vL l3), none, none, none, none, none, none] [] M) ∧ (¬ ((lg_cmp (l3 &&& l1) (0 : Int64)) = 0) → R101 sl sx d M0 P 173 [none, some (vL l1), none, some (vL l3), none, none, none, none, none, none] [] M) from ⟨fun hc => ?_, fun hc => ?_⟩)
  · replace h := h.1 hc
    refine RN_k (callX_det _) 1 _ _ _ _ (show R101 sl sx d M0 P 178 [none, some (vL l1), none, some (vL l3), none, none, none, none, none, none] [vI (0 : Int32)] M from ?_)
    exact RN_weak (K := [none, none, none, none, none, none, none, none, none, none]) (callX_det _) (show True from trivial) (t101_178  (0 : Int32) _ hM h)
  · replace h := h.2 hc
    refine RN_k (callX_det _) 2 _ _ _ _ (show R101 sl sx d M0 P 178 [none, some (vL l1), none, some (vL l3), none, none, none, none, none, none] [vI (1 : Int32)] M from ?_)
    exact RN_weak (K := [none, none, none, none, none, none, none, none, none, none]) (callX_det _) (show True from trivial) (t101_178  (1 : Int32) _ hM h)
def w101_147 (k24 : Nat → Int64 → Int64 → Int64 → Int32 → MM → Prop) (k44 : Nat → Int64 → Int64 → Int64 → Int32 → Int32 → MM → Prop) (k56 : Nat → Int64 → Int64 → Int64 → Int32 → Int32 → Int32 → MM → Prop) (l0 : Nat) (l1 : Int64) (l3 : Int64) (l5 : Int64) (l7 : Int32) (l8 : Int32) (l9 : Int32) (M : MM) (P : Int32 → MM → Prop) : Prop := k56 l0 l1 l3 l5 l7 l8 (l9 + (1 : Int32)) M
theorem t101_147 {sl : Nat} {sx : Nat → Int32} {d : Nat} {M0 : MM} {P : Int32 → MM → Prop} {k24 : Nat → Int64 → Int64 → Int64 → Int32 → MM → Prop} {k44 : Nat → Int64 → Int64 → Int64 → Int32 → Int32 → MM → Prop} {k56 : Nat → Int64 → Int64 → Int64 → Int32 → Int32 → Int32 → MM → Prop} (hk24 : ∀ (l0 : Nat) (l1 : Int64) (l3 : Int64) (l5 : Int64) (l7 : Int32) (M : MM), lenO M0 M → k24 l0 l1 l3 l5 l7 M → R101 sl sx d M0 P 24 [some (vR (some l0)), some (vL l1), none, some (vL l3), none, some (vL l5), none, some (vI l7), none, none] [] M) (hk44 : ∀ (l0 : Nat) (l1 : Int64) (l3 : Int64) (l5 : Int64) (l7 : Int32) (l8 : Int32) (M : MM), lenO M0 M → k44 l0 l1 l3 l5 l7 l8 M → R101 sl sx d M0 P 44 [some (vR (some l0)), some (vL l1), none, some (vL l3), none, some (vL l5), none, some (vI l7), some (vI l8), none] [] M) (hk56 : ∀ (l0 : Nat) (l1 : Int64) (l3 : Int64) (l5 : Int64) (l7 : Int32) (l8 : Int32) (l9 : Int32) (M : MM), lenO M0 M → k56 l0 l1 l3 l5 l7 l8 l9 M → R101 sl sx d M0 P 56 [some (vR (some l0)), some (vL l1), none, some (vL l3), none, some (vL l5), none, some (vI l7), some (vI l8), some (vI l9)] [] M) (l0 : Nat) (l1 : Int64) (l3 : Int64) (l5 : Int64) (l7 : Int32) (l8 : Int32) (l9 : Int32) (M : MM) (hM : lenO M0 M) (h : w101_147 k24 k44 k56 l0 l1 l3 l5 l7 l8 l9 M P) : R101 sl sx d M0 P 147 [some (vR (some l0)), some (vL l1), none, some (vL l3), none, some (vL l5), none, some (vI l7), some (vI l8), some (vI l9)] [] M := by
  refine RN_k (callX_det _) 2 _ _ _ _ (show R101 sl sx d M0 P 56 [some (vR (some l0)), some (vL l1), none, some (vL l3), none, some (vL l5), none, some (vI l7), some (vI l8), some (vI (l9 + (1 : Int32)))] [] M from ?_)
  exact RN_weak (K := [some (vR (some l0)), some (vL l1), none, some (vL l3), none, some (vL l5), none, some (vI l7), some (vI l8), some (vI (l9 + (1 : Int32)))]) (callX_det _) (show _ ∧ _ ∧ _ ∧ _ ∧ _ ∧ _ ∧ _ ∧ True from ⟨rfl, rfl, rfl, rfl, rfl, rfl, rfl, trivial⟩) (hk56 l0 l1 l3 l5 l7 l8 (l9 + (1 : Int32)) _ hM h)
def w101_106 (k24 : Nat → Int64 → Int64 → Int64 → Int32 → MM → Prop) (k44 : Nat → Int64 → Int64 → Int64 → Int32 → Int32 → MM → Prop) (k56 : Nat → Int64 → Int64 → Int64 → Int32 → Int32 → Int32 → MM → Prop) (l0 : Nat) (l1 : Int64) (l3 : Int64) (l5 : Int64) (l7 : Int32) (l8 : Int32) (l9 : Int32) (M : MM) (P : Int32 → MM → Prop) : Prop := (l9 ≤ 0 → (w101_147 k24 k44 k56 l0 l1 l3 l5 l7 l8 l9 M P)) ∧ (¬ (l9 ≤ 0) → (kd M l0 1 ∧ w82 l0 l8 l9 M (fun r2 M1 => ∃ a3, r2 = some a3 ∧ (kd M1 a3 7 ∧ (((mI M1 a3 9) = 0 → (w101_147 k24 k44 k56 l0 l1 l3 l5 l7 l8 l9 M1 P)) ∧ (¬ ((mI M1 a3 9) = 0) → (w102 l8 (l9 - (1 : Int32)) M1 (fun r5 M4 => w102 l8 l9 M4 (fun r7 M6 => w103 l3 (r5 ||| r7) M6 (fun r9 M8 => w101_147 k24 k44 k56 l0 l1 r9 l5 l7 l8 l9 M8 P))))))))))
theorem t101_106 {sl : Nat} {sx : Nat → Int32} {d : Nat} {M0 : MM} {P : Int32 → MM → Prop} {k24 : Nat → Int64 → Int64 → Int64 → Int32 → MM → Prop} {k44 : Nat → Int64 → Int64 → Int64 → Int32 → Int32 → MM → Prop} {k56 : Nat → Int64 → Int64 → Int64 → Int32 → Int32 → Int32 → MM → Prop} (hk24 : ∀ (l0 : Nat) (l1 : Int64) (l3 : Int64) (l5 : Int64) (l7 : Int32) (M : MM), lenO M0 M → k24 l0 l1 l3 l5 l7 M → R101 sl sx d M0 P 24 [some (vR (some l0)), some (vL l1), none, some (vL l3), none, some (vL l5), none, some (vI l7), none, none] [] M) (hk44 : ∀ (l0 : Nat) (l1 : Int64) (l3 : Int64) (l5 : Int64) (l7 : Int32) (l8 : Int32) (M : MM), lenO M0 M → k44 l0 l1 l3 l5 l7 l8 M → R101 sl sx d M0 P 44 [some (vR (some l0)), some (vL l1), none, some (vL l3), none, some (vL l5), none, some (vI l7), some (vI l8), none] [] M) (hk56 : ∀ (l0 : Nat) (l1 : Int64) (l3 : Int64) (l5 : Int64) (l7 : Int32) (l8 : Int32) (l9 : Int32) (M : MM), lenO M0 M → k56 l0 l1 l3 l5 l7 l8 l9 M → R101 sl sx d M0 P 56 [some (vR (some l0)), some (vL l1), none, some (vL l3), none, some (vL l5), none, some (vI l7), some (vI l8), some (vI l9)] [] M) (l0 : Nat) (l1 : Int64) (l3 : Int64) (l5 : Int64) (l7 : Int32) (l8 : Int32) (l9 : Int32) (M : MM) (hM : lenO M0 M) (h : w101_106 k24 k44 k56 l0 l1 l3 l5 l7 l8 l9 M P) : R101 sl sx d M0 P 106 [some (vR (some l0)), some (vL l1), none, some (vL l3), none, some (vL l5), none, some (vI l7), some (vI l8), some (vI l9)] [] M := by
  refine RN_k (callX_det _) 2 _ _ _ _ (show (l9 ≤ 0 → R101 sl sx d M0 P 147 [some (vR (some l0)), some (vL l1), none, some (vL l3), none, some (vL l5), none, some (vI l7), some (vI l8), some (vI l9)] [] M) ∧ (¬ (l9 ≤ 0) → R101 sl sx d M0 P 111 [some (vR (some l0)), some (vL l1), none, some (vL l3), none, some (vL l5), none, some (vI l7), some (vI l8), some (vI l9)] [] M) from ⟨fun hc => ?_, fun hc => ?_⟩)
  · replace h := h.1 hc
    exact RN_weak (K := [some (vR (some l0)), some (vL l1), none, some (vL l3), none, some (vL l5), none, some (vI l7), some (vI l8), some (vI l9)]) (callX_det _) (show _ ∧ _ ∧ _ ∧ _ ∧ _ ∧ _ ∧ _ ∧ True from ⟨rfl, rfl, rfl, rfl, rfl, rfl, rfl, trivial⟩) (t101_147 hk24 hk44 hk56 l0 l1 l3 l5 l7 l8 l9 _ hM h)
  · replace h := h.2 hc
    refine RN_k (callX_det _) 4 _ _ _ _ (show kd M l0 1 ∧ callX TBg sl sx (d + 1) 82 [vR (some l0), vI l8, vI l9] M (fun v M9 => R101 sl sx d M0 P 119 [some (vR (some l0)), some (vL l1), none, some (vL l3), none, some (vL l5), none, some (vI l7), some (vI l8), some (vI l9)] (pushO v []) M9) from ⟨h.1, ?_⟩)
    replace h := h.2
    refine callX_mono (callX_len (d := (d + 1)) rfl rfl rfl (c82 (d := d) h)) ?_
    clear h
    rintro v9 M1 ⟨hl, r2, rfl, h⟩
    replace hM := lenT hM hl
    show R101 sl sx d M0 P 119 [some (vR (some l0)), some (vL l1), none, some (vL l3), none, some (vL l5), none, some (vI l7), some (vI l8), some (vI l9)] [vR r2] M1
    obtain ⟨a3, he, h⟩ := h
    subst he
    refine RN_k (callX_det _) 1 _ _ _ _ (show kd M1 a3 7 ∧ R101 sl sx d M0 P 122 [some (vR (some l0)), some (vL l1), none, some (vL l3), none, some (vL l5), none, some (vI l7), some (vI l8), some (vI l9)] [vI (mI M1 a3 9)] M1 from ⟨h.1, ?_⟩)
    replace h := h.2
    refine RN_k (callX_det _) 1 _ _ _ _ (show ((mI M1 a3 9) = 0 → R101 sl sx d M0 P 147 [some (vR (some l0)), some (vL l1), none, some (vL l3), none, some (vL l5), none, some (vI l7), some (vI l8), some (vI l9)] [] M1) ∧ (¬ ((mI M1 a3 9) = 0) → R101 sl sx d M0 P 125 [some (vR (some l0)), some (vL l1), none, some (vL l3), none, some (vL l5), none, some (vI l7), some (vI l8), some (vI l9)] [] M1) from ⟨fun hc => ?_, fun hc => ?_⟩)
    · replace h := h.1 hc
      exact RN_weak (K := [some (vR (some l0)), some (vL l1), none, some (vL l3), none, some (vL l5), none, some (vI l7), some (vI l8), some (vI l9)]) (callX_det _) (show _ ∧ _ ∧ _ ∧ _ ∧ _ ∧ _ ∧ _ ∧ True from ⟨rfl, rfl, rfl, rfl, rfl, rfl, rfl, trivial⟩) (t101_147 hk24 hk44 hk56 l0 l1 l3 l5 l7 l8 l9 _ hM h)
    · replace h := h.2 hc
      refine RN_k (callX_det _) 6 _ _ _ _ (show callX TBg sl sx (d + 1) 102 [vI l8, vI (l9 - (1 : Int32))] M1 (fun v M9 => R101 sl sx d M0 P 135 [some (vR (some l0)), some (vL l1), none, some (vL l3), none, some (vL l5), none, some (vI l7), some (vI l8), some (vI l9)] (pushO v [vL l3]) M9) from ?_)
      refine callX_mono (callX_len (d := (d + 1)) rfl rfl rfl (c102 (d := d) h)) ?_
      clear h
      rintro v9 M4 ⟨hl, r5, rfl, h⟩
      replace hM := lenT hM hl
      show R101 sl sx d M0 P 135 [some (vR (some l0)), some (vL l1), none, some (vL l3), none, some (vL l5), none, some (vI l7), some (vI l8), some (vI l9)] [vL r5, vL l3] M4
      refine RN_k (callX_det _) 3 _ _ _ _ (show callX TBg sl sx (d + 1) 102 [vI l8, vI l9] M4 (fun v M9 => R101 sl sx d M0 P 142 [some (vR (some l0)), some (vL l1), none, some (vL l3), none, some (vL l5), none, some (vI l7), some (vI l8), some (vI l9)] (pushO v [vL r5, vL l3]) M9) from ?_)
      refine callX_mono (callX_len (d := (d + 1)) rfl rfl rfl (c102 (d := d) h)) ?_
      clear h
      rintro v9 M6 ⟨hl, r7, rfl, h⟩
      replace hM := lenT hM hl
      show R101 sl sx d M0 P 142 [some (vR (some l0)), some (vL l1), none, some (vL l3), none, some (vL l5), none, some (vI l7), some (vI l8), some (vI l9)] [vL r7, vL r5, vL l3] M6
      refine RN_k (callX_det _) 2 _ _ _ _ (show callX TBg sl sx (d + 1) 103 [vL l3, vL (r5 ||| r7)] M6 (fun v M9 => R101 sl sx d M0 P 146 [some (vR (some l0)), some (vL l1), none, some (vL l3), none, some (vL l5), none, some (vI l7), some (vI l8), some (vI l9)] (pushO v []) M9) from ?_)
      refine callX_mono (callX_len (d := (d + 1)) rfl rfl rfl (c103 (d := d) h)) ?_
      clear h
      rintro v9 M8 ⟨hl, r9, rfl, h⟩
      replace hM := lenT hM hl
      show R101 sl sx d M0 P 146 [some (vR (some l0)), some (vL l1), none, some (vL l3), none, some (vL l5), none, some (vI l7), some (vI l8), some (vI l9)] [vL r9] M8
      refine RN_k (callX_det _) 1 _ _ _ _ (show R101 sl sx d M0 P 147 [some (vR (some l0)), some (vL l1), none, some (vL r9), none, some (vL l5), none, some (vI l7), some (vI l8), some (vI l9)] [] M8 from ?_)
      exact RN_weak (K := [some (vR (some l0)), some (vL l1), none, some (vL r9), none, some (vL l5), none, some (vI l7), some (vI l8), some (vI l9)]) (callX_det _) (show _ ∧ _ ∧ _ ∧ _ ∧ _ ∧ _ ∧ _ ∧ True from ⟨rfl, rfl, rfl, rfl, rfl, rfl, rfl, trivial⟩) (t101_147 hk24 hk44 hk56 l0 l1 r9 l5 l7 l8 l9 _ hM h)
def w101_56 (k24 : Nat → Int64 → Int64 → Int64 → Int32 → MM → Prop) (k44 : Nat → Int64 → Int64 → Int64 → Int32 → Int32 → MM → Prop) : Nat → Nat → Int64 → Int64 → Int64 → Int32 → Int32 → Int32 → MM → (Int32 → MM → Prop) → Prop
  | 0 => fun _ _ _ _ _ _ _ _ _ => False
  | n + 1 => fun l0 l1 l3 l5 l7 l8 l9 M P => kd M l0 1 ∧ (((mI M l0 2) ≤ l9 → (k44 l0 l1 l3 l5 l7 (l8 + (1 : Int32)) M)) ∧ (¬ ((mI M l0 2) ≤ l9) → ((l8 ≤ 0 → (w101_106 k24 k44 (fun z0 z1 z2 z3 z4 z5 z6 z7 => w101_56 k24 k44 n z0 z1 z2 z3 z4 z5 z6 z7 P) l0 l1 l3 l5 l7 l8 l9 M P)) ∧ (¬ (l8 ≤ 0) → (kd M l0 1 ∧ w83 l0 l8 l9 M (fun r2 M1 => ∃ a3, r2 = some a3 ∧ (kd M1 a3 7 ∧ (((mI M1 a3 9) = 0 → (w101_106 k24 k44 (fun z0 z1 z2 z3 z4 z5 z6 z7 => w101_56 k24 k44 n z0 z1 z2 z3 z4 z5 z6 z7 P) l0 l1 l3 l5 l7 l8 l9 M1 P)) ∧ (¬ ((mI M1 a3 9) = 0) → (w102 (l8 - (1 : Int32)) l9 M1 (fun r5 M4 => w102 l8 l9 M4 (fun r7 M6 => w103 l3 (r5 ||| r7) M6 (fun r9 M8 => w101_106 k24 k44 (fun z0 z1 z2 z3 z4 z5 z6 z7 => w101_56 k24 k44 n z0 z1 z2 z3 z4 z5 z6 z7 P) l0 l1 r9 l5 l7 l8 l9 M8 P)))))))))))))
theorem t101_56 {sl : Nat} {sx : Nat → Int32} {d : Nat} {M0 : MM} {P : Int32 → MM → Prop} {k24 : Nat → Int64 → Int64 → Int64 → Int32 → MM → Prop} {k44 : Nat → Int64 → Int64 → Int64 → Int32 → Int32 → MM → Prop} (hk24 : ∀ (l0 : Nat) (l1 : Int64) (l3 : Int64) (l5 : Int64) (l7 : Int32) (M : MM), lenO M0 M → k24 l0 l1 l3 l5 l7 M → R101 sl sx d M0 P 24 [some (vR (some l0)), some (vL l1), none, some (vL l3), none, some (vL l5), none, some (vI l7), none, none] [] M) (hk44 : ∀ (l0 : Nat) (l1 : Int64) (l3 : Int64) (l5 : Int64) (l7 : Int32) (l8 : Int32) (M : MM), lenO M0 M → k44 l0 l1 l3 l5 l7 l8 M → R101 sl sx d M0 P 44 [some (vR (some l0)), some (vL l1), none, some (vL l3), none, some (vL l5), none, some (vI l7), some (vI l8), none] [] M) (n : Nat) : ∀ (l0 : Nat) (l1 : Int64) (l3 : Int64) (l5 : Int64) (l7 : Int32) (l8 : Int32) (l9 : Int32) (M : MM) (_ : lenO M0 M) (_ : w101_56 k24 k44 n l0 l1 l3 l5 l7 l8 l9 M P), R101 sl sx d M0 P 56 [some (vR (some l0)), some (vL l1), none, some (vL l3), none, some (vL l5), none, some (vI l7), some (vI l8), some (vI l9)] [] M := by
  induction n with
  | zero => intro l0 l1 l3 l5 l7 l8 l9 M hM h; cases h
  | succ n ih =>
    intro l0 l1 l3 l5 l7 l8 l9 M hM h
    refine RN_k (callX_det _) 3 _ _ _ _ (show kd M l0 1 ∧ R101 sl sx d M0 P 62 [some (vR (some l0)), some (vL l1), none, some (vL l3), none, some (vL l5), none, some (vI l7), some (vI l8), some (vI l9)] [vI (mI M l0 2), vI l9] M from ⟨h.1, ?_⟩)
    replace h := h.2
    refine RN_k (callX_det _) 1 _ _ _ _ (show ((mI M l0 2) ≤ l9 → R101 sl sx d M0 P 153 [some (vR (some l0)), some (vL l1), none, some (vL l3), none, some (vL l5), none, some (vI l7), some (vI l8), some (vI l9)] [] M) ∧ (¬ ((mI M l0 2) ≤ l9) → R101 sl sx d M0 P 65 [some (vR (some l0)), some (vL l1), none, some (vL l3), none, some (vL l5), none, some (vI l7), some (vI l8), some (vI l9)] [] M) from ⟨fun hc => ?_, fun hc => ?_⟩)
    · replace h := h.1 hc
      refine RN_k (callX_det _) 2 _ _ _ _ (show R101 sl sx d M0 P 44 [some (vR (some l0)), some (vL l1), none, some (vL l3), none, some (vL l5), none, some (vI l7), some (vI (l8 + (1 : Int32))), some (vI l9)] [] M from ?_)
      exact RN_weak (K := [some (vR (some l0)), some (vL l1), none, some (vL l3), none, some (vL l5), none, some (vI l7), some (vI (l8 + (1 : Int32))), none]) (callX_det _) (show _ ∧ _ ∧ _ ∧ _ ∧ _ ∧ _ ∧ True from ⟨rfl, rfl, rfl, rfl, rfl, rfl, trivial⟩) (hk44 l0 l1 l3 l5 l7 (l8 + (1 : Int32)) _ hM h)
    · replace h := h.2 hc
      refine RN_k (callX_det _) 2 _ _ _ _ (show (l8 ≤ 0 → R101 sl sx d M0 P 106 [some (vR (some l0)), some (vL l1), none, some (vL l3), none, some (vL l5), none, some (vI l7), some (vI l8), some (vI l9)] [] M) ∧ (¬ (l8 ≤ 0) → R101 sl sx d M0 P 70 [some (vR (some l0)), some (vL l1), none, some (vL l3), none, some (vL l5), none, some (vI l7), some (vI l8), some (vI l9)] [] M) from ⟨fun hc => ?_, fun hc => ?_⟩)
      · replace h := h.1 hc
        exact RN_weak (K := [some (vR (some l0)), some (vL l1), none, some (vL l3), none, some (vL l5), none, some (vI l7), some (vI l8), some (vI l9)]) (callX_det _) (show _ ∧ _ ∧ _ ∧ _ ∧ _ ∧ _ ∧ _ ∧ True from ⟨rfl, rfl, rfl, rfl, rfl, rfl, rfl, trivial⟩) (t101_106 hk24 hk44 ih l0 l1 l3 l5 l7 l8 l9 _ hM h)
      · replace h := h.2 hc
        refine RN_k (callX_det _) 4 _ _ _ _ (show kd M l0 1 ∧ callX TBg sl sx (d + 1) 83 [vR (some l0), vI l8, vI l9] M (fun v M9 => R101 sl sx d M0 P 78 [some (vR (some l0)), some (vL l1), none, some (vL l3), none, some (vL l5), none, some (vI l7), some (vI l8), some (vI l9)] (pushO v []) M9) from ⟨h.1, ?_⟩)
        replace h := h.2
        refine callX_mono (callX_len (d := (d + 1)) rfl rfl rfl (c83 (d := d) h)) ?_
        clear h
        rintro v9 M1 ⟨hl, r2, rfl, h⟩
        replace hM := lenT hM hl
        show R101 sl sx d M0 P 78 [some (vR (some l0)), some (vL l1), none, some (vL l3), none, some (vL l5), none, some (vI l7), some (vI l8), some (vI l9)] [vR r2] M1
        obtain ⟨a3, he, h⟩ := h
        subst he
        refine RN_k (callX_det _) 1 _ _ _ _ (show kd M1 a3 7 ∧ R101 sl sx d M0 P 81 [some (vR (some l0)), some (vL l1), none, some (vL l3), none, some (vL l5), none, some (vI l7), some (vI l8), some (vI l9)] [vI (mI M1 a3 9)] M1 from ⟨h.1, ?_⟩)
        replace h := h.2
        refine RN_k (callX_det _) 1 _ _ _ _ (show ((mI M1 a3 9) = 0 → R101 sl sx d M0 P 106 [some (vR (some l0)), some (vL l1), none, some (vL l3), none, some (vL l5), none, some (vI l7), some (vI l8), some (vI l9)] [] M1) ∧ (¬ ((mI M1 a3 9) = 0) → R101 sl sx d M0 P 84 [some (vR (some l0)), some (vL l1), none, some (vL l3), none, some (vL l5), none, some (vI l7), some (vI l8), some (vI l9)] [] M1) from ⟨fun hc => ?_, fun hc => ?_⟩)
        · replace h := h.1 hc
          exact RN_weak (K := [some (vR (some l0)), some (vL l1), none, some (vL l3), none, some (vL l5), none, some (vI l7), some (vI l8), some (vI l9)]) (callX_det _) (show _ ∧ _ ∧ _ ∧ _ ∧ _ ∧ _ ∧ _ ∧ True from ⟨rfl, rfl, rfl, rfl, rfl, rfl, rfl, trivial⟩) (t101_106 hk24 hk44 ih l0 l1 l3 l5 l7 l8 l9 _ hM h)
        · replace h := h.2 hc
          refine RN_k (callX_det _) 6 _ _ _ _ (show callX TBg sl sx (d + 1) 102 [vI (l8 - (1 : Int32)), vI l9] M1 (fun v M9 => R101 sl sx d M0 P 94 [some (vR (some l0)), some (vL l1), none, some (vL l3), none, some (vL l5), none, some (vI l7), some (vI l8), some (vI l9)] (pushO v [vL l3]) M9) from ?_)
          refine callX_mono (callX_len (d := (d + 1)) rfl rfl rfl (c102 (d := d) h)) ?_
          clear h
          rintro v9 M4 ⟨hl, r5, rfl, h⟩
          replace hM := lenT hM hl
          show R101 sl sx d M0 P 94 [some (vR (some l0)), some (vL l1), none, some (vL l3), none, some (vL l5), none, some (vI l7), some (vI l8), some (vI l9)] [vL r5, vL l3] M4
          refine RN_k (callX_det _) 3 _ _ _ _ (show callX TBg sl sx (d + 1) 102 [vI l8, vI l9] M4 (fun v M9 => R101 sl sx d M0 P 101 [some (vR (some l0)), some (vL l1), none, some (vL l3), none, some (vL l5), none, some (vI l7), some (vI l8), some (vI l9)] (pushO v [vL r5, vL l3]) M9) from ?_)
          refine callX_mono (callX_len (d := (d + 1)) rfl rfl rfl (c102 (d := d) h)) ?_
          clear h
          rintro v9 M6 ⟨hl, r7, rfl, h⟩
          replace hM := lenT hM hl
          show R101 sl sx d M0 P 101 [some (vR (some l0)), some (vL l1), none, some (vL l3), none, some (vL l5), none, some (vI l7), some (vI l8), some (vI l9)] [vL r7, vL r5, vL l3] M6
          refine RN_k (callX_det _) 2 _ _ _ _ (show callX TBg sl sx (d + 1) 103 [vL l3, vL (r5 ||| r7)] M6 (fun v M9 => R101 sl sx d M0 P 105 [some (vR (some l0)), some (vL l1), none, some (vL l3), none, some (vL l5), none, some (vI l7), some (vI l8), some (vI l9)] (pushO v []) M9) from ?_)
          refine callX_mono (callX_len (d := (d + 1)) rfl rfl rfl (c103 (d := d) h)) ?_
          clear h
          rintro v9 M8 ⟨hl, r9, rfl, h⟩
          replace hM := lenT hM hl
          show R101 sl sx d M0 P 105 [some (vR (some l0)), some (vL l1), none, some (vL l3), none, some (vL l5), none, some (vI l7), some (vI l8), some (vI l9)] [vL r9] M8
          refine RN_k (callX_det _) 1 _ _ _ _ (show R101 sl sx d M0 P 106 [some (vR (some l0)), some (vL l1), none, some (vL r9), none, some (vL l5), none, some (vI l7), some (vI l8), some (vI l9)] [] M8 from ?_)
          exact RN_weak (K := [some (vR (some l0)), some (vL l1), none, some (vL r9), none, some (vL l5), none, some (vI l7), some (vI l8), some (vI l9)]) (callX_det _) (show _ ∧ _ ∧ _ ∧ _ ∧ _ ∧ _ ∧ _ ∧ True from ⟨rfl, rfl, rfl, rfl, rfl, rfl, rfl, trivial⟩) (t101_106 hk24 hk44 ih l0 l1 r9 l5 l7 l8 l9 _ hM h)
def w101_44 (k24 : Nat → Int64 → Int64 → Int64 → Int32 → MM → Prop) : Nat → Nat → Int64 → Int64 → Int64 → Int32 → Int32 → MM → (Int32 → MM → Prop) → Prop
  | 0 => fun _ _ _ _ _ _ _ _ => False
  | n + 1 => fun l0 l1 l3 l5 l7 l8 M P => kd M l0 1 ∧ (((mI M l0 1) ≤ l8 → (k24 l0 l1 l3 l5 (l7 + (1 : Int32)) M)) ∧ (¬ ((mI M l0 1) ≤ l8) → (∃ n2, w101_56 k24 (fun z0 z1 z2 z3 z4 z5 z6 => w101_44 k24 n z0 z1 z2 z3 z4 z5 z6 P) n2 l0 l1 l3 l5 l7 l8 (0 : Int32) M P)))
theorem t101_44 {sl : Nat} {sx : Nat → Int32} {d : Nat} {M0 : MM} {P : Int32 → MM → Prop} {k24 : Nat → Int64 → Int64 → Int64 → Int32 → MM → Prop} (hk24 : ∀ (l0 : Nat) (l1 : Int64) (l3 : Int64) (l5 : Int64) (l7 : Int32) (M : MM), lenO M0 M → k24 l0 l1 l3 l5 l7 M → R101 sl sx d M0 P 24 [some (vR (some l0)), some (vL l1), none, some (vL l3), none, some (vL l5), none, some (vI l7), none, none] [] M) (n : Nat) : ∀ (l0 : Nat) (l1 : Int64) (l3 : Int64) (l5 : Int64) (l7 : Int32) (l8 : Int32) (M : MM) (_ : lenO M0 M) (_ : w101_44 k24 n l0 l1 l3 l5 l7 l8 M P), R101 sl sx d M0 P 44 [some (vR (some l0)), some (vL l1), none, some (vL l3), none, some (vL l5), none, some (vI l7), some (vI l8), none] [] M := by
  induction n with
  | zero => intro l0 l1 l3 l5 l7 l8 M hM h; cases h
  | succ n ih =>
    intro l0 l1 l3 l5 l7 l8 M hM h
    refine RN_k (callX_det _) 3 _ _ _ _ (show kd M l0 1 ∧ R101 sl sx d M0 P 50 [some (vR (some l0)), some (vL l1), none, some (vL l3), none, some (vL l5), none, some (vI l7), some (vI l8), none] [vI (mI M l0 1), vI l8] M from ⟨h.1, ?_⟩)
    replace h := h.2
    refine RN_k (callX_det _) 1 _ _ _ _ (show ((mI M l0 1) ≤ l8 → R101 sl sx d M0 P 159 [some (vR (some l0)), some (vL l1), none, some (vL l3), none, some (vL l5), none, some (vI l7), some (vI l8), none] [] M) ∧ (¬ ((mI M l0 1) ≤ l8) → R101 sl sx d M0 P 53 [some (vR (some l0)), some (vL l1), none, some (vL l3), none, some (vL l5), none, some (vI l7), some (vI l8), none] [] M) from ⟨fun hc => ?_, fun hc => ?_⟩)
    · replace h := h.1 hc
      refine RN_k (callX_det _) 2 _ _ _ _ (show R101 sl sx d M0 P 24 [some (vR (some l0)), some (vL l1), none, some (vL l3), none, some (vL l5), none, some (vI (l7 + (1 : Int32))), some (vI l8), none] [] M from ?_)
      exact RN_weak (K := [some (vR (some l0)), some (vL l1), none, some (vL l3), none, some (vL l5), none, some (vI (l7 + (1 : Int32))), none, none]) (callX_det _) (show _ ∧ _ ∧ _ ∧ _ ∧ _ ∧ True from ⟨rfl, rfl, rfl, rfl, rfl, trivial⟩) (hk24 l0 l1 l3 l5 (l7 + (1 : Int32)) _ hM h)
    · replace h := h.2 hc
      refine RN_k (callX_det _) 2 _ _ _ _ (show R101 sl sx d M0 P 56 [some (vR (some l0)), some (vL l1), none, some (vL l3), none, some (vL l5), none, some (vI l7), some (vI l8), some (vI (0 : Int32))] [] M from ?_)
      obtain ⟨n2, h⟩ := h
      exact RN_weak (K := [some (vR (some l0)), some (vL l1), none, some (vL l3), none, some (vL l5), none, some (vI l7), some (vI l8), some (vI (0 : Int32))]) (callX_det _) (show _ ∧ _ ∧ _ ∧ _ ∧ _ ∧ _ ∧ _ ∧ True from ⟨rfl, rfl, rfl, rfl, rfl, rfl, rfl, trivial⟩) (t101_56 hk24 ih n2 l0 l1 l3 l5 l7 l8 (0 : Int32) _ hM h)
def w101_24 : Nat → Nat → Int64 → Int64 → Int64 → Int32 → MM → (Int32 → MM → Prop) → Prop
  | 0 => fun _ _ _ _ _ _ _ => False
  | n + 1 => fun l0 l1 l3 l5 l7 M P => ((49 : Int32) < l7 → (w101_165  l1 l3 M P)) ∧ (¬ ((49 : Int32) < l7) → (((lg_cmp l3 l5) = 0 → (w101_165  l1 l3 M P)) ∧ (¬ ((lg_cmp l3 l5) = 0) → (∃ n2, w101_44 (fun z0 z1 z2 z3 z4 z5 => w101_24  n z0 z1 z2 z3 z4 z5 P) n2 l0 l1 l3 l3 l7 (0 : Int32) M P))))
theorem t101_24 {sl : Nat} {sx : Nat → Int32} {d : Nat} {M0 : MM} {P : Int32 → MM → Prop} (n : Nat) : ∀ (l0 : Nat) (l1 : Int64) (l3 : Int64) (l5 : Int64) (l7 : Int32) (M : MM) (_ : lenO M0 M) (_ : w101_24  n l0 l1 l3 l5 l7 M P), R101 sl sx d M0 P 24 [some (vR (some l0)), some (vL l1), none, some (vL l3), none, some (vL l5), none, some (vI l7), none, none] [] M := by
  induction n with
  | zero => intro l0 l1 l3 l5 l7 M hM h; cases h
  | succ n ih =>
    intro l0 l1 l3 l5 l7 M hM h
    refine RN_k (callX_det _) 3 _ _ _ _ (show ((49 : Int32) < l7 → R101 sl sx d M0 P 165 [some (vR (some l0)), some (vL l1), none, some (vL l3), none, some (vL l5), none, some (vI l7), none, none] [] M) ∧ (¬ ((49 : Int32) < l7) → R101 sl sx d M0 P 31 [some (vR (some l0)), some (vL l1), none, some (vL l3), none, some (vL l5), none, some (vI l7), none, none] [] M) from ⟨fun hc => ?_, fun hc => ?_⟩)
    · replace h := h.1 hc
      exact RN_weak (K := [none, some (vL l1), none, some (vL l3), none, none, none, none, none, none]) (callX_det _) (show _ ∧ _ ∧ True from ⟨rfl, rfl, trivial⟩) (t101_165  l1 l3 _ hM h)
    · replace h := h.2 hc
      refine RN_k (callX_det _) 4 _ _ _ _ (show ((lg_cmp l3 l5) = 0 → R101 sl sx d M0 P 165 [some (vR (some l0)), some (vL l1), none, some (vL l3), none, some (vL l5), none, some (vI l7), none, none] [] M) ∧ (¬ ((lg_cmp l3 l5) = 0) → R101 sl sx d M0 P 38 [some (vR (some l0)), some (vL l1), none, some (vL l3), none, some (vL l5), none, some (vI l7), none, none] [] M) from ⟨fun hc => ?_, fun hc => ?_⟩)
      · replace h := h.1 hc
        exact RN_weak (K := [none, some (vL l1), none, some (vL l3), none, none, none, none, none, none]) (callX_det _) (show _ ∧ _ ∧ True from ⟨rfl, rfl, trivial⟩) (t101_165  l1 l3 _ hM h)
      · replace h := h.2 hc
        refine RN_k (callX_det _) 4 _ _ _ _ (show R101 sl sx d M0 P 44 [some (vR (some l0)), some (vL l1), none, some (vL l3), none, some (vL l3), none, some (vI l7), some (vI (0 : Int32)), none] [] M from ?_)
        obtain ⟨n2, h⟩ := h
        exact RN_weak (K := [some (vR (some l0)), some (vL l1), none, some (vL l3), none, some (vL l3), none, some (vI l7), some (vI (0 : Int32)), none]) (callX_det _) (show _ ∧ _ ∧ _ ∧ _ ∧ _ ∧ _ ∧ True from ⟨rfl, rfl, rfl, rfl, rfl, rfl, trivial⟩) (t101_44 ih n2 l0 l1 l3 l3 l7 (0 : Int32) _ hM h)
def w101 (l0 : Nat) (M : MM) (P : Int32 → MM → Prop) : Prop := kd M l0 1 ∧ (kd M l0 1 ∧ (w102 ((mI M l0 1) - (1 : Int32)) ((mI M l0 2) - (1 : Int32)) M (fun r2 M1 => ∃ n2, w101_24  n2 l0 r2 (1 : Int64) (0 : Int64) (0 : Int32) M1 P)))
theorem t101_E {sl : Nat} {sx : Nat → Int32} {d : Nat} {M0 : MM} {P : Int32 → MM → Prop} (l0 : Nat) (M : MM) (hM : lenO M0 M) (h : w101  l0 M P) : R101 sl sx d M0 P 0 [some (vR (some l0)), none, none, none, none, none, none, none, none, none] [] M := by
  refine RN_k (callX_det _) 2 _ _ _ _ (show kd M l0 1 ∧ R101 sl sx d M0 P 4 [some (vR (some l0)), none, none, none, none, none, none, none, none, none] [vI (mI M l0 1)] M from ⟨h.1, ?_⟩)
  replace h := h.2
  refine RN_k (callX_det _) 4 _ _ _ _ (show kd M l0 1 ∧ R101 sl sx d M0 P 10 [some (vR (some l0)), none, none, none, none, none, none, none, none, none] [vI (mI M l0 2), vI ((mI M l0 1) - (1 : Int32))] M from ⟨h.1, ?_⟩)
  replace h := h.2
  refine RN_k (callX_det _) 3 _ _ _ _ (show callX TBg sl sx (d + 1) 102 [vI ((mI M l0 1) - (1 : Int32)), vI ((mI M l0 2) - (1 : Int32))] M (fun v M9 => R101 sl sx d M0 P 15 [some (vR (some l0)), none, none, none, none, none, none, none, none, none] (pushO v []) M9) from ?_)
  refine callX_mono (callX_len (d := (d + 1)) rfl rfl rfl (c102 (d := d) h)) ?_
  clear h
  rintro v9 M1 ⟨hl, r2, rfl, h⟩
  replace hM := lenT hM hl
  show R101 sl sx d M0 P 15 [some (vR (some l0)), none, none, none, none, none, none, none, none, none] [vL r2] M1
  refine RN_k (callX_det _) 7 _ _ _ _ (show R101 sl sx d M0 P 24 [some (vR (some l0)), some (vL r2), none, some (vL (1 : Int64)), none, some (vL (0 : Int64)), none, some (vI (0 : Int32)), none, none] [] M1 from ?_)
  obtain ⟨n2, h⟩ := h
  exact RN_weak (K := [some (vR (some l0)), some (vL r2), none, some (vL (1 : Int64)), none, some (vL (0 : Int64)), none, some (vI (0 : Int32)), none, none]) (callX_det _) (show _ ∧ _ ∧ _ ∧ _ ∧ _ ∧ True from ⟨rfl, rfl, rfl, rfl, rfl, trivial⟩) (t101_24  n2 l0 r2 (1 : Int64) (0 : Int64) (0 : Int32) _ hM h)
theorem c101 {sl : Nat} {sx : Nat → Int32} {d : Nat} {l0 : Nat} {M : MM} {P : Int32 → MM → Prop} (h : w101 l0 M P) : callX TBg sl sx (d + 2) 101 [vR (some l0)] M (PI P) :=
  cX (d := d + 1) q101 (false, tb101) rfl rfl rfl (t101_E l0 M lenR h)
-- TwoLeash$Cells.isComeInto(II)Z
abbrev q104 : MQ7 := (3, 1, 3, 1, 0, 0, 4)
abbrev R104 (sl : Nat) (sx : Nat → Int32) (d : Nat) (M0 : MM) (P : Int32 → MM → Prop) : Nat → LL → List VV → MM → Prop := RN 1 false (mS M0).length (mT M0) 0 0 sl sx (callX TBg sl sx (d + 1)) (rtW q104 M0 (PI P)) (as2 tb104)
def w104_29 (s0 : Int32) (M : MM) (P : Int32 → MM → Prop) : Prop := (s0 = 0 ∨ s0 = 1) ∧ P s0 M
theorem t104_29 {sl : Nat} {sx : Nat → Int32} {d : Nat} {M0 : MM} {P : Int32 → MM → Prop} (s0 : Int32) (M : MM) (hM : lenO M0 M) (h : w104_29  s0 M P) : R104 sl sx d M0 P 29 [none, none, none] [vI s0] M := by
  exact RN_k (callX_det _) 1 _ _ _ _ (show rtW q104 M0 (PI P) (some (vI s0)) M from ⟨⟨_, rfl, h.1⟩, hM.1, hM.2, _, rfl, h.2⟩)
def w104_24 (M : MM) (P : Int32 → MM → Prop) : Prop := w104_29  (1 : Int32) M P
theorem t104_24 {sl : Nat} {sx : Nat → Int32} {d : Nat} {M0 : MM} {P : Int32 → MM → Prop}  (M : MM) (hM : lenO M0 M) (h : w104_24   M P) : R104 sl sx d M0 P 24 [none, none, none] [] M := by
  refine RN_k (callX_det _) 2 _ _ _ _ (show R104 sl sx d M0 P 29 [none, none, none] [vI (1 : Int32)] M from ?_)
  exact RN_weak (K := [none, none, none]) (callX_det _) (show True from trivial) (t104_29  (1 : Int32) _ hM h)
def w104 (l0 : Nat) (l1 : Int32) (l2 : Int32) (M : MM) (P : Int32 → MM → Prop) : Prop := kd M l0 1 ∧ w83 l0 l1 l2 M (fun r2 M1 => ∃ a3, r2 = some a3 ∧ (kd M1 a3 7 ∧ ((¬ (mR M1 a3 10) = none → (w104_24  M1 P)) ∧ ((mR M1 a3 10) = none → (kd M1 l0 1 ∧ w82 l0 l1 l2 M1 (fun r5 M4 => ∃ a6, r5 = some a6 ∧ (kd M4 a6 7 ∧ (((mR M4 a6 10) = none → (w104_29  (0 : Int32) M4 P)) ∧ (¬ (mR M4 a6 10) = none → (w104_24  M4 P))))))))))
theorem t104_E {sl : Nat} {sx : Nat → Int32} {d : Nat} {M0 : MM} {P : Int32 → MM → Prop} (l0 : Nat) (l1 : Int32) (l2 : Int32) (M : MM) (hM : lenO M0 M) (h : w104  l0 l1 l2 M P) : R104 sl sx d M0 P 0 [some (vR (some l0)), some (vI l1), some (vI l2)] [] M := by
  refine RN_k (callX_det _) 4 _ _ _ _ (show kd M l0 1 ∧ callX TBg sl sx (d + 1) 83 [vR (some l0), vI l1, vI l2] M (fun v M9 => R104 sl sx d M0 P 6 [some (vR (some l0)), some (vI l1), some (vI l2)] (pushO v []) M9) from ⟨h.1, ?_⟩)
  replace h := h.2
  refine callX_mono (callX_len (d := (d + 1)) rfl rfl rfl (c83 (d := d) h)) ?_
  clear h
  rintro v9 M1 ⟨hl, r2, rfl, h⟩
  replace hM := lenT hM hl
  show R104 sl sx d M0 P 6 [some (vR (some l0)), some (vI l1), some (vI l2)] [vR r2] M1
  obtain ⟨a3, he, h⟩ := h
  subst he
  refine RN_k (callX_det _) 1 _ _ _ _ (show kd M1 a3 7 ∧ R104 sl sx d M0 P 9 [some (vR (some l0)), some (vI l1), some (vI l2)] [vR (mR M1 a3 10)] M1 from ⟨h.1, ?_⟩)
  replace h := h.2
  refine RN_k (callX_det _) 1 _ _ _ _ (show (¬ (mR M1 a3 10) = none → R104 sl sx d M0 P 24 [some (vR (some l0)), some (vI l1), some (vI l2)] [] M1) ∧ ((mR M1 a3 10) = none → R104 sl sx d M0 P 12 [some (vR (some l0)), some (vI l1), some (vI l2)] [] M1) from ⟨fun hc => ?_, fun hc => ?_⟩)
  · replace h := h.1 hc
    exact RN_weak (K := [none, none, none]) (callX_det _) (show True from trivial) (t104_24   _ hM h)
  · replace h := h.2 hc
    refine RN_k (callX_det _) 4 _ _ _ _ (show kd M1 l0 1 ∧ callX TBg sl sx (d + 1) 82 [vR (some l0), vI l1, vI l2] M1 (fun v M9 => R104 sl sx d M0 P 18 [some (vR (some l0)), some (vI l1), some (vI l2)] (pushO v []) M9) from ⟨h.1, ?_⟩)
    replace h := h.2
    refine callX_mono (callX_len (d := (d + 1)) rfl rfl rfl (c82 (d := d) h)) ?_
    clear h
    rintro v9 M4 ⟨hl, r5, rfl, h⟩
    replace hM := lenT hM hl
    show R104 sl sx d M0 P 18 [some (vR (some l0)), some (vI l1), some (vI l2)] [vR r5] M4
    obtain ⟨a6, he, h⟩ := h
    subst he
    refine RN_k (callX_det _) 1 _ _ _ _ (show kd M4 a6 7 ∧ R104 sl sx d M0 P 21 [some (vR (some l0)), some (vI l1), some (vI l2)] [vR (mR M4 a6 10)] M4 from ⟨h.1, ?_⟩)
    replace h := h.2
    refine RN_k (callX_det _) 1 _ _ _ _ (show ((mR M4 a6 10) = none → R104 sl sx d M0 P 28 [some (vR (some l0)), some (vI l1), some (vI l2)] [] M4) ∧ (¬ (mR M4 a6 10) = none → R104 sl sx d M0 P 24 [some (vR (some l0)), some (vI l1), some (vI l2)] [] M4) from ⟨fun hc => ?_, fun hc => ?_⟩)
    · replace h := h.1 hc
      refine RN_k (callX_det _) 1 _ _ _ _ (show R104 sl sx d M0 P 29 [some (vR (some l0)), some (vI l1), some (vI l2)] [vI (0 : Int32)] M4 from ?_)
      exact RN_weak (K := [none, none, none]) (callX_det _) (show True from trivial) (t104_29  (0 : Int32) _ hM h)
    · replace h := h.2 hc
      exact RN_weak (K := [none, none, none]) (callX_det _) (show True from trivial) (t104_24   _ hM h)
theorem c104 {sl : Nat} {sx : Nat → Int32} {d : Nat} {l0 : Nat} {l1 : Int32} {l2 : Int32} {M : MM} {P : Int32 → MM → Prop} (h : w104 l0 l1 l2 M P) : callX TBg sl sx (d + 2) 104 [vR (some l0), vI l1, vI l2] M (PI P) :=
  cX (d := d + 1) q104 (false, tb104) rfl rfl rfl (t104_E l0 l1 l2 M lenR h)
-- TwoLeash$Cells.serve(I)Z
abbrev q100 : MQ7 := (2, 1, 2, 1, 0, 0, 4)
abbrev R100 (sl : Nat) (sx : Nat → Int32) (d : Nat) (M0 : MM) (P : Int32 → MM → Prop) : Nat → LL → List VV → MM → Prop := RN 1 false (mS M0).length (mT M0) 0 0 sl sx (callX TBg sl sx (d + 2)) (rtW q100 M0 (PI P)) (as2 tb100)
def w100_32 (M : MM) (P : Int32 → MM → Prop) : Prop := P (0 : Int32) M
theorem t100_32 {sl : Nat} {sx : Nat → Int32} {d : Nat} {M0 : MM} {P : Int32 → MM → Prop}  (M : MM) (hM : lenO M0 M) (h : w100_32   M P) : R100 sl sx d M0 P 32 [none, none] [] M := by
  exact RN_k (callX_det _) 2 _ _ _ _ (show rtW q100 M0 (PI P) (some (vI (0 : Int32))) M from ⟨⟨_, rfl, Or.inl rfl⟩, hM.1, hM.2, _, rfl, h⟩)
def w100_62 (s0 : Int32) (M : MM) (P : Int32 → MM → Prop) : Prop := (s0 = 0 ∨ s0 = 1) ∧ P s0 M
theorem t100_62 {sl : Nat} {sx : Nat → Int32} {d : Nat} {M0 : MM} {P : Int32 → MM → Prop} (s0 : Int32) (M : MM) (hM : lenO M0 M) (h : w100_62  s0 M P) : R100 sl sx d M0 P 62 [none, none] [vI s0] M := by
  exact RN_k (callX_det _) 1 _ _ _ _ (show rtW q100 M0 (PI P) (some (vI s0)) M from ⟨⟨_, rfl, h.1⟩, hM.1, hM.2, _, rfl, h.2⟩)
def w100 (l0 : Nat) (l1 : Int32) (M : MM) (P : Int32 → MM → Prop) : Prop := kd M l0 1 ∧ w82 l0 (0 : Int32) (0 : Int32) M (fun r2 M1 => ∃ a3, r2 = some a3 ∧ (kd M1 a3 7 ∧ (((mI M1 a3 7) = 0 → (w100_32  M1 P)) ∧ (¬ ((mI M1 a3 7) = 0) → (kd M1 l0 1 ∧ (kd M1 l0 1 ∧ (kd M1 l0 1 ∧ w82 l0 ((mI M1 l0 1) - (1 : Int32)) (mI M1 l0 2) M1 (fun r5 M4 => ∃ a6, r5 = some a6 ∧ (kd M4 a6 7 ∧ (((mI M4 a6 8) ≠ 0 → ((l1 ≠ (1 : Int32) → (kd M4 l0 1 ∧ (kd M4 l0 1 ∧ (kd M4 l0 1 ∧ w104 l0 ((mI M4 l0 1) - (1 : Int32)) ((mI M4 l0 2) - (1 : Int32)) M4 (fun r8 M7 => w100_62  r8 M7 P))))) ∧ (¬ (l1 ≠ (1 : Int32)) → (kd M4 l0 1 ∧ w101 l0 M4 (fun r10 M9 => w100_62  r10 M9 P))))) ∧ (¬ ((mI M4 a6 8) ≠ 0) → (w100_32  M4 P))))))))))))
theorem t100_E {sl : Nat} {sx : Nat → Int32} {d : Nat} {M0 : MM} {P : Int32 → MM → Prop} (l0 : Nat) (l1 : Int32) (M : MM) (hM : lenO M0 M) (h : w100  l0 l1 M P) : R100 sl sx d M0 P 0 [some (vR (some l0)), some (vI l1)] [] M := by
  refine RN_k (callX_det _) 4 _ _ _ _ (show kd M l0 1 ∧ callX TBg sl sx (d + 2) 82 [vR (some l0), vI (0 : Int32), vI (0 : Int32)] M (fun v M9 => R100 sl sx d M0 P 6 [some (vR (some l0)), some (vI l1)] (pushO v []) M9) from ⟨h.1, ?_⟩)
  replace h := h.2
  refine callX_mono (callX_len (d := (d + 2)) rfl rfl rfl (c82 (d := d + 1) h)) ?_
  clear h
  rintro v9 M1 ⟨hl, r2, rfl, h⟩
  replace hM := lenT hM hl
  show R100 sl sx d M0 P 6 [some (vR (some l0)), some (vI l1)] [vR r2] M1
  obtain ⟨a3, he, h⟩ := h
  subst he
  refine RN_k (callX_det _) 1 _ _ _ _ (show kd M1 a3 7 ∧ R100 sl sx d M0 P 9 [some (vR (some l0)), some (vI l1)] [vI (mI M1 a3 7)] M1 from ⟨h.1, ?_⟩)
  replace h := h.2
  refine RN_k (callX_det _) 1 _ _ _ _ (show ((mI M1 a3 7) = 0 → R100 sl sx d M0 P 32 [some (vR (some l0)), some (vI l1)] [] M1) ∧ (¬ ((mI M1 a3 7) = 0) → R100 sl sx d M0 P 12 [some (vR (some l0)), some (vI l1)] [] M1) from ⟨fun hc => ?_, fun hc => ?_⟩)
  · replace h := h.1 hc
    exact RN_weak (K := [none, none]) (callX_det _) (show True from trivial) (t100_32   _ hM h)
  · replace h := h.2 hc
    refine RN_k (callX_det _) 3 _ _ _ _ (show kd M1 l0 1 ∧ R100 sl sx d M0 P 17 [some (vR (some l0)), some (vI l1)] [vI (mI M1 l0 1), vR (some l0)] M1 from ⟨h.1, ?_⟩)
    replace h := h.2
    refine RN_k (callX_det _) 4 _ _ _ _ (show kd M1 l0 1 ∧ R100 sl sx d M0 P 23 [some (vR (some l0)), some (vI l1)] [vI (mI M1 l0 2), vI ((mI M1 l0 1) - (1 : Int32)), vR (some l0)] M1 from ⟨h.1, ?_⟩)
    replace h := h.2
    refine RN_k (callX_det _) 1 _ _ _ _ (show kd M1 l0 1 ∧ callX TBg sl sx (d + 2) 82 [vR (some l0), vI ((mI M1 l0 1) - (1 : Int32)), vI (mI M1 l0 2)] M1 (fun v M9 => R100 sl sx d M0 P 26 [some (vR (some l0)), some (vI l1)] (pushO v []) M9) from ⟨h.1, ?_⟩)
    replace h := h.2
    refine callX_mono (callX_len (d := (d + 2)) rfl rfl rfl (c82 (d := d + 1) h)) ?_
    clear h
    rintro v9 M4 ⟨hl, r5, rfl, h⟩
    replace hM := lenT hM hl
    show R100 sl sx d M0 P 26 [some (vR (some l0)), some (vI l1)] [vR r5] M4
    obtain ⟨a6, he, h⟩ := h
    subst he
    refine RN_k (callX_det _) 1 _ _ _ _ (show kd M4 a6 7 ∧ R100 sl sx d M0 P 29 [some (vR (some l0)), some (vI l1)] [vI (mI M4 a6 8)] M4 from ⟨h.1, ?_⟩)
    replace h := h.2
    refine RN_k (callX_det _) 1 _ _ _ _ (show ((mI M4 a6 8) ≠ 0 → R100 sl sx d M0 P 34 [some (vR (some l0)), some (vI l1)] [] M4) ∧ (¬ ((mI M4 a6 8) ≠ 0) → R100 sl sx d M0 P 32 [some (vR (some l0)), some (vI l1)] [] M4) from ⟨fun hc => ?_, fun hc => ?_⟩)
    · replace h := h.1 hc
      refine RN_k (callX_det _) 3 _ _ _ _ (show (l1 ≠ (1 : Int32) → R100 sl sx d M0 P 46 [some (vR (some l0)), some (vI l1)] [] M4) ∧ (¬ (l1 ≠ (1 : Int32)) → R100 sl sx d M0 P 39 [some (vR (some l0)), some (vI l1)] [] M4) from ⟨fun hc => ?_, fun hc => ?_⟩)
      · replace h := h.1 hc
        refine RN_k (callX_det _) 3 _ _ _ _ (show kd M4 l0 1 ∧ R100 sl sx d M0 P 51 [some (vR (some l0)), some (vI l1)] [vI (mI M4 l0 1), vR (some l0)] M4 from ⟨h.1, ?_⟩)
        replace h := h.2
        refine RN_k (callX_det _) 4 _ _ _ _ (show kd M4 l0 1 ∧ R100 sl sx d M0 P 57 [some (vR (some l0)), some (vI l1)] [vI (mI M4 l0 2), vI ((mI M4 l0 1) - (1 : Int32)), vR (some l0)] M4 from ⟨h.1, ?_⟩)
        replace h := h.2
        refine RN_k (callX_det _) 3 _ _ _ _ (show kd M4 l0 1 ∧ callX TBg sl sx (d + 2) 104 [vR (some l0), vI ((mI M4 l0 1) - (1 : Int32)), vI ((mI M4 l0 2) - (1 : Int32))] M4 (fun v M9 => R100 sl sx d M0 P 62 [some (vR (some l0)), some (vI l1)] (pushO v []) M9) from ⟨h.1, ?_⟩)
        replace h := h.2
        refine callX_mono (callX_len (d := (d + 2)) rfl rfl rfl (c104 (d := d) h)) ?_
        clear h
        rintro v9 M7 ⟨hl, r8, rfl, h⟩
        replace hM := lenT hM hl
        show R100 sl sx d M0 P 62 [some (vR (some l0)), some (vI l1)] [vI r8] M7
        exact RN_weak (K := [none, none]) (callX_det _) (show True from trivial) (t100_62  r8 _ hM h)
      · replace h := h.2 hc
        refine RN_k (callX_det _) 2 _ _ _ _ (show kd M4 l0 1 ∧ callX TBg sl sx (d + 2) 101 [vR (some l0)] M4 (fun v M9 => R100 sl sx d M0 P 43 [some (vR (some l0)), some (vI l1)] (pushO v []) M9) from ⟨h.1, ?_⟩)
        replace h := h.2
        refine callX_mono (callX_len (d := (d + 2)) rfl rfl rfl (c101 (d := d) h)) ?_
        clear h
        rintro v9 M9 ⟨hl, r10, rfl, h⟩
        replace hM := lenT hM hl
        show R100 sl sx d M0 P 43 [some (vR (some l0)), some (vI l1)] [vI r10] M9
        refine RN_k (callX_det _) 1 _ _ _ _ (show R100 sl sx d M0 P 62 [some (vR (some l0)), some (vI l1)] [vI r10] M9 from ?_)
        exact RN_weak (K := [none, none]) (callX_det _) (show True from trivial) (t100_62  r10 _ hM h)
    · replace h := h.2 hc
      exact RN_weak (K := [none, none]) (callX_det _) (show True from trivial) (t100_32   _ hM h)
theorem c100 {sl : Nat} {sx : Nat → Int32} {d : Nat} {l0 : Nat} {l1 : Int32} {M : MM} {P : Int32 → MM → Prop} (h : w100 l0 l1 M P) : callX TBg sl sx (d + 3) 100 [vR (some l0), vI l1] M (PI P) :=
  cX (d := d + 2) q100 (false, tb100) rfl rfl rfl (t100_E l0 l1 M lenR h)
-- TwoLeash$Matcher.isEnough(LTwoLeash$Track;LTwoLeash$Track;III)Z
abbrev q95 : MQ7 := (6, 1, 6, 5, 0, 0, 4)
abbrev R95 (sl : Nat) (sx : Nat → Int32) (d : Nat) (M0 : MM) (P : Int32 → MM → Prop) : Nat → LL → List VV → MM → Prop := RN 5 false (mS M0).length (mT M0) 0 0 sl sx (callX TBg sl sx (d + 4)) (rtW q95 M0 (PI P)) (as2 tb95)
def w95_38 (s0 : Int32) (M : MM) (P : Int32 → MM → Prop) : Prop := (s0 = 0 ∨ s0 = 1) ∧ P s0 M
theorem t95_38 {sl : Nat} {sx : Nat → Int32} {d : Nat} {M0 : MM} {P : Int32 → MM → Prop} (s0 : Int32) (M : MM) (hM : lenO M0 M) (h : w95_38  s0 M P) : R95 sl sx d M0 P 38 [none, none, none, none, none, none] [vI s0] M := by
  exact RN_k (callX_det _) 1 _ _ _ _ (show rtW q95 M0 (PI P) (some (vI s0)) M from ⟨⟨_, rfl, h.1⟩, hM.1, hM.2, _, rfl, h.2⟩)
def w95 (l0 : Nat) (l1 : Option Nat) (l2 : Option Nat) (l3 : Int32) (l4 : Int32) (l5 : Int32) (M : MM) (P : Int32 → MM → Prop) : Prop := (l3 ≠ (2 : Int32) → (kd M l0 5 ∧ (∃ a1, mR M l0 0 = some a1 ∧ (kd M a1 1 ∧ w78 a1 l1 l2 M (fun M2 => kd M2 l0 5 ∧ (∃ a3, mR M2 l0 0 = some a3 ∧ (kd M2 a3 1 ∧ w80 a3 l4.toInt64 l5.toInt64 M2 (fun M4 => kd M4 l0 5 ∧ (∃ a5, mR M4 l0 0 = some a5 ∧ (kd M4 a5 1 ∧ w100 a5 l3 M4 (fun r7 M6 => (r7 = 0 ∨ r7 = 1) ∧ P r7 M6))))))))))) ∧ (¬ (l3 ≠ (2 : Int32)) → (kd M l0 5 ∧ (∃ a8, mR M l0 1 = some a8 ∧ (kd M a8 4 ∧ w96 a8 l1 l2 M (fun M9 => kd M9 l0 5 ∧ (∃ a10, mR M9 l0 1 = some a10 ∧ (kd M9 a10 4 ∧ w99 a10 M9 (fun r12 M11 => (0 < (lg_cmp (r12.toInt64 * l5.toInt64) l4.toInt64) → (w95_38  (0 : Int32) M11 P)) ∧ (¬ (0 < (lg_cmp (r12.toInt64 * l5.toInt64) l4.toInt64)) → (w95_38  (1 : Int32) M11 P))))))))))
theorem t95_E {sl : Nat} {sx : Nat → Int32} {d : Nat} {M0 : MM} {P : Int32 → MM → Prop} (l0 : Nat) (l1 : Option Nat) (l2 : Option Nat) (l3 : Int32) (l4 : Int32) (l5 : Int32) (M : MM) (hM : lenO M0 M) (h : w95  l0 l1 l2 l3 l4 l5 M P) : R95 sl sx d M0 P 0 [some (vR (some l0)), some (vR l1), some (vR l2), some (vI l3), some (vI l4), some (vI l5)] [] M := by
  refine RN_k (callX_det _) 3 _ _ _ _ (show (l3 ≠ (2 : Int32) → R95 sl sx d M0 P 39 [some (vR (some l0)), some (vR l1), some (vR l2), some (vI l3), some (vI l4), some (vI l5)] [] M) ∧ (¬ (l3 ≠ (2 : Int32)) → R95 sl sx d M0 P 5 [some (vR (some l0)), some (vR l1), some (vR l2), some (vI l3), some (vI l4), some (vI l5)] [] M) from ⟨fun hc => ?_, fun hc => ?_⟩)
  · replace h := h.1 hc
    refine RN_k (callX_det _) 2 _ _ _ _ (show kd M l0 5 ∧ R95 sl sx d M0 P 43 [some (vR (some l0)), some (vR l1), some (vR l2), some (vI l3), some (vI l4), some (vI l5)] [vR (mR M l0 0)] M from ⟨h.1, ?_⟩)
    replace h := h.2
    obtain ⟨a1, he, h⟩ := h
    refine RN_k (callX_det _) 2 _ _ _ _ (show R95 sl sx d M0 P 45 [some (vR (some l0)), some (vR l1), some (vR l2), some (vI l3), some (vI l4), some (vI l5)] [vR l2, vR l1, vR (mR M l0 0)] M from ?_)
    rw [he]
    refine RN_k (callX_det _) 1 _ _ _ _ (show kd M a1 1 ∧ callX TBg sl sx (d + 4) 78 [vR (some a1), vR l1, vR l2] M (fun v M9 => R95 sl sx d M0 P 48 [some (vR (some l0)), some (vR l1), some (vR l2), some (vI l3), some (vI l4), some (vI l5)] (pushO v []) M9) from ⟨h.1, ?_⟩)
    replace h := h.2
    refine callX_mono (callX_len (d := (d + 4)) rfl rfl rfl (c78 (d := d + 2) h)) ?_
    clear h
    rintro v9 M2 ⟨hl, rfl, h⟩
    replace hM := lenT hM hl
    show R95 sl sx d M0 P 48 [some (vR (some l0)), some (vR l1), some (vR l2), some (vI l3), some (vI l4), some (vI l5)] [] M2
    refine RN_k (callX_det _) 2 _ _ _ _ (show kd M2 l0 5 ∧ R95 sl sx d M0 P 52 [some (vR (some l0)), some (vR l1), some (vR l2), some (vI l3), some (vI l4), some (vI l5)] [vR (mR M2 l0 0)] M2 from ⟨h.1, ?_⟩)
    replace h := h.2
    obtain ⟨a3, he, h⟩ := h
    refine RN_k (callX_det _) 4 _ _ _ _ (show R95 sl sx d M0 P 58 [some (vR (some l0)), some (vR l1), some (vR l2), some (vI l3), some (vI l4), some (vI l5)] [vL l5.toInt64, vL l4.toInt64, vR (mR M2 l0 0)] M2 from ?_)
    rw [he]
    refine RN_k (callX_det _) 1 _ _ _ _ (show kd M2 a3 1 ∧ callX TBg sl sx (d + 4) 80 [vR (some a3), vL l4.toInt64, vL l5.toInt64] M2 (fun v M9 => R95 sl sx d M0 P 61 [some (vR (some l0)), some (vR l1), some (vR l2), some (vI l3), some (vI l4), some (vI l5)] (pushO v []) M9) from ⟨h.1, ?_⟩)
    replace h := h.2
    refine callX_mono (callX_len (d := (d + 4)) rfl rfl rfl (c80 (d := d) h)) ?_
    clear h
    rintro v9 M4 ⟨hl, rfl, h⟩
    replace hM := lenT hM hl
    show R95 sl sx d M0 P 61 [some (vR (some l0)), some (vR l1), some (vR l2), some (vI l3), some (vI l4), some (vI l5)] [] M4
    refine RN_k (callX_det _) 2 _ _ _ _ (show kd M4 l0 5 ∧ R95 sl sx d M0 P 65 [some (vR (some l0)), some (vR l1), some (vR l2), some (vI l3), some (vI l4), some (vI l5)] [vR (mR M4 l0 0)] M4 from ⟨h.1, ?_⟩)
    replace h := h.2
    obtain ⟨a5, he, h⟩ := h
    refine RN_k (callX_det _) 1 _ _ _ _ (show R95 sl sx d M0 P 66 [some (vR (some l0)), some (vR l1), some (vR l2), some (vI l3), some (vI l4), some (vI l5)] [vI l3, vR (mR M4 l0 0)] M4 from ?_)
    rw [he]
    refine RN_k (callX_det _) 1 _ _ _ _ (show kd M4 a5 1 ∧ callX TBg sl sx (d + 4) 100 [vR (some a5), vI l3] M4 (fun v M9 => R95 sl sx d M0 P 69 [some (vR (some l0)), some (vR l1), some (vR l2), some (vI l3), some (vI l4), some (vI l5)] (pushO v []) M9) from ⟨h.1, ?_⟩)
    replace h := h.2
    refine callX_mono (callX_len (d := (d + 4)) rfl rfl rfl (c100 (d := d + 1) h)) ?_
    clear h
    rintro v9 M6 ⟨hl, r7, rfl, h⟩
    replace hM := lenT hM hl
    show R95 sl sx d M0 P 69 [some (vR (some l0)), some (vR l1), some (vR l2), some (vI l3), some (vI l4), some (vI l5)] [vI r7] M6
    exact RN_k (callX_det _) 1 _ _ _ _ (show rtW q95 M0 (PI P) (some (vI r7)) M6 from ⟨⟨_, rfl, h.1⟩, hM.1, hM.2, _, rfl, h.2⟩)
  · replace h := h.2 hc
    refine RN_k (callX_det _) 2 _ _ _ _ (show kd M l0 5 ∧ R95 sl sx d M0 P 9 [some (vR (some l0)), some (vR l1), some (vR l2), some (vI l3), some (vI l4), some (vI l5)] [vR (mR M l0 1)] M from ⟨h.1, ?_⟩)
    replace h := h.2
    obtain ⟨a8, he, h⟩ := h
    refine RN_k (callX_det _) 2 _ _ _ _ (show R95 sl sx d M0 P 11 [some (vR (some l0)), some (vR l1), some (vR l2), some (vI l3), some (vI l4), some (vI l5)] [vR l2, vR l1, vR (mR M l0 1)] M from ?_)
    rw [he]
    refine RN_k (callX_det _) 1 _ _ _ _ (show kd M a8 4 ∧ callX TBg sl sx (d + 4) 96 [vR (some a8), vR l1, vR l2] M (fun v M9 => R95 sl sx d M0 P 14 [some (vR (some l0)), some (vR l1), some (vR l2), some (vI l3), some (vI l4), some (vI l5)] (pushO v []) M9) from ⟨h.1, ?_⟩)
    replace h := h.2
    refine callX_mono (callX_len (d := (d + 4)) rfl rfl rfl (c96 (d := d + 1) h)) ?_
    clear h
    rintro v9 M9 ⟨hl, rfl, h⟩
    replace hM := lenT hM hl
    show R95 sl sx d M0 P 14 [some (vR (some l0)), some (vR l1), some (vR l2), some (vI l3), some (vI l4), some (vI l5)] [] M9
    refine RN_k (callX_det _) 2 _ _ _ _ (show kd M9 l0 5 ∧ R95 sl sx d M0 P 18 [some (vR (some l0)), some (vR l1), some (vR l2), some (vI l3), some (vI l4), some (vI l5)] [vR (mR M9 l0 1)] M9 from ⟨h.1, ?_⟩)
    replace h := h.2
    obtain ⟨a10, he, h⟩ := h
    rw [he]
    refine RN_k (callX_det _) 1 _ _ _ _ (show kd M9 a10 4 ∧ callX TBg sl sx (d + 4) 99 [vR (some a10)] M9 (fun v M9 => R95 sl sx d M0 P 21 [some (vR (some l0)), some (vR l1), some (vR l2), some (vI l3), some (vI l4), some (vI l5)] (pushO v []) M9) from ⟨h.1, ?_⟩)
    replace h := h.2
    refine callX_mono (callX_len (d := (d + 4)) rfl rfl rfl (c99 (d := d + 3) h)) ?_
    clear h
    rintro v9 M11 ⟨hl, r12, rfl, h⟩
    replace hM := lenT hM hl
    show R95 sl sx d M0 P 21 [some (vR (some l0)), some (vR l1), some (vR l2), some (vI l3), some (vI l4), some (vI l5)] [vI r12] M11
    refine RN_k (callX_det _) 8 _ _ _ _ (show (0 < (lg_cmp (r12.toInt64 * l5.toInt64) l4.toInt64) → R95 sl sx d M0 P 37 [some (vR (some l0)), some (vR l1), some (vR l2), some (vI l3), some (vI l4), some (vI l5)] [] M11) ∧ (¬ (0 < (lg_cmp (r12.toInt64 * l5.toInt64) l4.toInt64)) → R95 sl sx d M0 P 33 [some (vR (some l0)), some (vR l1), some (vR l2), some (vI l3), some (vI l4), some (vI l5)] [] M11) from ⟨fun hc => ?_, fun hc => ?_⟩)
    · replace h := h.1 hc
      refine RN_k (callX_det _) 1 _ _ _ _ (show R95 sl sx d M0 P 38 [some (vR (some l0)), some (vR l1), some (vR l2), some (vI l3), some (vI l4), some (vI l5)] [vI (0 : Int32)] M11 from ?_)
      exact RN_weak (K := [none, none, none, none, none, none]) (callX_det _) (show True from trivial) (t95_38  (0 : Int32) _ hM h)
    · replace h := h.2 hc
      refine RN_k (callX_det _) 2 _ _ _ _ (show R95 sl sx d M0 P 38 [some (vR (some l0)), some (vR l1), some (vR l2), some (vI l3), some (vI l4), some (vI l5)] [vI (1 : Int32)] M11 from ?_)
      exact RN_weak (K := [none, none, none, none, none, none]) (callX_det _) (show True from trivial) (t95_38  (1 : Int32) _ hM h)
theorem c95 {sl : Nat} {sx : Nat → Int32} {d : Nat} {l0 : Nat} {l1 : Option Nat} {l2 : Option Nat} {l3 : Int32} {l4 : Int32} {l5 : Int32} {M : MM} {P : Int32 → MM → Prop} (h : w95 l0 l1 l2 l3 l4 l5 M P) : callX TBg sl sx (d + 5) 95 [vR (some l0), vR l1, vR l2, vI l3, vI l4, vI l5] M (PI P) :=
  cX (d := d + 4) q95 (false, tb95) rfl rfl rfl (t95_E l0 l1 l2 l3 l4 l5 M lenR h)
-- TwoLeash.enough(IIIII)I
abbrev q93 : MQ7 := (6, 1, 6, 9, 0, 0, 1)
abbrev R93 (sl : Nat) (sx : Nat → Int32) (d : Nat) (M0 : MM) (P : Int32 → MM → Prop) : Nat → LL → List VV → MM → Prop := RN 9 false (mS M0).length (mT M0) 0 0 sl sx (callX TBg sl sx (d + 5)) (rtW q93 M0 (PI P)) (as2 tb93)
def w93_74 (s0 : Option Nat) (s1 : Int32) (M : MM) (P : Int32 → MM → Prop) : Prop := ∃ a1, s0 = some a1 ∧ (kd M a1 9 ∧ w35 a1 s1 M (fun r3 M2 => P r3 M2))
theorem t93_74 {sl : Nat} {sx : Nat → Int32} {d : Nat} {M0 : MM} {P : Int32 → MM → Prop} (s0 : Option Nat) (s1 : Int32) (M : MM) (hM : lenO M0 M) (h : w93_74  s0 s1 M P) : R93 sl sx d M0 P 74 [none, none, none, none, none, none] [vI s1, vR s0] M := by
  obtain ⟨a1, he, h⟩ := h
  subst he
  refine RN_k (callX_det _) 1 _ _ _ _ (show kd M a1 9 ∧ callX TBg sl sx (d + 5) 35 [vR (some a1), vI s1] M (fun v M9 => R93 sl sx d M0 P 77 [none, none, none, none, none, none] (pushO v []) M9) from ⟨h.1, ?_⟩)
  replace h := h.2
  refine callX_mono (callX_len (d := (d + 5)) rfl rfl rfl (c35 (d := d + 4) h)) ?_
  clear h
  rintro v9 M2 ⟨hl, r3, rfl, h⟩
  replace hM := lenT hM hl
  show R93 sl sx d M0 P 77 [none, none, none, none, none, none] [vI r3] M2
  exact RN_k (callX_det _) 1 _ _ _ _ (show rtW q93 M0 (PI P) (some (vI r3)) M2 from ⟨⟨_, rfl⟩, hM.1, hM.2, _, rfl, h⟩)
def w93_24 (l0 : Nat) (l1 : Int32) (l2 : Int32) (l3 : Int32) (l4 : Int32) (l5 : Int32) (s0 : Option Nat) (s1 : Option Nat) (s2 : Int32) (M : MM) (P : Int32 → MM → Prop) : Prop := ∃ a1, s1 = some a1 ∧ (kd M a1 9 ∧ w62 a1 s2 l1 l2 M (fun r3 M2 => ∃ a4, s0 = some a4 ∧ (kd M2 a4 9 ∧ (kd (sI M2 a4 10 r3) l0 9 ∧ (((mI (sI M2 a4 10 r3) l0 10) = 0 → (kd (sI M2 a4 10 r3) l0 9 ∧ (kd (sI M2 a4 10 r3) l0 9 ∧ (∃ a5, mR (sI M2 a4 10 r3) l0 5 = some a5 ∧ (inb (sI M2 a4 10 r3) a5 16 l1 ∧ (kd (sI M2 a4 10 r3) l0 9 ∧ (∃ a6, mR (sI M2 a4 10 r3) l0 5 = some a6 ∧ (inb (sI M2 a4 10 r3) a6 16 l2 ∧ (∃ a7, mR (sI M2 a4 10 r3) l0 15 = some a7 ∧ (kd (sI M2 a4 10 r3) a7 5 ∧ w95 a7 (mR (sI M2 a4 10 r3) a5 l1.toNatClampNeg) (mR (sI M2 a4 10 r3) a6 l2.toNatClampNeg) l3 l4 l5 (sI M2 a4 10 r3) (fun r9 M8 => (r9 = 0 → (w93_74  (some l0) (0 : Int32) M8 P)) ∧ (¬ (r9 = 0) → (w93_74  (some l0) (1 : Int32) M8 P))))))))))))) ∧ (¬ ((mI (sI M2 a4 10 r3) l0 10) = 0) → (P (-1 : Int32) (sI M2 a4 10 r3))))))))
theorem t93_24 {sl : Nat} {sx : Nat → Int32} {d : Nat} {M0 : MM} {P : Int32 → MM → Prop} (l0 : Nat) (l1 : Int32) (l2 : Int32) (l3 : Int32) (l4 : Int32) (l5 : Int32) (s0 : Option Nat) (s1 : Option Nat) (s2 : Int32) (M : MM) (hM : lenO M0 M) (h : w93_24  l0 l1 l2 l3 l4 l5 s0 s1 s2 M P) : R93 sl sx d M0 P 24 [some (vR (some l0)), some (vI l1), some (vI l2), some (vI l3), some (vI l4), some (vI l5)] [vI s2, vR s1, vR s0] M := by
  obtain ⟨a1, he, h⟩ := h
  refine RN_k (callX_det _) 2 _ _ _ _ (show R93 sl sx d M0 P 26 [some (vR (some l0)), some (vI l1), some (vI l2), some (vI l3), some (vI l4), some (vI l5)] [vI l2, vI l1, vI s2, vR s1, vR s0] M from ?_)
  subst he
  refine RN_k (callX_det _) 1 _ _ _ _ (show kd M a1 9 ∧ callX TBg sl sx (d + 5) 62 [vR (some a1), vI s2, vI l1, vI l2] M (fun v M9 => R93 sl sx d M0 P 29 [some (vR (some l0)), some (vI l1), some (vI l2), some (vI l3), some (vI l4), some (vI l5)] (pushO v [vR s0]) M9) from ⟨h.1, ?_⟩)
  replace h := h.2
  refine callX_mono (callX_len (d := (d + 5)) rfl rfl rfl (c62 (d := d + 3) h)) ?_
  clear h
  rintro v9 M2 ⟨hl, r3, rfl, h⟩
  replace hM := lenT hM hl
  show R93 sl sx d M0 P 29 [some (vR (some l0)), some (vI l1), some (vI l2), some (vI l3), some (vI l4), some (vI l5)] [vI r3, vR s0] M2
  obtain ⟨a4, he, h⟩ := h
  subst he
  refine RN_k (callX_det _) 1 _ _ _ _ (show kd M2 a4 9 ∧ R93 sl sx d M0 P 32 [some (vR (some l0)), some (vI l1), some (vI l2), some (vI l3), some (vI l4), some (vI l5)] [] (sI M2 a4 10 r3) from ⟨h.1, ?_⟩)
  replace h := h.2
  refine RN_k (callX_det _) 2 _ _ _ _ (show kd (sI M2 a4 10 r3) l0 9 ∧ R93 sl sx d M0 P 36 [some (vR (some l0)), some (vI l1), some (vI l2), some (vI l3), some (vI l4), some (vI l5)] [vI (mI (sI M2 a4 10 r3) l0 10)] (sI M2 a4 10 r3) from ⟨h.1, ?_⟩)
  replace h := h.2
  refine RN_k (callX_det _) 1 _ _ _ _ (show ((mI (sI M2 a4 10 r3) l0 10) = 0 → R93 sl sx d M0 P 41 [some (vR (some l0)), some (vI l1), some (vI l2), some (vI l3), some (vI l4), some (vI l5)] [] (sI M2 a4 10 r3)) ∧ (¬ ((mI (sI M2 a4 10 r3) l0 10) = 0) → R93 sl sx d M0 P 39 [some (vR (some l0)), some (vI l1), some (vI l2), some (vI l3), some (vI l4), some (vI l5)] [] (sI M2 a4 10 r3)) from ⟨fun hc => ?_, fun hc => ?_⟩)
  · replace h := h.1 hc
    refine RN_k (callX_det _) 3 _ _ _ _ (show kd (sI M2 a4 10 r3) l0 9 ∧ R93 sl sx d M0 P 46 [some (vR (some l0)), some (vI l1), some (vI l2), some (vI l3), some (vI l4), some (vI l5)] [vR (mR (sI M2 a4 10 r3) l0 15), vR (some l0)] (sI M2 a4 10 r3) from ⟨h.1, ?_⟩)
    replace h := h.2
    refine RN_k (callX_det _) 2 _ _ _ _ (show kd (sI M2 a4 10 r3) l0 9 ∧ R93 sl sx d M0 P 50 [some (vR (some l0)), some (vI l1), some (vI l2), some (vI l3), some (vI l4), some (vI l5)] [vR (mR (sI M2 a4 10 r3) l0 5), vR (mR (sI M2 a4 10 r3) l0 15), vR (some l0)] (sI M2 a4 10 r3) from ⟨h.1, ?_⟩)
    replace h := h.2
    obtain ⟨a5, he, h⟩ := h
    refine RN_k (callX_det _) 1 _ _ _ _ (show R93 sl sx d M0 P 51 [some (vR (some l0)), some (vI l1), some (vI l2), some (vI l3), some (vI l4), some (vI l5)] [vI l1, vR (mR (sI M2 a4 10 r3) l0 5), vR (mR (sI M2 a4 10 r3) l0 15), vR (some l0)] (sI M2 a4 10 r3) from ?_)
    rw [he]
    refine RN_k (callX_det _) 1 _ _ _ _ (show inb (sI M2 a4 10 r3) a5 16 l1 ∧ R93 sl sx d M0 P 52 [some (vR (some l0)), some (vI l1), some (vI l2), some (vI l3), some (vI l4), some (vI l5)] [vR (mR (sI M2 a4 10 r3) a5 l1.toNatClampNeg), vR (mR (sI M2 a4 10 r3) l0 15), vR (some l0)] (sI M2 a4 10 r3) from ⟨h.1, ?_⟩)
    replace h := h.2
    refine RN_k (callX_det _) 2 _ _ _ _ (show kd (sI M2 a4 10 r3) l0 9 ∧ R93 sl sx d M0 P 56 [some (vR (some l0)), some (vI l1), some (vI l2), some (vI l3), some (vI l4), some (vI l5)] [vR (mR (sI M2 a4 10 r3) l0 5), vR (mR (sI M2 a4 10 r3) a5 l1.toNatClampNeg), vR (mR (sI M2 a4 10 r3) l0 15), vR (some l0)] (sI M2 a4 10 r3) from ⟨h.1, ?_⟩)
    replace h := h.2
    obtain ⟨a6, he, h⟩ := h
    refine RN_k (callX_det _) 1 _ _ _ _ (show R93 sl sx d M0 P 57 [some (vR (some l0)), some (vI l1), some (vI l2), some (vI l3), some (vI l4), some (vI l5)] [vI l2, vR (mR (sI M2 a4 10 r3) l0 5), vR (mR (sI M2 a4 10 r3) a5 l1.toNatClampNeg), vR (mR (sI M2 a4 10 r3) l0 15), vR (some l0)] (sI M2 a4 10 r3) from ?_)
    rw [he]
    refine RN_k (callX_det _) 1 _ _ _ _ (show inb (sI M2 a4 10 r3) a6 16 l2 ∧ R93 sl sx d M0 P 58 [some (vR (some l0)), some (vI l1), some (vI l2), some (vI l3), some (vI l4), some (vI l5)] [vR (mR (sI M2 a4 10 r3) a6 l2.toNatClampNeg), vR (mR (sI M2 a4 10 r3) a5 l1.toNatClampNeg), vR (mR (sI M2 a4 10 r3) l0 15), vR (some l0)] (sI M2 a4 10 r3) from ⟨h.1, ?_⟩)
    replace h := h.2
    obtain ⟨a7, he, h⟩ := h
    refine RN_k (callX_det _) 3 _ _ _ _ (show R93 sl sx d M0 P 63 [some (vR (some l0)), some (vI l1), some (vI l2), some (vI l3), some (vI l4), some (vI l5)] [vI l5, vI l4, vI l3, vR (mR (sI M2 a4 10 r3) a6 l2.toNatClampNeg), vR (mR (sI M2 a4 10 r3) a5 l1.toNatClampNeg), vR (mR (sI M2 a4 10 r3) l0 15), vR (some l0)] (sI M2 a4 10 r3) from ?_)
    rw [he]
    refine RN_k (callX_det _) 1 _ _ _ _ (show kd (sI M2 a4 10 r3) a7 5 ∧ callX TBg sl sx (d + 5) 95 [vR (some a7), vR (mR (sI M2 a4 10 r3) a5 l1.toNatClampNeg), vR (mR (sI M2 a4 10 r3) a6 l2.toNatClampNeg), vI l3, vI l4, vI l5] (sI M2 a4 10 r3) (fun v M9 => R93 sl sx d M0 P 66 [some (vR (some l0)), some (vI l1), some (vI l2), some (vI l3), some (vI l4), some (vI l5)] (pushO v [vR (some l0)]) M9) from ⟨h.1, ?_⟩)
    replace h := h.2
    refine callX_mono (callX_len (d := (d + 5)) rfl rfl rfl (c95 (d := d) h)) ?_
    clear h
    rintro v9 M8 ⟨hl, r9, rfl, h⟩
    replace hM := lenT hM hl
    show R93 sl sx d M0 P 66 [some (vR (some l0)), some (vI l1), some (vI l2), some (vI l3), some (vI l4), some (vI l5)] [vI r9, vR (some l0)] M8
    refine RN_k (callX_det _) 1 _ _ _ _ (show (r9 = 0 → R93 sl sx d M0 P 73 [some (vR (some l0)), some (vI l1), some (vI l2), some (vI l3), some (vI l4), some (vI l5)] [vR (some l0)] M8) ∧ (¬ (r9 = 0) → R93 sl sx d M0 P 69 [some (vR (some l0)), some (vI l1), some (vI l2), some (vI l3), some (vI l4), some (vI l5)] [vR (some l0)] M8) from ⟨fun hc => ?_, fun hc => ?_⟩)
    · replace h := h.1 hc
      refine RN_k (callX_det _) 1 _ _ _ _ (show R93 sl sx d M0 P 74 [some (vR (some l0)), some (vI l1), some (vI l2), some (vI l3), some (vI l4), some (vI l5)] [vI (0 : Int32), vR (some l0)] M8 from ?_)
      exact RN_weak (K := [none, none, none, none, none, none]) (callX_det _) (show True from trivial) (t93_74  (some l0) (0 : Int32) _ hM h)
    · replace h := h.2 hc
      refine RN_k (callX_det _) 2 _ _ _ _ (show R93 sl sx d M0 P 74 [some (vR (some l0)), some (vI l1), some (vI l2), some (vI l3), some (vI l4), some (vI l5)] [vI (1 : Int32), vR (some l0)] M8 from ?_)
      exact RN_weak (K := [none, none, none, none, none, none]) (callX_det _) (show True from trivial) (t93_74  (some l0) (1 : Int32) _ hM h)
  · replace h := h.2 hc
    exact RN_k (callX_det _) 2 _ _ _ _ (show rtW q93 M0 (PI P) (some (vI (-1 : Int32))) (sI M2 a4 10 r3) from ⟨⟨_, rfl⟩, hM.1, hM.2, _, rfl, h⟩)
def w93_23 (l0 : Nat) (l1 : Int32) (l2 : Int32) (l3 : Int32) (l4 : Int32) (l5 : Int32) (s0 : Option Nat) (s1 : Option Nat) (M : MM) (P : Int32 → MM → Prop) : Prop := w93_24  l0 l1 l2 l3 l4 l5 s0 s1 (0 : Int32) M P
theorem t93_23 {sl : Nat} {sx : Nat → Int32} {d : Nat} {M0 : MM} {P : Int32 → MM → Prop} (l0 : Nat) (l1 : Int32) (l2 : Int32) (l3 : Int32) (l4 : Int32) (l5 : Int32) (s0 : Option Nat) (s1 : Option Nat) (M : MM) (hM : lenO M0 M) (h : w93_23  l0 l1 l2 l3 l4 l5 s0 s1 M P) : R93 sl sx d M0 P 23 [some (vR (some l0)), some (vI l1), some (vI l2), some (vI l3), some (vI l4), some (vI l5)] [vR s1, vR s0] M := by
  refine RN_k (callX_det _) 1 _ _ _ _ (show R93 sl sx d M0 P 24 [some (vR (some l0)), some (vI l1), some (vI l2), some (vI l3), some (vI l4), some (vI l5)] [vI (0 : Int32), vR s1, vR s0] M from ?_)
  exact RN_weak (K := [some (vR (some l0)), some (vI l1), some (vI l2), some (vI l3), some (vI l4), some (vI l5)]) (callX_det _) (show _ ∧ _ ∧ _ ∧ _ ∧ _ ∧ _ ∧ True from ⟨rfl, rfl, rfl, rfl, rfl, rfl, trivial⟩) (t93_24  l0 l1 l2 l3 l4 l5 s0 s1 (0 : Int32) _ hM h)
def w93 (l0 : Nat) (l1 : Int32) (l2 : Int32) (l3 : Int32) (l4 : Int32) (l5 : Int32) (M : MM) (P : Int32 → MM → Prop) : Prop := w94 l3 M (fun r2 M1 => (r2 = 0 → (w93_23  l0 l1 l2 l3 l4 l5 (some l0) (some l0) M1 P)) ∧ (¬ (r2 = 0) → (w74 l4 l5 M1 (fun r4 M3 => (r4 = 0 → (w93_23  l0 l1 l2 l3 l4 l5 (some l0) (some l0) M3 P)) ∧ (¬ (r4 = 0) → (w93_24  l0 l1 l2 l3 l4 l5 (some l0) (some l0) (1 : Int32) M3 P))))))
theorem t93_E {sl : Nat} {sx : Nat → Int32} {d : Nat} {M0 : MM} {P : Int32 → MM → Prop} (l0 : Nat) (l1 : Int32) (l2 : Int32) (l3 : Int32) (l4 : Int32) (l5 : Int32) (M : MM) (hM : lenO M0 M) (h : w93  l0 l1 l2 l3 l4 l5 M P) : R93 sl sx d M0 P 0 [some (vR (some l0)), some (vI l1), some (vI l2), some (vI l3), some (vI l4), some (vI l5)] [] M := by
  refine RN_k (callX_det _) 4 _ _ _ _ (show callX TBg sl sx (d + 5) 94 [vI l3] M (fun v M9 => R93 sl sx d M0 P 6 [some (vR (some l0)), some (vI l1), some (vI l2), some (vI l3), some (vI l4), some (vI l5)] (pushO v [vR (some l0), vR (some l0)]) M9) from ?_)
  refine callX_mono (callX_len (d := (d + 5)) rfl rfl rfl (c94 (d := d + 4) h)) ?_
  clear h
  rintro v9 M1 ⟨hl, r2, rfl, h⟩
  replace hM := lenT hM hl
  show R93 sl sx d M0 P 6 [some (vR (some l0)), some (vI l1), some (vI l2), some (vI l3), some (vI l4), some (vI l5)] [vI r2, vR (some l0), vR (some l0)] M1
  refine RN_k (callX_det _) 1 _ _ _ _ (show (r2 = 0 → R93 sl sx d M0 P 23 [some (vR (some l0)), some (vI l1), some (vI l2), some (vI l3), some (vI l4), some (vI l5)] [vR (some l0), vR (some l0)] M1) ∧ (¬ (r2 = 0) → R93 sl sx d M0 P 9 [some (vR (some l0)), some (vI l1), some (vI l2), some (vI l3), some (vI l4), some (vI l5)] [vR (some l0), vR (some l0)] M1) from ⟨fun hc => ?_, fun hc => ?_⟩)
  · replace h := h.1 hc
    exact RN_weak (K := [some (vR (some l0)), some (vI l1), some (vI l2), some (vI l3), some (vI l4), some (vI l5)]) (callX_det _) (show _ ∧ _ ∧ _ ∧ _ ∧ _ ∧ _ ∧ True from ⟨rfl, rfl, rfl, rfl, rfl, rfl, trivial⟩) (t93_23  l0 l1 l2 l3 l4 l5 (some l0) (some l0) _ hM h)
  · replace h := h.2 hc
    refine RN_k (callX_det _) 3 _ _ _ _ (show callX TBg sl sx (d + 5) 74 [vI l4, vI l5] M1 (fun v M9 => R93 sl sx d M0 P 16 [some (vR (some l0)), some (vI l1), some (vI l2), some (vI l3), some (vI l4), some (vI l5)] (pushO v [vR (some l0), vR (some l0)]) M9) from ?_)
    refine callX_mono (callX_len (d := (d + 5)) rfl rfl rfl (c74 (d := d + 4) h)) ?_
    clear h
    rintro v9 M3 ⟨hl, r4, rfl, h⟩
    replace hM := lenT hM hl
    show R93 sl sx d M0 P 16 [some (vR (some l0)), some (vI l1), some (vI l2), some (vI l3), some (vI l4), some (vI l5)] [vI r4, vR (some l0), vR (some l0)] M3
    refine RN_k (callX_det _) 1 _ _ _ _ (show (r4 = 0 → R93 sl sx d M0 P 23 [some (vR (some l0)), some (vI l1), some (vI l2), some (vI l3), some (vI l4), some (vI l5)] [vR (some l0), vR (some l0)] M3) ∧ (¬ (r4 = 0) → R93 sl sx d M0 P 19 [some (vR (some l0)), some (vI l1), some (vI l2), some (vI l3), some (vI l4), some (vI l5)] [vR (some l0), vR (some l0)] M3) from ⟨fun hc => ?_, fun hc => ?_⟩)
    · replace h := h.1 hc
      exact RN_weak (K := [some (vR (some l0)), some (vI l1), some (vI l2), some (vI l3), some (vI l4), some (vI l5)]) (callX_det _) (show _ ∧ _ ∧ _ ∧ _ ∧ _ ∧ _ ∧ True from ⟨rfl, rfl, rfl, rfl, rfl, rfl, trivial⟩) (t93_23  l0 l1 l2 l3 l4 l5 (some l0) (some l0) _ hM h)
    · replace h := h.2 hc
      refine RN_k (callX_det _) 2 _ _ _ _ (show R93 sl sx d M0 P 24 [some (vR (some l0)), some (vI l1), some (vI l2), some (vI l3), some (vI l4), some (vI l5)] [vI (1 : Int32), vR (some l0), vR (some l0)] M3 from ?_)
      exact RN_weak (K := [some (vR (some l0)), some (vI l1), some (vI l2), some (vI l3), some (vI l4), some (vI l5)]) (callX_det _) (show _ ∧ _ ∧ _ ∧ _ ∧ _ ∧ _ ∧ True from ⟨rfl, rfl, rfl, rfl, rfl, rfl, trivial⟩) (t93_24  l0 l1 l2 l3 l4 l5 (some l0) (some l0) (1 : Int32) _ hM h)
theorem c93 {sl : Nat} {sx : Nat → Int32} {d : Nat} {l0 : Nat} {l1 : Int32} {l2 : Int32} {l3 : Int32} {l4 : Int32} {l5 : Int32} {M : MM} {P : Int32 → MM → Prop} (h : w93 l0 l1 l2 l3 l4 l5 M P) : callX TBg sl sx (d + 6) 93 [vR (some l0), vI l1, vI l2, vI l3, vI l4, vI l5] M (PI P) :=
  cX (d := d + 5) q93 (false, tb93) rfl rfl rfl (t93_E l0 l1 l2 l3 l4 l5 M lenR h)
-- TwoLeash$Cells.firstSquare()I
abbrev q107 : MQ7 := (1, 1, 1, 1, 0, 0, 1)
abbrev R107 (sl : Nat) (sx : Nat → Int32) (d : Nat) (M0 : MM) (P : Int32 → MM → Prop) : Nat → LL → List VV → MM → Prop := RN 1 false (mS M0).length (mT M0) 0 0 sl sx (callX TBg sl sx (d + 1)) (rtW q107 M0 (PI P)) (as2 tb107)
def w107 (l0 : Nat) (M : MM) (P : Int32 → MM → Prop) : Prop := kd M l0 1 ∧ w82 l0 (0 : Int32) (0 : Int32) M (fun r2 M1 => ∃ a3, r2 = some a3 ∧ (kd M1 a3 7 ∧ (P ((mL M1 a3 2).toInt32) M1)))
theorem t107_E {sl : Nat} {sx : Nat → Int32} {d : Nat} {M0 : MM} {P : Int32 → MM → Prop} (l0 : Nat) (M : MM) (hM : lenO M0 M) (h : w107  l0 M P) : R107 sl sx d M0 P 0 [some (vR (some l0))] [] M := by
  refine RN_k (callX_det _) 4 _ _ _ _ (show kd M l0 1 ∧ callX TBg sl sx (d + 1) 82 [vR (some l0), vI (0 : Int32), vI (0 : Int32)] M (fun v M9 => R107 sl sx d M0 P 6 [some (vR (some l0))] (pushO v []) M9) from ⟨h.1, ?_⟩)
  replace h := h.2
  refine callX_mono (callX_len (d := (d + 1)) rfl rfl rfl (c82 (d := d) h)) ?_
  clear h
  rintro v9 M1 ⟨hl, r2, rfl, h⟩
  replace hM := lenT hM hl
  show R107 sl sx d M0 P 6 [some (vR (some l0))] [vR r2] M1
  obtain ⟨a3, he, h⟩ := h
  subst he
  refine RN_k (callX_det _) 1 _ _ _ _ (show kd M1 a3 7 ∧ R107 sl sx d M0 P 9 [some (vR (some l0))] [vL (mL M1 a3 2)] M1 from ⟨h.1, ?_⟩)
  replace h := h.2
  exact RN_k (callX_det _) 2 _ _ _ _ (show rtW q107 M0 (PI P) (some (vI ((mL M1 a3 2).toInt32))) M1 from ⟨⟨_, rfl⟩, hM.1, hM.2, _, rfl, h⟩)
theorem c107 {sl : Nat} {sx : Nat → Int32} {d : Nat} {l0 : Nat} {M : MM} {P : Int32 → MM → Prop} (h : w107 l0 M P) : callX TBg sl sx (d + 2) 107 [vR (some l0)] M (PI P) :=
  cX (d := d + 1) q107 (false, tb107) rfl rfl rfl (t107_E l0 M lenR h)
-- TwoLeash$Cells.lastSquare()I
abbrev q108 : MQ7 := (1, 1, 1, 1, 0, 0, 1)
abbrev R108 (sl : Nat) (sx : Nat → Int32) (d : Nat) (M0 : MM) (P : Int32 → MM → Prop) : Nat → LL → List VV → MM → Prop := RN 1 false (mS M0).length (mT M0) 0 0 sl sx (callX TBg sl sx (d + 1)) (rtW q108 M0 (PI P)) (as2 tb108)
def w108 (l0 : Nat) (M : MM) (P : Int32 → MM → Prop) : Prop := kd M l0 1 ∧ (kd M l0 1 ∧ (kd M l0 1 ∧ w82 l0 ((mI M l0 1) - (1 : Int32)) (mI M l0 2) M (fun r2 M1 => ∃ a3, r2 = some a3 ∧ (kd M1 a3 7 ∧ (P ((mL M1 a3 3).toInt32) M1)))))
theorem t108_E {sl : Nat} {sx : Nat → Int32} {d : Nat} {M0 : MM} {P : Int32 → MM → Prop} (l0 : Nat) (M : MM) (hM : lenO M0 M) (h : w108  l0 M P) : R108 sl sx d M0 P 0 [some (vR (some l0))] [] M := by
  refine RN_k (callX_det _) 3 _ _ _ _ (show kd M l0 1 ∧ R108 sl sx d M0 P 5 [some (vR (some l0))] [vI (mI M l0 1), vR (some l0)] M from ⟨h.1, ?_⟩)
  replace h := h.2
  refine RN_k (callX_det _) 4 _ _ _ _ (show kd M l0 1 ∧ R108 sl sx d M0 P 11 [some (vR (some l0))] [vI (mI M l0 2), vI ((mI M l0 1) - (1 : Int32)), vR (some l0)] M from ⟨h.1, ?_⟩)
  replace h := h.2
  refine RN_k (callX_det _) 1 _ _ _ _ (show kd M l0 1 ∧ callX TBg sl sx (d + 1) 82 [vR (some l0), vI ((mI M l0 1) - (1 : Int32)), vI (mI M l0 2)] M (fun v M9 => R108 sl sx d M0 P 14 [some (vR (some l0))] (pushO v []) M9) from ⟨h.1, ?_⟩)
  replace h := h.2
  refine callX_mono (callX_len (d := (d + 1)) rfl rfl rfl (c82 (d := d) h)) ?_
  clear h
  rintro v9 M1 ⟨hl, r2, rfl, h⟩
  replace hM := lenT hM hl
  show R108 sl sx d M0 P 14 [some (vR (some l0))] [vR r2] M1
  obtain ⟨a3, he, h⟩ := h
  subst he
  refine RN_k (callX_det _) 1 _ _ _ _ (show kd M1 a3 7 ∧ R108 sl sx d M0 P 17 [some (vR (some l0))] [vL (mL M1 a3 3)] M1 from ⟨h.1, ?_⟩)
  replace h := h.2
  exact RN_k (callX_det _) 2 _ _ _ _ (show rtW q108 M0 (PI P) (some (vI ((mL M1 a3 3).toInt32))) M1 from ⟨⟨_, rfl⟩, hM.1, hM.2, _, rfl, h⟩)
theorem c108 {sl : Nat} {sx : Nat → Int32} {d : Nat} {l0 : Nat} {M : MM} {P : Int32 → MM → Prop} (h : w108 l0 M P) : callX TBg sl sx (d + 2) 108 [vR (some l0)] M (PI P) :=
  cX (d := d + 1) q108 (false, tb108) rfl rfl rfl (t108_E l0 M lenR h)
-- TwoLeash$Changes.insert(JJ)V
abbrev q110 : MQ7 := (3, 1, 9, 2, 0, 0, 0)
abbrev R110 (sl : Nat) (sx : Nat → Int32) (d : Nat) (M0 : MM) (P : MM → Prop) : Nat → LL → List VV → MM → Prop := RN 2 false (mS M0).length (mT M0) 0 0 sl sx (callX TBg sl sx (d + 0)) (rtW q110 M0 (PV P)) (as2 tb110)
def w110_24 (M : MM) (P : MM → Prop) : Prop := P M
theorem t110_24 {sl : Nat} {sx : Nat → Int32} {d : Nat} {M0 : MM} {P : MM → Prop}  (M : MM) (hM : lenO M0 M) (h : w110_24   M P) : R110 sl sx d M0 P 24 [none, none, none, none, none, none, none, none, none] [] M := by
  exact RN_k (callX_det _) 1 _ _ _ _ (show rtW q110 M0 (PV P) none M from ⟨rfl, hM.1, hM.2, rfl, h⟩)
def w110_154 (M : MM) (P : MM → Prop) : Prop := P M
theorem t110_154 {sl : Nat} {sx : Nat → Int32} {d : Nat} {M0 : MM} {P : MM → Prop}  (M : MM) (hM : lenO M0 M) (h : w110_154   M P) : R110 sl sx d M0 P 154 [none, none, none, none, none, none, none, none, none] [] M := by
  exact RN_k (callX_det _) 1 _ _ _ _ (show rtW q110 M0 (PV P) none M from ⟨rfl, hM.1, hM.2, rfl, h⟩)
def w110_203 (l0 : Nat) (l1 : Int64) (l3 : Int64) (l5 : Int32) (M : MM) (P : MM → Prop) : Prop := kd M l0 2 ∧ (∃ a1, mR M l0 0 = some a1 ∧ (inb M a1 12 l5 ∧ (kd (sL M a1 l5.toNatClampNeg l1) l0 2 ∧ (∃ a2, mR (sL M a1 l5.toNatClampNeg l1) l0 1 = some a2 ∧ (inb (sL M a1 l5.toNatClampNeg l1) a2 12 l5 ∧ (kd (sL (sL M a1 l5.toNatClampNeg l1) a2 l5.toNatClampNeg l3) l0 2 ∧ (kd (sL (sL M a1 l5.toNatClampNeg l1) a2 l5.toNatClampNeg l3) l0 2 ∧ (P (sI (sL (sL M a1 l5.toNatClampNeg l1) a2 l5.toNatClampNeg l3) l0 2 ((mI (sL (sL M a1 l5.toNatClampNeg l1) a2 l5.toNatClampNeg l3) l0 2) + (1 : Int32)))))))))))
theorem t110_203 {sl : Nat} {sx : Nat → Int32} {d : Nat} {M0 : MM} {P : MM → Prop} (l0 : Nat) (l1 : Int64) (l3 : Int64) (l5 : Int32) (M : MM) (hM : lenO M0 M) (h : w110_203  l0 l1 l3 l5 M P) : R110 sl sx d M0 P 203 [some (vR (some l0)), some (vL l1), none, some (vL l3), none, some (vI l5), none, none, none] [] M := by
  refine RN_k (callX_det _) 2 _ _ _ _ (show kd M l0 2 ∧ R110 sl sx d M0 P 207 [some (vR (some l0)), some (vL l1), none, some (vL l3), none, some (vI l5), none, none, none] [vR (mR M l0 0)] M from ⟨h.1, ?_⟩)
  replace h := h.2
  obtain ⟨a1, he, h⟩ := h
  refine RN_k (callX_det _) 2 _ _ _ _ (show R110 sl sx d M0 P 210 [some (vR (some l0)), some (vL l1), none, some (vL l3), none, some (vI l5), none, none, none] [vL l1, vI l5, vR (mR M l0 0)] M from ?_)
  rw [he]
  refine RN_k (callX_det _) 1 _ _ _ _ (show inb M a1 12 l5 ∧ R110 sl sx d M0 P 211 [some (vR (some l0)), some (vL l1), none, some (vL l3), none, some (vI l5), none, none, none] [] (sL M a1 l5.toNatClampNeg l1) from ⟨h.1, ?_⟩)
  replace h := h.2
  refine RN_k (callX_det _) 2 _ _ _ _ (show kd (sL M a1 l5.toNatClampNeg l1) l0 2 ∧ R110 sl sx d M0 P 215 [some (vR (some l0)), some (vL l1), none, some (vL l3), none, some (vI l5), none, none, none] [vR (mR (sL M a1 l5.toNatClampNeg l1) l0 1)] (sL M a1 l5.toNatClampNeg l1) from ⟨h.1, ?_⟩)
  replace h := h.2
  obtain ⟨a2, he, h⟩ := h
  refine RN_k (callX_det _) 2 _ _ _ _ (show R110 sl sx d M0 P 218 [some (vR (some l0)), some (vL l1), none, some (vL l3), none, some (vI l5), none, none, none] [vL l3, vI l5, vR (mR (sL M a1 l5.toNatClampNeg l1) l0 1)] (sL M a1 l5.toNatClampNeg l1) from ?_)
  rw [he]
  refine RN_k (callX_det _) 1 _ _ _ _ (show inb (sL M a1 l5.toNatClampNeg l1) a2 12 l5 ∧ R110 sl sx d M0 P 219 [some (vR (some l0)), some (vL l1), none, some (vL l3), none, some (vI l5), none, none, none] [] (sL (sL M a1 l5.toNatClampNeg l1) a2 l5.toNatClampNeg l3) from ⟨h.1, ?_⟩)
  replace h := h.2
  refine RN_k (callX_det _) 3 _ _ _ _ (show kd (sL (sL M a1 l5.toNatClampNeg l1) a2 l5.toNatClampNeg l3) l0 2 ∧ R110 sl sx d M0 P 224 [some (vR (some l0)), some (vL l1), none, some (vL l3), none, some (vI l5), none, none, none] [vI (mI (sL (sL M a1 l5.toNatClampNeg l1) a2 l5.toNatClampNeg l3) l0 2), vR (some l0)] (sL (sL M a1 l5.toNatClampNeg l1) a2 l5.toNatClampNeg l3) from ⟨h.1, ?_⟩)
  replace h := h.2
  refine RN_k (callX_det _) 3 _ _ _ _ (show kd (sL (sL M a1 l5.toNatClampNeg l1) a2 l5.toNatClampNeg l3) l0 2 ∧ R110 sl sx d M0 P 229 [some (vR (some l0)), some (vL l1), none, some (vL l3), none, some (vI l5), none, none, none] [] (sI (sL (sL M a1 l5.toNatClampNeg l1) a2 l5.toNatClampNeg l3) l0 2 ((mI (sL (sL M a1 l5.toNatClampNeg l1) a2 l5.toNatClampNeg l3) l0 2) + (1 : Int32))) from ⟨h.1, ?_⟩)
  replace h := h.2
  exact RN_k (callX_det _) 1 _ _ _ _ (show rtW q110 M0 (PV P) none (sI (sL (sL M a1 l5.toNatClampNeg l1) a2 l5.toNatClampNeg l3) l0 2 ((mI (sL (sL M a1 l5.toNatClampNeg l1) a2 l5.toNatClampNeg l3) l0 2) + (1 : Int32))) from ⟨rfl, hM.1, hM.2, rfl, h⟩)
def w110_137 (l0 : Nat) (l1 : Int64) (l3 : Int64) (l5 : Int32) (s0 : Int32) (M : MM) (P : MM → Prop) : Prop := (s0 ≠ 0 → (w110_154  M P)) ∧ (¬ (s0 ≠ 0) → (kd M l0 2 ∧ (((mI M l0 2) < (506 : Int32) → (kd M l0 2 ∧ (kd M l0 2 ∧ (kd M l0 2 ∧ (∃ a1, mR M l0 0 = some a1 ∧ (∃ n2 n3, (mS M)[a1]? = some (12, n2) ∧ (mS M)[a1]? = some (12, n3) ∧ ¬ l5 < 0 ∧ ¬ (l5 + (1 : Int32)) < 0 ∧ ¬ ((mI M l0 2) - l5) < 0 ∧ l5.toNatClampNeg + ((mI M l0 2) - l5).toNatClampNeg ≤ n2 ∧ (l5 + (1 : Int32)).toNatClampNeg + ((mI M l0 2) - l5).toNatClampNeg ≤ n3 ∧ (kd (sLr M a1 (va_cpy (mL M a1) (mL M a1) l5.toNatClampNeg (l5 + (1 : Int32)).toNatClampNeg ((mI M l0 2) - l5).toNatClampNeg)) l0 2 ∧ (kd (sLr M a1 (va_cpy (mL M a1) (mL M a1) l5.toNatClampNeg (l5 + (1 : Int32)).toNatClampNeg ((mI M l0 2) - l5).toNatClampNeg)) l0 2 ∧ (kd (sLr M a1 (va_cpy (mL M a1) (mL M a1) l5.toNatClampNeg (l5 + (1 : Int32)).toNatClampNeg ((mI M l0 2) - l5).toNatClampNeg)) l0 2 ∧ (∃ a4, mR (sLr M a1 (va_cpy (mL M a1) (mL M a1) l5.toNatClampNeg (l5 + (1 : Int32)).toNatClampNeg ((mI M l0 2) - l5).toNatClampNeg)) l0 1 = some a4 ∧ (∃ n5 n6, (mS (sLr M a1 (va_cpy (mL M a1) (mL M a1) l5.toNatClampNeg (l5 + (1 : Int32)).toNatClampNeg ((mI M l0 2) - l5).toNatClampNeg)))[a4]? = some (12, n5) ∧ (mS (sLr M a1 (va_cpy (mL M a1) (mL M a1) l5.toNatClampNeg (l5 + (1 : Int32)).toNatClampNeg ((mI M l0 2) - l5).toNatClampNeg)))[a4]? = some (12, n6) ∧ ¬ l5 < 0 ∧ ¬ (l5 + (1 : Int32)) < 0 ∧ ¬ ((mI (sLr M a1 (va_cpy (mL M a1) (mL M a1) l5.toNatClampNeg (l5 + (1 : Int32)).toNatClampNeg ((mI M l0 2) - l5).toNatClampNeg)) l0 2) - l5) < 0 ∧ l5.toNatClampNeg + ((mI (sLr M a1 (va_cpy (mL M a1) (mL M a1) l5.toNatClampNeg (l5 + (1 : Int32)).toNatClampNeg ((mI M l0 2) - l5).toNatClampNeg)) l0 2) - l5).toNatClampNeg ≤ n5 ∧ (l5 + (1 : Int32)).toNatClampNeg + ((mI (sLr M a1 (va_cpy (mL M a1) (mL M a1) l5.toNatClampNeg (l5 + (1 : Int32)).toNatClampNeg ((mI M l0 2) - l5).toNatClampNeg)) l0 2) - l5).toNatClampNeg ≤ n6 ∧ (w110_203  l0 l1 l3 l5 (sLr (sLr M a1 (va_cpy (mL M a1) (mL M a1) l5.toNatClampNeg (l5 + (1 : Int32)).toNatClampNeg ((mI M l0 2) - l5).toNatClampNeg)) a4 (va_cpy (mL (sLr M a1 (va_cpy (mL M a1) (mL M a1) l5.toNatClampNeg (l5 + (1 : Int32)).toNatClampNeg ((mI M l0 2) - l5).toNatClampNeg)) a4) (mL (sLr M a1 (va_cpy (mL M a1) (mL M a1) l5.toNatClampNeg (l5 + (1 : Int32)).toNatClampNeg ((mI M l0 2) - l5).toNatClampNeg)) a4) l5.toNatClampNeg (l5 + (1 : Int32)).toNatClampNeg ((mI (sLr M a1 (va_cpy (mL M a1) (mL M a1) l5.toNatClampNeg (l5 + (1 : Int32)).toNatClampNeg ((mI M l0 2) - l5).toNatClampNeg)) l0 2) - l5).toNatClampNeg)) P)))))))))))) ∧ (¬ ((mI M l0 2) < (506 : Int32)) → (w110_154  M P)))))
theorem t110_137 {sl : Nat} {sx : Nat → Int32} {d : Nat} {M0 : MM} {P : MM → Prop} (l0 : Nat) (l1 : Int64) (l3 : Int64) (l5 : Int32) (s0 : Int32) (M : MM) (hM : lenO M0 M) (h : w110_137  l0 l1 l3 l5 s0 M P) : R110 sl sx d M0 P 137 [some (vR (some l0)), some (vL l1), none, some (vL l3), none, some (vI l5), none, none, none] [vI s0] M := by
  refine RN_k (callX_det _) 3 _ _ _ _ (show (s0 ≠ 0 → R110 sl sx d M0 P 154 [some (vR (some l0)), some (vL l1), none, some (vL l3), none, some (vI l5), none, some (vI s0), none] [] M) ∧ (¬ (s0 ≠ 0) → R110 sl sx d M0 P 144 [some (vR (some l0)), some (vL l1), none, some (vL l3), none, some (vI l5), none, some (vI s0), none] [] M) from ⟨fun hc => ?_, fun hc => ?_⟩)
  · replace h := h.1 hc
    exact RN_weak (K := [none, none, none, none, none, none, none, none, none]) (callX_det _) (show True from trivial) (t110_154   _ hM h)
  · replace h := h.2 hc
    refine RN_k (callX_det _) 2 _ _ _ _ (show kd M l0 2 ∧ R110 sl sx d M0 P 148 [some (vR (some l0)), some (vL l1), none, some (vL l3), none, some (vI l5), none, some (vI s0), none] [vI (mI M l0 2)] M from ⟨h.1, ?_⟩)
    replace h := h.2
    refine RN_k (callX_det _) 2 _ _ _ _ (show ((mI M l0 2) < (506 : Int32) → R110 sl sx d M0 P 155 [some (vR (some l0)), some (vL l1), none, some (vL l3), none, some (vI l5), none, some (vI s0), none] [] M) ∧ (¬ ((mI M l0 2) < (506 : Int32)) → R110 sl sx d M0 P 154 [some (vR (some l0)), some (vL l1), none, some (vL l3), none, some (vI l5), none, some (vI s0), none] [] M) from ⟨fun hc => ?_, fun hc => ?_⟩)
    · replace h := h.1 hc
      refine RN_k (callX_det _) 2 _ _ _ _ (show kd M l0 2 ∧ R110 sl sx d M0 P 159 [some (vR (some l0)), some (vL l1), none, some (vL l3), none, some (vI l5), none, some (vI s0), none] [vR (mR M l0 0)] M from ⟨h.1, ?_⟩)
      replace h := h.2
      refine RN_k (callX_det _) 3 _ _ _ _ (show kd M l0 2 ∧ R110 sl sx d M0 P 165 [some (vR (some l0)), some (vL l1), none, some (vL l3), none, some (vI l5), none, some (vI s0), none] [vR (mR M l0 0), vI l5, vR (mR M l0 0)] M from ⟨h.1, ?_⟩)
      replace h := h.2
      refine RN_k (callX_det _) 5 _ _ _ _ (show kd M l0 2 ∧ R110 sl sx d M0 P 173 [some (vR (some l0)), some (vL l1), none, some (vL l3), none, some (vI l5), none, some (vI s0), none] [vI (mI M l0 2), vI (l5 + (1 : Int32)), vR (mR M l0 0), vI l5, vR (mR M l0 0)] M from ⟨h.1, ?_⟩)
      replace h := h.2
      obtain ⟨a1, he, h⟩ := h
      refine RN_k (callX_det _) 2 _ _ _ _ (show R110 sl sx d M0 P 176 [some (vR (some l0)), some (vL l1), none, some (vL l3), none, some (vI l5), none, some (vI s0), none] [vI ((mI M l0 2) - l5), vI (l5 + (1 : Int32)), vR (mR M l0 0), vI l5, vR (mR M l0 0)] M from ?_)
      rw [he]
      obtain ⟨n2, n3, h⟩ := h
      refine RN_k (callX_det _) 1 _ _ _ _ (show ∃ n2 n3, (mS M)[a1]? = some (12, n2) ∧ (mS M)[a1]? = some (12, n3) ∧ ¬ l5 < 0 ∧ ¬ (l5 + (1 : Int32)) < 0 ∧ ¬ ((mI M l0 2) - l5) < 0 ∧ l5.toNatClampNeg + ((mI M l0 2) - l5).toNatClampNeg ≤ n2 ∧ (l5 + (1 : Int32)).toNatClampNeg + ((mI M l0 2) - l5).toNatClampNeg ≤ n3 ∧ R110 sl sx d M0 P 179 [some (vR (some l0)), some (vL l1), none, some (vL l3), none, some (vI l5), none, some (vI s0), none] [] (sLr M a1 (va_cpy (mL M a1) (mL M a1) l5.toNatClampNeg (l5 + (1 : Int32)).toNatClampNeg ((mI M l0 2) - l5).toNatClampNeg)) from ⟨n2, n3, h.1, h.2.1, h.2.2.1, h.2.2.2.1, h.2.2.2.2.1, h.2.2.2.2.2.1, h.2.2.2.2.2.2.1, ?_⟩)
      replace h := h.2.2.2.2.2.2.2
      refine RN_k (callX_det _) 2 _ _ _ _ (show kd (sLr M a1 (va_cpy (mL M a1) (mL M a1) l5.toNatClampNeg (l5 + (1 : Int32)).toNatClampNeg ((mI M l0 2) - l5).toNatClampNeg)) l0 2 ∧ R110 sl sx d M0 P 183 [some (vR (some l0)), some (vL l1), none, some (vL l3), none, some (vI l5), none, some (vI s0), none] [vR (mR (sLr M a1 (va_cpy (mL M a1) (mL M a1) l5.toNatClampNeg (l5 + (1 : Int32)).toNatClampNeg ((mI M l0 2) - l5).toNatClampNeg)) l0 1)] (sLr M a1 (va_cpy (mL M a1) (mL M a1) l5.toNatClampNeg (l5 + (1 : Int32)).toNatClampNeg ((mI M l0 2) - l5).toNatClampNeg)) from ⟨h.1, ?_⟩)
      replace h := h.2
      refine RN_k (callX_det _) 3 _ _ _ _ (show kd (sLr M a1 (va_cpy (mL M a1) (mL M a1) l5.toNatClampNeg (l5 + (1 : Int32)).toNatClampNeg ((mI M l0 2) - l5).toNatClampNeg)) l0 2 ∧ R110 sl sx d M0 P 189 [some (vR (some l0)), some (vL l1), none, some (vL l3), none, some (vI l5), none, some (vI s0), none] [vR (mR (sLr M a1 (va_cpy (mL M a1) (mL M a1) l5.toNatClampNeg (l5 + (1 : Int32)).toNatClampNeg ((mI M l0 2) - l5).toNatClampNeg)) l0 1), vI l5, vR (mR (sLr M a1 (va_cpy (mL M a1) (mL M a1) l5.toNatClampNeg (l5 + (1 : Int32)).toNatClampNeg ((mI M l0 2) - l5).toNatClampNeg)) l0 1)] (sLr M a1 (va_cpy (mL M a1) (mL M a1) l5.toNatClampNeg (l5 + (1 : Int32)).toNatClampNeg ((mI M l0 2) - l5).toNatClampNeg)) from ⟨h.1, ?_⟩)
      replace h := h.2
      refine RN_k (callX_det _) 5 _ _ _ _ (show kd (sLr M a1 (va_cpy (mL M a1) (mL M a1) l5.toNatClampNeg (l5 + (1 : Int32)).toNatClampNeg ((mI M l0 2) - l5).toNatClampNeg)) l0 2 ∧ R110 sl sx d M0 P 197 [some (vR (some l0)), some (vL l1), none, some (vL l3), none, some (vI l5), none, some (vI s0), none] [vI (mI (sLr M a1 (va_cpy (mL M a1) (mL M a1) l5.toNatClampNeg (l5 + (1 : Int32)).toNatClampNeg ((mI M l0 2) - l5).toNatClampNeg)) l0 2), vI (l5 + (1 : Int32)), vR (mR (sLr M a1 (va_cpy (mL M a1) (mL M a1) l5.toNatClampNeg (l5 + (1 : Int32)).toNatClampNeg ((mI M l0 2) - l5).toNatClampNeg)) l0 1), vI l5, vR (mR (sLr M a1 (va_cpy (mL M a1) (mL M a1) l5.toNatClampNeg (l5 + (1 : Int32)).toNatClampNeg ((mI M l0 2) - l5).toNatClampNeg)) l0 1)] (sLr M a1 (va_cpy (mL M a1) (mL M a1) l5.toNatClampNeg (l5 + (1 : Int32)).toNatClampNeg ((mI M l0 2) - l5).toNatClampNeg)) from ⟨h.1, ?_⟩)
      replace h := h.2
      obtain ⟨a4, he, h⟩ := h
      refine RN_k (callX_det _) 2 _ _ _ _ (show R110 sl sx d M0 P 200 [some (vR (some l0)), some (vL l1), none, some (vL l3), none, some (vI l5), none, some (vI s0), none] [vI ((mI (sLr M a1 (va_cpy (mL M a1) (mL M a1) l5.toNatClampNeg (l5 + (1 : Int32)).toNatClampNeg ((mI M l0 2) - l5).toNatClampNeg)) l0 2) - l5), vI (l5 + (1 : Int32)), vR (mR (sLr M a1 (va_cpy (mL M a1) (mL M a1) l5.toNatClampNeg (l5 + (1 : Int32)).toNatClampNeg ((mI M l0 2) - l5).toNatClampNeg)) l0 1), vI l5, vR (mR (sLr M a1 (va_cpy (mL M a1) (mL M a1) l5.toNatClampNeg (l5 + (1 : Int32)).toNatClampNeg ((mI M l0 2) - l5).toNatClampNeg)) l0 1)] (sLr M a1 (va_cpy (mL M a1) (mL M a1) l5.toNatClampNeg (l5 + (1 : Int32)).toNatClampNeg ((mI M l0 2) - l5).toNatClampNeg)) from ?_)
      rw [he]
      obtain ⟨n5, n6, h⟩ := h
      refine RN_k (callX_det _) 1 _ _ _ _ (show ∃ n5 n6, (mS (sLr M a1 (va_cpy (mL M a1) (mL M a1) l5.toNatClampNeg (l5 + (1 : Int32)).toNatClampNeg ((mI M l0 2) - l5).toNatClampNeg)))[a4]? = some (12, n5) ∧ (mS (sLr M a1 (va_cpy (mL M a1) (mL M a1) l5.toNatClampNeg (l5 + (1 : Int32)).toNatClampNeg ((mI M l0 2) - l5).toNatClampNeg)))[a4]? = some (12, n6) ∧ ¬ l5 < 0 ∧ ¬ (l5 + (1 : Int32)) < 0 ∧ ¬ ((mI (sLr M a1 (va_cpy (mL M a1) (mL M a1) l5.toNatClampNeg (l5 + (1 : Int32)).toNatClampNeg ((mI M l0 2) - l5).toNatClampNeg)) l0 2) - l5) < 0 ∧ l5.toNatClampNeg + ((mI (sLr M a1 (va_cpy (mL M a1) (mL M a1) l5.toNatClampNeg (l5 + (1 : Int32)).toNatClampNeg ((mI M l0 2) - l5).toNatClampNeg)) l0 2) - l5).toNatClampNeg ≤ n5 ∧ (l5 + (1 : Int32)).toNatClampNeg + ((mI (sLr M a1 (va_cpy (mL M a1) (mL M a1) l5.toNatClampNeg (l5 + (1 : Int32)).toNatClampNeg ((mI M l0 2) - l5).toNatClampNeg)) l0 2) - l5).toNatClampNeg ≤ n6 ∧ R110 sl sx d M0 P 203 [some (vR (some l0)), some (vL l1), none, some (vL l3), none, some (vI l5), none, some (vI s0), none] [] (sLr (sLr M a1 (va_cpy (mL M a1) (mL M a1) l5.toNatClampNeg (l5 + (1 : Int32)).toNatClampNeg ((mI M l0 2) - l5).toNatClampNeg)) a4 (va_cpy (mL (sLr M a1 (va_cpy (mL M a1) (mL M a1) l5.toNatClampNeg (l5 + (1 : Int32)).toNatClampNeg ((mI M l0 2) - l5).toNatClampNeg)) a4) (mL (sLr M a1 (va_cpy (mL M a1) (mL M a1) l5.toNatClampNeg (l5 + (1 : Int32)).toNatClampNeg ((mI M l0 2) - l5).toNatClampNeg)) a4) l5.toNatClampNeg (l5 + (1 : Int32)).toNatClampNeg ((mI (sLr M a1 (va_cpy (mL M a1) (mL M a1) l5.toNatClampNeg (l5 + (1 : Int32)).toNatClampNeg ((mI M l0 2) - l5).toNatClampNeg)) l0 2) - l5).toNatClampNeg)) from ⟨n5, n6, h.1, h.2.1, h.2.2.1, h.2.2.2.1, h.2.2.2.2.1, h.2.2.2.2.2.1, h.2.2.2.2.2.2.1, ?_⟩)
      replace h := h.2.2.2.2.2.2.2
      exact RN_weak (K := [some (vR (some l0)), some (vL l1), none, some (vL l3), none, some (vI l5), none, none, none]) (callX_det _) (show _ ∧ _ ∧ _ ∧ _ ∧ True from ⟨rfl, rfl, rfl, rfl, trivial⟩) (t110_203  l0 l1 l3 l5 _ hM h)
    · replace h := h.2 hc
      exact RN_weak (K := [none, none, none, none, none, none, none, none, none]) (callX_det _) (show True from trivial) (t110_154   _ hM h)
def w110_136 (l0 : Nat) (l1 : Int64) (l3 : Int64) (l5 : Int32) (M : MM) (P : MM → Prop) : Prop := w110_137  l0 l1 l3 l5 (0 : Int32) M P
theorem t110_136 {sl : Nat} {sx : Nat → Int32} {d : Nat} {M0 : MM} {P : MM → Prop} (l0 : Nat) (l1 : Int64) (l3 : Int64) (l5 : Int32) (M : MM) (hM : lenO M0 M) (h : w110_136  l0 l1 l3 l5 M P) : R110 sl sx d M0 P 136 [some (vR (some l0)), some (vL l1), none, some (vL l3), none, some (vI l5), none, none, none] [] M := by
  refine RN_k (callX_det _) 1 _ _ _ _ (show R110 sl sx d M0 P 137 [some (vR (some l0)), some (vL l1), none, some (vL l3), none, some (vI l5), none, none, none] [vI (0 : Int32)] M from ?_)
  exact RN_weak (K := [some (vR (some l0)), some (vL l1), none, some (vL l3), none, some (vI l5), none, none, none]) (callX_det _) (show _ ∧ _ ∧ _ ∧ _ ∧ True from ⟨rfl, rfl, rfl, rfl, trivial⟩) (t110_137  l0 l1 l3 l5 (0 : Int32) _ hM h)
def w110_101 (l0 : Nat) (l1 : Int64) (l3 : Int64) (l5 : Int32) (M : MM) (P : MM → Prop) : Prop := kd M l0 2 ∧ (((mI M l0 2) ≤ l5 → (w110_136  l0 l1 l3 l5 M P)) ∧ (¬ ((mI M l0 2) ≤ l5) → (kd M l0 2 ∧ (∃ a1, mR M l0 0 = some a1 ∧ (inb M a1 12 l5 ∧ (kd M l0 2 ∧ (∃ a2, mR M l0 1 = some a2 ∧ (inb M a2 12 l5 ∧ (((lg_cmp ((mL M a1 l5.toNatClampNeg) * l3) (l1 * (mL M a2 l5.toNatClampNeg))) ≠ 0 → (w110_136  l0 l1 l3 l5 M P)) ∧ (¬ ((lg_cmp ((mL M a1 l5.toNatClampNeg) * l3) (l1 * (mL M a2 l5.toNatClampNeg))) ≠ 0) → (w110_137  l0 l1 l3 l5 (1 : Int32) M P)))))))))))
theorem t110_101 {sl : Nat} {sx : Nat → Int32} {d : Nat} {M0 : MM} {P : MM → Prop} (l0 : Nat) (l1 : Int64) (l3 : Int64) (l5 : Int32) (M : MM) (hM : lenO M0 M) (h : w110_101  l0 l1 l3 l5 M P) : R110 sl sx d M0 P 101 [some (vR (some l0)), some (vL l1), none, some (vL l3), none, some (vI l5), none, none, none] [] M := by
  refine RN_k (callX_det _) 3 _ _ _ _ (show kd M l0 2 ∧ R110 sl sx d M0 P 107 [some (vR (some l0)), some (vL l1), none, some (vL l3), none, some (vI l5), none, none, none] [vI (mI M l0 2), vI l5] M from ⟨h.1, ?_⟩)
  replace h := h.2
  refine RN_k (callX_det _) 1 _ _ _ _ (show ((mI M l0 2) ≤ l5 → R110 sl sx d M0 P 136 [some (vR (some l0)), some (vL l1), none, some (vL l3), none, some (vI l5), none, none, none] [] M) ∧ (¬ ((mI M l0 2) ≤ l5) → R110 sl sx d M0 P 110 [some (vR (some l0)), some (vL l1), none, some (vL l3), none, some (vI l5), none, none, none] [] M) from ⟨fun hc => ?_, fun hc => ?_⟩)
  · replace h := h.1 hc
    exact RN_weak (K := [some (vR (some l0)), some (vL l1), none, some (vL l3), none, some (vI l5), none, none, none]) (callX_det _) (show _ ∧ _ ∧ _ ∧ _ ∧ True from ⟨rfl, rfl, rfl, rfl, trivial⟩) (t110_136  l0 l1 l3 l5 _ hM h)
  · replace h := h.2 hc
    refine RN_k (callX_det _) 2 _ _ _ _ (show kd M l0 2 ∧ R110 sl sx d M0 P 114 [some (vR (some l0)), some (vL l1), none, some (vL l3), none, some (vI l5), none, none, none] [vR (mR M l0 0)] M from ⟨h.1, ?_⟩)
    replace h := h.2
    obtain ⟨a1, he, h⟩ := h
    refine RN_k (callX_det _) 1 _ _ _ _ (show R110 sl sx d M0 P 116 [some (vR (some l0)), some (vL l1), none, some (vL l3), none, some (vI l5), none, none, none] [vI l5, vR (mR M l0 0)] M from ?_)
    rw [he]
    refine RN_k (callX_det _) 1 _ _ _ _ (show inb M a1 12 l5 ∧ R110 sl sx d M0 P 117 [some (vR (some l0)), some (vL l1), none, some (vL l3), none, some (vI l5), none, none, none] [vL (mL M a1 l5.toNatClampNeg)] M from ⟨h.1, ?_⟩)
    replace h := h.2
    refine RN_k (callX_det _) 5 _ _ _ _ (show kd M l0 2 ∧ R110 sl sx d M0 P 124 [some (vR (some l0)), some (vL l1), none, some (vL l3), none, some (vI l5), none, none, none] [vR (mR M l0 1), vL l1, vL ((mL M a1 l5.toNatClampNeg) * l3)] M from ⟨h.1, ?_⟩)
    replace h := h.2
    obtain ⟨a2, he, h⟩ := h
    refine RN_k (callX_det _) 1 _ _ _ _ (show R110 sl sx d M0 P 126 [some (vR (some l0)), some (vL l1), none, some (vL l3), none, some (vI l5), none, none, none] [vI l5, vR (mR M l0 1), vL l1, vL ((mL M a1 l5.toNatClampNeg) * l3)] M from ?_)
    rw [he]
    refine RN_k (callX_det _) 1 _ _ _ _ (show inb M a2 12 l5 ∧ R110 sl sx d M0 P 127 [some (vR (some l0)), some (vL l1), none, some (vL l3), none, some (vI l5), none, none, none] [vL (mL M a2 l5.toNatClampNeg), vL l1, vL ((mL M a1 l5.toNatClampNeg) * l3)] M from ⟨h.1, ?_⟩)
    replace h := h.2
    refine RN_k (callX_det _) 3 _ _ _ _ (show ((lg_cmp ((mL M a1 l5.toNatClampNeg) * l3) (l1 * (mL M a2 l5.toNatClampNeg))) ≠ 0 → R110 sl sx d M0 P 136 [some (vR (some l0)), some (vL l1), none, some (vL l3), none, some (vI l5), none, none, none] [] M) ∧ (¬ ((lg_cmp ((mL M a1 l5.toNatClampNeg) * l3) (l1 * (mL M a2 l5.toNatClampNeg))) ≠ 0) → R110 sl sx d M0 P 132 [some (vR (some l0)), some (vL l1), none, some (vL l3), none, some (vI l5), none, none, none] [] M) from ⟨fun hc => ?_, fun hc => ?_⟩)
    · replace h := h.1 hc
      exact RN_weak (K := [some (vR (some l0)), some (vL l1), none, some (vL l3), none, some (vI l5), none, none, none]) (callX_det _) (show _ ∧ _ ∧ _ ∧ _ ∧ True from ⟨rfl, rfl, rfl, rfl, trivial⟩) (t110_136  l0 l1 l3 l5 _ hM h)
    · replace h := h.2 hc
      refine RN_k (callX_det _) 2 _ _ _ _ (show R110 sl sx d M0 P 137 [some (vR (some l0)), some (vL l1), none, some (vL l3), none, some (vI l5), none, none, none] [vI (1 : Int32)] M from ?_)
      exact RN_weak (K := [some (vR (some l0)), some (vL l1), none, some (vL l3), none, some (vI l5), none, none, none]) (callX_det _) (show _ ∧ _ ∧ _ ∧ _ ∧ True from ⟨rfl, rfl, rfl, rfl, trivial⟩) (t110_137  l0 l1 l3 l5 (1 : Int32) _ hM h)
def w110_95 (k37 : Nat → Int64 → Int64 → Int32 → Int32 → Int32 → MM → Prop) (l0 : Nat) (l1 : Int64) (l3 : Int64) (l5 : Int32) (l6 : Int32) (l7 : Int32) (M : MM) (P : MM → Prop) : Prop := k37 l0 l1 l3 l5 l6 (l7 + (1 : Int32)) M
theorem t110_95 {sl : Nat} {sx : Nat → Int32} {d : Nat} {M0 : MM} {P : MM → Prop} {k37 : Nat → Int64 → Int64 → Int32 → Int32 → Int32 → MM → Prop} (hk37 : ∀ (l0 : Nat) (l1 : Int64) (l3 : Int64) (l5 : Int32) (l6 : Int32) (l7 : Int32) (M : MM), lenO M0 M → k37 l0 l1 l3 l5 l6 l7 M → R110 sl sx d M0 P 37 [some (vR (some l0)), some (vL l1), none, some (vL l3), none, some (vI l5), some (vI l6), some (vI l7), none] [] M) (l0 : Nat) (l1 : Int64) (l3 : Int64) (l5 : Int32) (l6 : Int32) (l7 : Int32) (M : MM) (hM : lenO M0 M) (h : w110_95 k37 l0 l1 l3 l5 l6 l7 M P) : R110 sl sx d M0 P 95 [some (vR (some l0)), some (vL l1), none, some (vL l3), none, some (vI l5), some (vI l6), some (vI l7), none] [] M := by
  refine RN_k (callX_det _) 2 _ _ _ _ (show R110 sl sx d M0 P 37 [some (vR (some l0)), some (vL l1), none, some (vL l3), none, some (vI l5), some (vI l6), some (vI (l7 + (1 : Int32))), none] [] M from ?_)
  exact RN_weak (K := [some (vR (some l0)), some (vL l1), none, some (vL l3), none, some (vI l5), some (vI l6), some (vI (l7 + (1 : Int32))), none]) (callX_det _) (show _ ∧ _ ∧ _ ∧ _ ∧ _ ∧ _ ∧ True from ⟨rfl, rfl, rfl, rfl, rfl, rfl, trivial⟩) (hk37 l0 l1 l3 l5 l6 (l7 + (1 : Int32)) _ hM h)
def w110_37 : Nat → Nat → Int64 → Int64 → Int32 → Int32 → Int32 → MM → (MM → Prop) → Prop
  | 0 => fun _ _ _ _ _ _ _ _ => False
  | n + 1 => fun l0 l1 l3 l5 l6 l7 M P => ((10 : Int32) ≤ l7 → (w110_101  l0 l1 l3 l5 M P)) ∧ (¬ ((10 : Int32) ≤ l7) → ((l6 ≤ l5 → (w110_101  l0 l1 l3 l5 M P)) ∧ (¬ (l6 ≤ l5) → (¬ (2 : Int32) = 0 ∧ (kd M l0 2 ∧ (∃ a1, mR M l0 0 = some a1 ∧ (inb M a1 12 ((l5 + l6) / (2 : Int32)) ∧ (kd M l0 2 ∧ (∃ a2, mR M l0 1 = some a2 ∧ (inb M a2 12 ((l5 + l6) / (2 : Int32)) ∧ ((0 ≤ (lg_cmp ((mL M a1 ((l5 + l6) / (2 : Int32)).toNatClampNeg) * l3) (l1 * (mL M a2 ((l5 + l6) / (2 : Int32)).toNatClampNeg))) → (w110_95 (fun z0 z1 z2 z3 z4 z5 z6 => w110_37  n z0 z1 z2 z3 z4 z5 z6 P) l0 l1 l3 l5 ((l5 + l6) / (2 : Int32)) l7 M P)) ∧ (¬ (0 ≤ (lg_cmp ((mL M a1 ((l5 + l6) / (2 : Int32)).toNatClampNeg) * l3) (l1 * (mL M a2 ((l5 + l6) / (2 : Int32)).toNatClampNeg)))) → (w110_95 (fun z0 z1 z2 z3 z4 z5 z6 => w110_37  n z0 z1 z2 z3 z4 z5 z6 P) l0 l1 l3 (((l5 + l6) / (2 : Int32)) + (1 : Int32)) l6 l7 M P)))))))))))))
theorem t110_37 {sl : Nat} {sx : Nat → Int32} {d : Nat} {M0 : MM} {P : MM → Prop} (n : Nat) : ∀ (l0 : Nat) (l1 : Int64) (l3 : Int64) (l5 : Int32) (l6 : Int32) (l7 : Int32) (M : MM) (_ : lenO M0 M) (_ : w110_37  n l0 l1 l3 l5 l6 l7 M P), R110 sl sx d M0 P 37 [some (vR (some l0)), some (vL l1), none, some (vL l3), none, some (vI l5), some (vI l6), some (vI l7), none] [] M := by
  induction n with
  | zero => intro l0 l1 l3 l5 l6 l7 M hM h; cases h
  | succ n ih =>
    intro l0 l1 l3 l5 l6 l7 M hM h
    refine RN_k (callX_det _) 3 _ _ _ _ (show ((10 : Int32) ≤ l7 → R110 sl sx d M0 P 101 [some (vR (some l0)), some (vL l1), none, some (vL l3), none, some (vI l5), some (vI l6), some (vI l7), none] [] M) ∧ (¬ ((10 : Int32) ≤ l7) → R110 sl sx d M0 P 44 [some (vR (some l0)), some (vL l1), none, some (vL l3), none, some (vI l5), some (vI l6), some (vI l7), none] [] M) from ⟨fun hc => ?_, fun hc => ?_⟩)
    · replace h := h.1 hc
      exact RN_weak (K := [some (vR (some l0)), some (vL l1), none, some (vL l3), none, some (vI l5), none, none, none]) (callX_det _) (show _ ∧ _ ∧ _ ∧ _ ∧ True from ⟨rfl, rfl, rfl, rfl, trivial⟩) (t110_101  l0 l1 l3 l5 _ hM h)
    · replace h := h.2 hc
      refine RN_k (callX_det _) 3 _ _ _ _ (show (l6 ≤ l5 → R110 sl sx d M0 P 101 [some (vR (some l0)), some (vL l1), none, some (vL l3), none, some (vI l5), some (vI l6), some (vI l7), none] [] M) ∧ (¬ (l6 ≤ l5) → R110 sl sx d M0 P 51 [some (vR (some l0)), some (vL l1), none, some (vL l3), none, some (vI l5), some (vI l6), some (vI l7), none] [] M) from ⟨fun hc => ?_, fun hc => ?_⟩)
      · replace h := h.1 hc
        exact RN_weak (K := [some (vR (some l0)), some (vL l1), none, some (vL l3), none, some (vI l5), none, none, none]) (callX_det _) (show _ ∧ _ ∧ _ ∧ _ ∧ True from ⟨rfl, rfl, rfl, rfl, trivial⟩) (t110_101  l0 l1 l3 l5 _ hM h)
      · replace h := h.2 hc
        refine RN_k (callX_det _) 5 _ _ _ _ (show ¬ (2 : Int32) = 0 ∧ R110 sl sx d M0 P 58 [some (vR (some l0)), some (vL l1), none, some (vL l3), none, some (vI l5), some (vI l6), some (vI l7), none] [vI ((l5 + l6) / (2 : Int32))] M from ⟨h.1, ?_⟩)
        replace h := h.2
        refine RN_k (callX_det _) 3 _ _ _ _ (show kd M l0 2 ∧ R110 sl sx d M0 P 64 [some (vR (some l0)), some (vL l1), none, some (vL l3), none, some (vI l5), some (vI l6), some (vI l7), some (vI ((l5 + l6) / (2 : Int32)))] [vR (mR M l0 0)] M from ⟨h.1, ?_⟩)
        replace h := h.2
        obtain ⟨a1, he, h⟩ := h
        refine RN_k (callX_det _) 1 _ _ _ _ (show R110 sl sx d M0 P 66 [some (vR (some l0)), some (vL l1), none, some (vL l3), none, some (vI l5), some (vI l6), some (vI l7), some (vI ((l5 + l6) / (2 : Int32)))] [vI ((l5 + l6) / (2 : Int32)), vR (mR M l0 0)] M from ?_)
        rw [he]
        refine RN_k (callX_det _) 1 _ _ _ _ (show inb M a1 12 ((l5 + l6) / (2 : Int32)) ∧ R110 sl sx d M0 P 67 [some (vR (some l0)), some (vL l1), none, some (vL l3), none, some (vI l5), some (vI l6), some (vI l7), some (vI ((l5 + l6) / (2 : Int32)))] [vL (mL M a1 ((l5 + l6) / (2 : Int32)).toNatClampNeg)] M from ⟨h.1, ?_⟩)
        replace h := h.2
        refine RN_k (callX_det _) 5 _ _ _ _ (show kd M l0 2 ∧ R110 sl sx d M0 P 74 [some (vR (some l0)), some (vL l1), none, some (vL l3), none, some (vI l5), some (vI l6), some (vI l7), some (vI ((l5 + l6) / (2 : Int32)))] [vR (mR M l0 1), vL l1, vL ((mL M a1 ((l5 + l6) / (2 : Int32)).toNatClampNeg) * l3)] M from ⟨h.1, ?_⟩)
        replace h := h.2
        obtain ⟨a2, he, h⟩ := h
        refine RN_k (callX_det _) 1 _ _ _ _ (show R110 sl sx d M0 P 76 [some (vR (some l0)), some (vL l1), none, some (vL l3), none, some (vI l5), some (vI l6), some (vI l7), some (vI ((l5 + l6) / (2 : Int32)))] [vI ((l5 + l6) / (2 : Int32)), vR (mR M l0 1), vL l1, vL ((mL M a1 ((l5 + l6) / (2 : Int32)).toNatClampNeg) * l3)] M from ?_)
        rw [he]
        refine RN_k (callX_det _) 1 _ _ _ _ (show inb M a2 12 ((l5 + l6) / (2 : Int32)) ∧ R110 sl sx d M0 P 77 [some (vR (some l0)), some (vL l1), none, some (vL l3), none, some (vI l5), some (vI l6), some (vI l7), some (vI ((l5 + l6) / (2 : Int32)))] [vL (mL M a2 ((l5 + l6) / (2 : Int32)).toNatClampNeg), vL l1, vL ((mL M a1 ((l5 + l6) / (2 : Int32)).toNatClampNeg) * l3)] M from ⟨h.1, ?_⟩)
        replace h := h.2
        refine RN_k (callX_det _) 3 _ _ _ _ (show (0 ≤ (lg_cmp ((mL M a1 ((l5 + l6) / (2 : Int32)).toNatClampNeg) * l3) (l1 * (mL M a2 ((l5 + l6) / (2 : Int32)).toNatClampNeg))) → R110 sl sx d M0 P 91 [some (vR (some l0)), some (vL l1), none, some (vL l3), none, some (vI l5), some (vI l6), some (vI l7), some (vI ((l5 + l6) / (2 : Int32)))] [] M) ∧ (¬ (0 ≤ (lg_cmp ((mL M a1 ((l5 + l6) / (2 : Int32)).toNatClampNeg) * l3) (l1 * (mL M a2 ((l5 + l6) / (2 : Int32)).toNatClampNeg)))) → R110 sl sx d M0 P 82 [some (vR (some l0)), some (vL l1), none, some (vL l3), none, some (vI l5), some (vI l6), some (vI l7), some (vI ((l5 + l6) / (2 : Int32)))] [] M) from ⟨fun hc => ?_, fun hc => ?_⟩)
        · replace h := h.1 hc
          refine RN_k (callX_det _) 2 _ _ _ _ (show R110 sl sx d M0 P 95 [some (vR (some l0)), some (vL l1), none, some (vL l3), none, some (vI l5), some (vI ((l5 + l6) / (2 : Int32))), some (vI l7), some (vI ((l5 + l6) / (2 : Int32)))] [] M from ?_)
          exact RN_weak (K := [some (vR (some l0)), some (vL l1), none, some (vL l3), none, some (vI l5), some (vI ((l5 + l6) / (2 : Int32))), some (vI l7), none]) (callX_det _) (show _ ∧ _ ∧ _ ∧ _ ∧ _ ∧ _ ∧ True from ⟨rfl, rfl, rfl, rfl, rfl, rfl, trivial⟩) (t110_95 ih l0 l1 l3 l5 ((l5 + l6) / (2 : Int32)) l7 _ hM h)
        · replace h := h.2 hc
          refine RN_k (callX_det _) 5 _ _ _ _ (show R110 sl sx d M0 P 95 [some (vR (some l0)), some (vL l1), none, some (vL l3), none, some (vI (((l5 + l6) / (2 : Int32)) + (1 : Int32))), some (vI l6), some (vI l7), some (vI ((l5 + l6) / (2 : Int32)))] [] M from ?_)
          exact RN_weak (K := [some (vR (some l0)), some (vL l1), none, some (vL l3), none, some (vI (((l5 + l6) / (2 : Int32)) + (1 : Int32))), some (vI l6), some (vI l7), none]) (callX_det _) (show _ ∧ _ ∧ _ ∧ _ ∧ _ ∧ _ ∧ True from ⟨rfl, rfl, rfl, rfl, rfl, rfl, trivial⟩) (t110_95 ih l0 l1 l3 (((l5 + l6) / (2 : Int32)) + (1 : Int32)) l6 l7 _ hM h)
def w110 (l0 : Nat) (l1 : Int64) (l3 : Int64) (M : MM) (P : MM → Prop) : Prop := kd M l0 2 ∧ (((lg_cmp l1 (((mI M l0 3).toInt64) * l3)) < 0 → (w110_24  M P)) ∧ (¬ ((lg_cmp l1 (((mI M l0 3).toInt64) * l3)) < 0) → (kd M l0 2 ∧ (((lg_cmp l1 (((mI M l0 4).toInt64) * l3)) ≤ 0 → (kd M l0 2 ∧ (∃ n2, w110_37  n2 l0 l1 l3 (0 : Int32) (mI M l0 2) (0 : Int32) M P))) ∧ (¬ ((lg_cmp l1 (((mI M l0 4).toInt64) * l3)) ≤ 0) → (w110_24  M P))))))
theorem t110_E {sl : Nat} {sx : Nat → Int32} {d : Nat} {M0 : MM} {P : MM → Prop} (l0 : Nat) (l1 : Int64) (l3 : Int64) (M : MM) (hM : lenO M0 M) (h : w110  l0 l1 l3 M P) : R110 sl sx d M0 P 0 [some (vR (some l0)), some (vL l1), none, some (vL l3), none, none, none, none, none] [] M := by
  refine RN_k (callX_det _) 3 _ _ _ _ (show kd M l0 2 ∧ R110 sl sx d M0 P 5 [some (vR (some l0)), some (vL l1), none, some (vL l3), none, none, none, none, none] [vI (mI M l0 3), vL l1] M from ⟨h.1, ?_⟩)
  replace h := h.2
  refine RN_k (callX_det _) 5 _ _ _ _ (show ((lg_cmp l1 (((mI M l0 3).toInt64) * l3)) < 0 → R110 sl sx d M0 P 24 [some (vR (some l0)), some (vL l1), none, some (vL l3), none, none, none, none, none] [] M) ∧ (¬ ((lg_cmp l1 (((mI M l0 3).toInt64) * l3)) < 0) → R110 sl sx d M0 P 12 [some (vR (some l0)), some (vL l1), none, some (vL l3), none, none, none, none, none] [] M) from ⟨fun hc => ?_, fun hc => ?_⟩)
  · replace h := h.1 hc
    exact RN_weak (K := [none, none, none, none, none, none, none, none, none]) (callX_det _) (show True from trivial) (t110_24   _ hM h)
  · replace h := h.2 hc
    refine RN_k (callX_det _) 3 _ _ _ _ (show kd M l0 2 ∧ R110 sl sx d M0 P 17 [some (vR (some l0)), some (vL l1), none, some (vL l3), none, none, none, none, none] [vI (mI M l0 4), vL l1] M from ⟨h.1, ?_⟩)
    replace h := h.2
    refine RN_k (callX_det _) 5 _ _ _ _ (show ((lg_cmp l1 (((mI M l0 4).toInt64) * l3)) ≤ 0 → R110 sl sx d M0 P 25 [some (vR (some l0)), some (vL l1), none, some (vL l3), none, none, none, none, none] [] M) ∧ (¬ ((lg_cmp l1 (((mI M l0 4).toInt64) * l3)) ≤ 0) → R110 sl sx d M0 P 24 [some (vR (some l0)), some (vL l1), none, some (vL l3), none, none, none, none, none] [] M) from ⟨fun hc => ?_, fun hc => ?_⟩)
    · replace h := h.1 hc
      refine RN_k (callX_det _) 4 _ _ _ _ (show kd M l0 2 ∧ R110 sl sx d M0 P 32 [some (vR (some l0)), some (vL l1), none, some (vL l3), none, some (vI (0 : Int32)), none, none, none] [vI (mI M l0 2)] M from ⟨h.1, ?_⟩)
      replace h := h.2
      refine RN_k (callX_det _) 3 _ _ _ _ (show R110 sl sx d M0 P 37 [some (vR (some l0)), some (vL l1), none, some (vL l3), none, some (vI (0 : Int32)), some (vI (mI M l0 2)), some (vI (0 : Int32)), none] [] M from ?_)
      obtain ⟨n2, h⟩ := h
      exact RN_weak (K := [some (vR (some l0)), some (vL l1), none, some (vL l3), none, some (vI (0 : Int32)), some (vI (mI M l0 2)), some (vI (0 : Int32)), none]) (callX_det _) (show _ ∧ _ ∧ _ ∧ _ ∧ _ ∧ _ ∧ True from ⟨rfl, rfl, rfl, rfl, rfl, rfl, trivial⟩) (t110_37  n2 l0 l1 l3 (0 : Int32) (mI M l0 2) (0 : Int32) _ hM h)
    · replace h := h.2 hc
      exact RN_weak (K := [none, none, none, none, none, none, none, none, none]) (callX_det _) (show True from trivial) (t110_24   _ hM h)
theorem c110 {sl : Nat} {sx : Nat → Int32} {d : Nat} {l0 : Nat} {l1 : Int64} {l3 : Int64} {M : MM} {P : MM → Prop} (h : w110 l0 l1 l3 M P) : callX TBg sl sx (d + 1) 110 [vR (some l0), vL l1, vL l3] M (PV P) :=
  cX (d := d + 0) q110 (false, tb110) rfl rfl rfl (t110_E l0 l1 l3 M lenR h)
-- TwoLeash$Changes.insertMeeting(LTwoLeash$Side;LTwoLeash$Side;)V
abbrev q111 : MQ7 := (3, 1, 9, 2, 0, 0, 0)
abbrev R111 (sl : Nat) (sx : Nat → Int32) (d : Nat) (M0 : MM) (P : MM → Prop) : Nat → LL → List VV → MM → Prop := RN 2 false (mS M0).length (mT M0) 0 0 sl sx (callX TBg sl sx (d + 1)) (rtW q111 M0 (PV P)) (as2 tb111)
def w111_101 (M : MM) (P : MM → Prop) : Prop := P M
theorem t111_101 {sl : Nat} {sx : Nat → Int32} {d : Nat} {M0 : MM} {P : MM → Prop}  (M : MM) (hM : lenO M0 M) (h : w111_101   M P) : R111 sl sx d M0 P 101 [none, none, none, none, none, none, none, none, none] [] M := by
  exact RN_k (callX_det _) 1 _ _ _ _ (show rtW q111 M0 (PV P) none M from ⟨rfl, hM.1, hM.2, rfl, h⟩)
def w111_39 (l0 : Nat) (l1 : Option Nat) (l3 : Int64) (l5 : Int64) (M : MM) (P : MM → Prop) : Prop := ((lg_cmp l3 (0 : Int64)) ≤ 0 → (w111_101  M P)) ∧ (¬ ((lg_cmp l3 (0 : Int64)) ≤ 0) → (((lg_cmp l5 (0 : Int64)) < 0 → (w111_101  M P)) ∧ (¬ ((lg_cmp l5 (0 : Int64)) < 0) → ((0 < (lg_cmp l5 l3) → (w111_101  M P)) ∧ (¬ (0 < (lg_cmp l5 l3)) → (∃ a1, l1 = some a1 ∧ (kd M a1 7 ∧ (kd M a1 7 ∧ (kd M a1 7 ∧ (kd M l0 2 ∧ w110 l0 (((((mL M a1 2) * l3) - (((2 : Int64) * (mL M a1 1)) * l5)) * l3) + (((mL M a1 0) * l5) * l5)) (l3 * l3) M (fun M2 => w111_101  M2 P)))))))))))
theorem t111_39 {sl : Nat} {sx : Nat → Int32} {d : Nat} {M0 : MM} {P : MM → Prop} (l0 : Nat) (l1 : Option Nat) (l3 : Int64) (l5 : Int64) (M : MM) (hM : lenO M0 M) (h : w111_39  l0 l1 l3 l5 M P) : R111 sl sx d M0 P 39 [some (vR (some l0)), some (vR l1), none, some (vL l3), none, some (vL l5), none, none, none] [] M := by
  refine RN_k (callX_det _) 4 _ _ _ _ (show ((lg_cmp l3 (0 : Int64)) ≤ 0 → R111 sl sx d M0 P 101 [some (vR (some l0)), some (vR l1), none, some (vL l3), none, some (vL l5), none, none, none] [] M) ∧ (¬ ((lg_cmp l3 (0 : Int64)) ≤ 0) → R111 sl sx d M0 P 45 [some (vR (some l0)), some (vR l1), none, some (vL l3), none, some (vL l5), none, none, none] [] M) from ⟨fun hc => ?_, fun hc => ?_⟩)
  · replace h := h.1 hc
    exact RN_weak (K := [none, none, none, none, none, none, none, none, none]) (callX_det _) (show True from trivial) (t111_101   _ hM h)
  · replace h := h.2 hc
    refine RN_k (callX_det _) 4 _ _ _ _ (show ((lg_cmp l5 (0 : Int64)) < 0 → R111 sl sx d M0 P 101 [some (vR (some l0)), some (vR l1), none, some (vL l3), none, some (vL l5), none, none, none] [] M) ∧ (¬ ((lg_cmp l5 (0 : Int64)) < 0) → R111 sl sx d M0 P 52 [some (vR (some l0)), some (vR l1), none, some (vL l3), none, some (vL l5), none, none, none] [] M) from ⟨fun hc => ?_, fun hc => ?_⟩)
    · replace h := h.1 hc
      exact RN_weak (K := [none, none, none, none, none, none, none, none, none]) (callX_det _) (show True from trivial) (t111_101   _ hM h)
    · replace h := h.2 hc
      refine RN_k (callX_det _) 4 _ _ _ _ (show (0 < (lg_cmp l5 l3) → R111 sl sx d M0 P 101 [some (vR (some l0)), some (vR l1), none, some (vL l3), none, some (vL l5), none, none, none] [] M) ∧ (¬ (0 < (lg_cmp l5 l3)) → R111 sl sx d M0 P 59 [some (vR (some l0)), some (vR l1), none, some (vL l3), none, some (vL l5), none, none, none] [] M) from ⟨fun hc => ?_, fun hc => ?_⟩)
      · replace h := h.1 hc
        exact RN_weak (K := [none, none, none, none, none, none, none, none, none]) (callX_det _) (show True from trivial) (t111_101   _ hM h)
      · replace h := h.2 hc
        obtain ⟨a1, he, h⟩ := h
        refine RN_k (callX_det _) 1 _ _ _ _ (show R111 sl sx d M0 P 60 [some (vR (some l0)), some (vR l1), none, some (vL l3), none, some (vL l5), none, none, none] [vR l1] M from ?_)
        subst he
        refine RN_k (callX_det _) 1 _ _ _ _ (show kd M a1 7 ∧ R111 sl sx d M0 P 63 [some (vR (some l0)), some (vR (some a1)), none, some (vL l3), none, some (vL l5), none, none, none] [vL (mL M a1 2)] M from ⟨h.1, ?_⟩)
        replace h := h.2
        refine RN_k (callX_det _) 5 _ _ _ _ (show kd M a1 7 ∧ R111 sl sx d M0 P 72 [some (vR (some l0)), some (vR (some a1)), none, some (vL l3), none, some (vL l5), none, none, none] [vL (mL M a1 1), vL (2 : Int64), vL ((mL M a1 2) * l3)] M from ⟨h.1, ?_⟩)
        replace h := h.2
        refine RN_k (callX_det _) 8 _ _ _ _ (show kd M a1 7 ∧ R111 sl sx d M0 P 83 [some (vR (some l0)), some (vR (some a1)), none, some (vL l3), none, some (vL l5), none, none, none] [vL (mL M a1 0), vL ((((mL M a1 2) * l3) - (((2 : Int64) * (mL M a1 1)) * l5)) * l3)] M from ⟨h.1, ?_⟩)
        replace h := h.2
        refine RN_k (callX_det _) 12 _ _ _ _ (show kd M l0 2 ∧ callX TBg sl sx (d + 1) 110 [vR (some l0), vL (((((mL M a1 2) * l3) - (((2 : Int64) * (mL M a1 1)) * l5)) * l3) + (((mL M a1 0) * l5) * l5)), vL (l3 * l3)] M (fun v M9 => R111 sl sx d M0 P 101 [some (vR (some l0)), some (vR (some a1)), none, some (vL l3), none, some (vL l5), none, some (vL (((((mL M a1 2) * l3) - (((2 : Int64) * (mL M a1 1)) * l5)) * l3) + (((mL M a1 0) * l5) * l5))), none] (pushO v []) M9) from ⟨h.1, ?_⟩)
        replace h := h.2
        refine callX_mono (callX_len (d := (d + 1)) rfl rfl rfl (c110 (d := d) h)) ?_
        clear h
        rintro v9 M2 ⟨hl, rfl, h⟩
        replace hM := lenT hM hl
        show R111 sl sx d M0 P 101 [some (vR (some l0)), some (vR (some a1)), none, some (vL l3), none, some (vL l5), none, some (vL (((((mL M a1 2) * l3) - (((2 : Int64) * (mL M a1 1)) * l5)) * l3) + (((mL M a1 0) * l5) * l5))), none] [] M2
        exact RN_weak (K := [none, none, none, none, none, none, none, none, none]) (callX_det _) (show True from trivial) (t111_101   _ hM h)
def w111 (l0 : Nat) (l1 : Option Nat) (l2 : Option Nat) (M : MM) (P : MM → Prop) : Prop := ∃ a1, l2 = some a1 ∧ (kd M a1 7 ∧ (∃ a2, l1 = some a2 ∧ (kd M a2 7 ∧ (kd M a1 7 ∧ (kd M a2 7 ∧ ((0 ≤ (lg_cmp ((2 : Int64) * ((mL M a1 1) - (mL M a2 1))) (0 : Int64)) → (w111_39  l0 (some a2) ((2 : Int64) * ((mL M a1 1) - (mL M a2 1))) ((mL M a1 2) - (mL M a2 2)) M P)) ∧ (¬ (0 ≤ (lg_cmp ((2 : Int64) * ((mL M a1 1) - (mL M a2 1))) (0 : Int64))) → (w111_39  l0 (some a2) (-((2 : Int64) * ((mL M a1 1) - (mL M a2 1)))) (-((mL M a1 2) - (mL M a2 2))) M P))))))))
theorem t111_E {sl : Nat} {sx : Nat → Int32} {d : Nat} {M0 : MM} {P : MM → Prop} (l0 : Nat) (l1 : Option Nat) (l2 : Option Nat) (M : MM) (hM : lenO M0 M) (h : w111  l0 l1 l2 M P) : R111 sl sx d M0 P 0 [some (vR (some l0)), some (vR l1), some (vR l2), none, none, none, none, none, none] [] M := by
  obtain ⟨a1, he, h⟩ := h
  refine RN_k (callX_det _) 2 _ _ _ _ (show R111 sl sx d M0 P 4 [some (vR (some l0)), some (vR l1), some (vR l2), none, none, none, none, none, none] [vR l2, vL (2 : Int64)] M from ?_)
  subst he
  refine RN_k (callX_det _) 1 _ _ _ _ (show kd M a1 7 ∧ R111 sl sx d M0 P 7 [some (vR (some l0)), some (vR l1), some (vR (some a1)), none, none, none, none, none, none] [vL (mL M a1 1), vL (2 : Int64)] M from ⟨h.1, ?_⟩)
  replace h := h.2
  obtain ⟨a2, he, h⟩ := h
  refine RN_k (callX_det _) 1 _ _ _ _ (show R111 sl sx d M0 P 8 [some (vR (some l0)), some (vR l1), some (vR (some a1)), none, none, none, none, none, none] [vR l1, vL (mL M a1 1), vL (2 : Int64)] M from ?_)
  subst he
  refine RN_k (callX_det _) 1 _ _ _ _ (show kd M a2 7 ∧ R111 sl sx d M0 P 11 [some (vR (some l0)), some (vR (some a2)), some (vR (some a1)), none, none, none, none, none, none] [vL (mL M a2 1), vL (mL M a1 1), vL (2 : Int64)] M from ⟨h.1, ?_⟩)
  replace h := h.2
  refine RN_k (callX_det _) 5 _ _ _ _ (show kd M a1 7 ∧ R111 sl sx d M0 P 18 [some (vR (some l0)), some (vR (some a2)), some (vR (some a1)), some (vL ((2 : Int64) * ((mL M a1 1) - (mL M a2 1)))), none, none, none, none, none] [vL (mL M a1 2)] M from ⟨h.1, ?_⟩)
  replace h := h.2
  refine RN_k (callX_det _) 2 _ _ _ _ (show kd M a2 7 ∧ R111 sl sx d M0 P 22 [some (vR (some l0)), some (vR (some a2)), some (vR (some a1)), some (vL ((2 : Int64) * ((mL M a1 1) - (mL M a2 1)))), none, none, none, none, none] [vL (mL M a2 2), vL (mL M a1 2)] M from ⟨h.1, ?_⟩)
  replace h := h.2
  refine RN_k (callX_det _) 6 _ _ _ _ (show (0 ≤ (lg_cmp ((2 : Int64) * ((mL M a1 1) - (mL M a2 1))) (0 : Int64)) → R111 sl sx d M0 P 39 [some (vR (some l0)), some (vR (some a2)), some (vR (some a1)), some (vL ((2 : Int64) * ((mL M a1 1) - (mL M a2 1)))), none, some (vL ((mL M a1 2) - (mL M a2 2))), none, none, none] [] M) ∧ (¬ (0 ≤ (lg_cmp ((2 : Int64) * ((mL M a1 1) - (mL M a2 1))) (0 : Int64))) → R111 sl sx d M0 P 31 [some (vR (some l0)), some (vR (some a2)), some (vR (some a1)), some (vL ((2 : Int64) * ((mL M a1 1) - (mL M a2 1)))), none, some (vL ((mL M a1 2) - (mL M a2 2))), none, none, none] [] M) from ⟨fun hc => ?_, fun hc => ?_⟩)
  · replace h := h.1 hc
    exact RN_weak (K := [some (vR (some l0)), some (vR (some a2)), none, some (vL ((2 : Int64) * ((mL M a1 1) - (mL M a2 1)))), none, some (vL ((mL M a1 2) - (mL M a2 2))), none, none, none]) (callX_det _) (show _ ∧ _ ∧ _ ∧ _ ∧ True from ⟨rfl, rfl, rfl, rfl, trivial⟩) (t111_39  l0 (some a2) ((2 : Int64) * ((mL M a1 1) - (mL M a2 1))) ((mL M a1 2) - (mL M a2 2)) _ hM h)
  · replace h := h.2 hc
    refine RN_k (callX_det _) 6 _ _ _ _ (show R111 sl sx d M0 P 39 [some (vR (some l0)), some (vR (some a2)), some (vR (some a1)), some (vL (-((2 : Int64) * ((mL M a1 1) - (mL M a2 1))))), none, some (vL (-((mL M a1 2) - (mL M a2 2)))), none, none, none] [] M from ?_)
    exact RN_weak (K := [some (vR (some l0)), some (vR (some a2)), none, some (vL (-((2 : Int64) * ((mL M a1 1) - (mL M a2 1))))), none, some (vL (-((mL M a1 2) - (mL M a2 2)))), none, none, none]) (callX_det _) (show _ ∧ _ ∧ _ ∧ _ ∧ True from ⟨rfl, rfl, rfl, rfl, trivial⟩) (t111_39  l0 (some a2) (-((2 : Int64) * ((mL M a1 1) - (mL M a2 1)))) (-((mL M a1 2) - (mL M a2 2))) _ hM h)
theorem c111 {sl : Nat} {sx : Nat → Int32} {d : Nat} {l0 : Nat} {l1 : Option Nat} {l2 : Option Nat} {M : MM} {P : MM → Prop} (h : w111 l0 l1 l2 M P) : callX TBg sl sx (d + 2) 111 [vR (some l0), vR l1, vR l2] M (PV P) :=
  cX (d := d + 1) q111 (false, tb111) rfl rfl rfl (t111_E l0 l1 l2 M lenR h)
-- TwoLeash$Changes.collect(LTwoLeash$Cells;II)V
abbrev q109 : MQ7 := (4, 1, 9, 2, 0, 0, 0)
abbrev R109 (sl : Nat) (sx : Nat → Int32) (d : Nat) (M0 : MM) (P : MM → Prop) : Nat → LL → List VV → MM → Prop := RN 2 false (mS M0).length (mT M0) 0 0 sl sx (callX TBg sl sx (d + 2)) (rtW q109 M0 (PV P)) (as2 tb109)
def w109_98 (k38 : Nat → Option Nat → Int32 → MM → Prop) (k56 : Nat → Option Nat → Int32 → Int32 → Int32 → MM → Prop) : Nat → Nat → Option Nat → Int32 → Int32 → Int32 → Option Nat → Int32 → MM → (MM → Prop) → Prop
  | 0 => fun _ _ _ _ _ _ _ _ _ => False
  | n + 1 => fun l0 l1 l4 l5 l6 l7 l8 M P => (l5 ≤ l8 → (k56 l0 l1 l4 l5 (l6 + (1 : Int32)) M)) ∧ (¬ (l5 ≤ l8) → (∃ a1, l1 = some a1 ∧ (kd M a1 1 ∧ (∃ a2, mR M a1 0 = some a2 ∧ (inb M a2 15 ((l4 * (8 : Int32)) + l8) ∧ (kd M l0 2 ∧ w111 l0 l7 (mR M a2 ((l4 * (8 : Int32)) + l8).toNatClampNeg) M (fun M3 => w109_98 k38 k56 n l0 (some a1) l4 l5 l6 l7 (l8 + (1 : Int32)) M3 P)))))))
theorem t109_98 {sl : Nat} {sx : Nat → Int32} {d : Nat} {M0 : MM} {P : MM → Prop} {k38 : Nat → Option Nat → Int32 → MM → Prop} {k56 : Nat → Option Nat → Int32 → Int32 → Int32 → MM → Prop} (hk38 : ∀ (l0 : Nat) (l1 : Option Nat) (l4 : Int32) (M : MM), lenO M0 M → k38 l0 l1 l4 M → R109 sl sx d M0 P 38 [some (vR (some l0)), some (vR l1), none, none, some (vI l4), none, none, none, none] [] M) (hk56 : ∀ (l0 : Nat) (l1 : Option Nat) (l4 : Int32) (l5 : Int32) (l6 : Int32) (M : MM), lenO M0 M → k56 l0 l1 l4 l5 l6 M → R109 sl sx d M0 P 56 [some (vR (some l0)), some (vR l1), none, none, some (vI l4), some (vI l5), some (vI l6), none, none] [] M) (n : Nat) : ∀ (l0 : Nat) (l1 : Option Nat) (l4 : Int32) (l5 : Int32) (l6 : Int32) (l7 : Option Nat) (l8 : Int32) (M : MM) (_ : lenO M0 M) (_ : w109_98 k38 k56 n l0 l1 l4 l5 l6 l7 l8 M P), R109 sl sx d M0 P 98 [some (vR (some l0)), some (vR l1), none, none, some (vI l4), some (vI l5), some (vI l6), some (vR l7), some (vI l8)] [] M := by
  induction n with
  | zero => intro l0 l1 l4 l5 l6 l7 l8 M hM h; cases h
  | succ n ih =>
    intro l0 l1 l4 l5 l6 l7 l8 M hM h
    refine RN_k (callX_det _) 3 _ _ _ _ (show (l5 ≤ l8 → R109 sl sx d M0 P 130 [some (vR (some l0)), some (vR l1), none, none, some (vI l4), some (vI l5), some (vI l6), some (vR l7), some (vI l8)] [] M) ∧ (¬ (l5 ≤ l8) → R109 sl sx d M0 P 105 [some (vR (some l0)), some (vR l1), none, none, some (vI l4), some (vI l5), some (vI l6), some (vR l7), some (vI l8)] [] M) from ⟨fun hc => ?_, fun hc => ?_⟩)
    · replace h := h.1 hc
      refine RN_k (callX_det _) 2 _ _ _ _ (show R109 sl sx d M0 P 56 [some (vR (some l0)), some (vR l1), none, none, some (vI l4), some (vI l5), some (vI (l6 + (1 : Int32))), some (vR l7), some (vI l8)] [] M from ?_)
      exact RN_weak (K := [some (vR (some l0)), some (vR l1), none, none, some (vI l4), some (vI l5), some (vI (l6 + (1 : Int32))), none, none]) (callX_det _) (show _ ∧ _ ∧ _ ∧ _ ∧ _ ∧ True from ⟨rfl, rfl, rfl, rfl, rfl, trivial⟩) (hk56 l0 l1 l4 l5 (l6 + (1 : Int32)) _ hM h)
    · replace h := h.2 hc
      obtain ⟨a1, he, h⟩ := h
      refine RN_k (callX_det _) 3 _ _ _ _ (show R109 sl sx d M0 P 109 [some (vR (some l0)), some (vR l1), none, none, some (vI l4), some (vI l5), some (vI l6), some (vR l7), some (vI l8)] [vR l1, vR l7, vR (some l0)] M from ?_)
      subst he
      refine RN_k (callX_det _) 1 _ _ _ _ (show kd M a1 1 ∧ R109 sl sx d M0 P 112 [some (vR (some l0)), some (vR (some a1)), none, none, some (vI l4), some (vI l5), some (vI l6), some (vR l7), some (vI l8)] [vR (mR M a1 0), vR l7, vR (some l0)] M from ⟨h.1, ?_⟩)
      replace h := h.2
      obtain ⟨a2, he, h⟩ := h
      refine RN_k (callX_det _) 5 _ _ _ _ (show R109 sl sx d M0 P 120 [some (vR (some l0)), some (vR (some a1)), none, none, some (vI l4), some (vI l5), some (vI l6), some (vR l7), some (vI l8)] [vI ((l4 * (8 : Int32)) + l8), vR (mR M a1 0), vR l7, vR (some l0)] M from ?_)
      rw [he]
      refine RN_k (callX_det _) 1 _ _ _ _ (show inb M a2 15 ((l4 * (8 : Int32)) + l8) ∧ R109 sl sx d M0 P 121 [some (vR (some l0)), some (vR (some a1)), none, none, some (vI l4), some (vI l5), some (vI l6), some (vR l7), some (vI l8)] [vR (mR M a2 ((l4 * (8 : Int32)) + l8).toNatClampNeg), vR l7, vR (some l0)] M from ⟨h.1, ?_⟩)
      replace h := h.2
      refine RN_k (callX_det _) 1 _ _ _ _ (show kd M l0 2 ∧ callX TBg sl sx (d + 2) 111 [vR (some l0), vR l7, vR (mR M a2 ((l4 * (8 : Int32)) + l8).toNatClampNeg)] M (fun v M9 => R109 sl sx d M0 P 124 [some (vR (some l0)), some (vR (some a1)), none, none, some (vI l4), some (vI l5), some (vI l6), some (vR l7), some (vI l8)] (pushO v []) M9) from ⟨h.1, ?_⟩)
      replace h := h.2
      refine callX_mono (callX_len (d := (d + 2)) rfl rfl rfl (c111 (d := d) h)) ?_
      clear h
      rintro v9 M3 ⟨hl, rfl, h⟩
      replace hM := lenT hM hl
      show R109 sl sx d M0 P 124 [some (vR (some l0)), some (vR (some a1)), none, none, some (vI l4), some (vI l5), some (vI l6), some (vR l7), some (vI l8)] [] M3
      refine RN_k (callX_det _) 2 _ _ _ _ (show R109 sl sx d M0 P 98 [some (vR (some l0)), some (vR (some a1)), none, none, some (vI l4), some (vI l5), some (vI l6), some (vR l7), some (vI (l8 + (1 : Int32)))] [] M3 from ?_)
      exact RN_weak (K := [some (vR (some l0)), some (vR (some a1)), none, none, some (vI l4), some (vI l5), some (vI l6), some (vR l7), some (vI (l8 + (1 : Int32)))]) (callX_det _) (show _ ∧ _ ∧ _ ∧ _ ∧ _ ∧ _ ∧ _ ∧ True from ⟨rfl, rfl, rfl, rfl, rfl, rfl, rfl, trivial⟩) (ih l0 (some a1) l4 l5 l6 l7 (l8 + (1 : Int32)) _ hM h)
def w109_56 (k38 : Nat → Option Nat → Int32 → MM → Prop) : Nat → Nat → Option Nat → Int32 → Int32 → Int32 → MM → (MM → Prop) → Prop
  | 0 => fun _ _ _ _ _ _ _ => False
  | n + 1 => fun l0 l1 l4 l5 l6 M P => (l5 ≤ l6 → (k38 l0 l1 (l4 + (1 : Int32)) M)) ∧ (¬ (l5 ≤ l6) → (∃ a1, l1 = some a1 ∧ (kd M a1 1 ∧ (∃ a2, mR M a1 0 = some a2 ∧ (inb M a2 15 ((l4 * (8 : Int32)) + l6) ∧ (∃ a3, mR M a2 ((l4 * (8 : Int32)) + l6).toNatClampNeg = some a3 ∧ (kd M a3 7 ∧ w50 a3 M (fun r5 M4 => kd M4 a3 7 ∧ w53 a3 M4 (fun r7 M6 => kd M6 l0 2 ∧ w110 l0 r5 r7 M6 (fun M8 => ∃ n2, w109_98 k38 (fun z0 z1 z2 z3 z4 z5 => w109_56 k38 n z0 z1 z2 z3 z4 z5 P) n2 l0 (some a1) l4 l5 l6 (some a3) (l6 + (1 : Int32)) M8 P))))))))))
theorem t109_56 {sl : Nat} {sx : Nat → Int32} {d : Nat} {M0 : MM} {P : MM → Prop} {k38 : Nat → Option Nat → Int32 → MM → Prop} (hk38 : ∀ (l0 : Nat) (l1 : Option Nat) (l4 : Int32) (M : MM), lenO M0 M → k38 l0 l1 l4 M → R109 sl sx d M0 P 38 [some (vR (some l0)), some (vR l1), none, none, some (vI l4), none, none, none, none] [] M) (n : Nat) : ∀ (l0 : Nat) (l1 : Option Nat) (l4 : Int32) (l5 : Int32) (l6 : Int32) (M : MM) (_ : lenO M0 M) (_ : w109_56 k38 n l0 l1 l4 l5 l6 M P), R109 sl sx d M0 P 56 [some (vR (some l0)), some (vR l1), none, none, some (vI l4), some (vI l5), some (vI l6), none, none] [] M := by
  induction n with
  | zero => intro l0 l1 l4 l5 l6 M hM h; cases h
  | succ n ih =>
    intro l0 l1 l4 l5 l6 M hM h
    refine RN_k (callX_det _) 3 _ _ _ _ (show (l5 ≤ l6 → R109 sl sx d M0 P 136 [some (vR (some l0)), some (vR l1), none, none, some (vI l4), some (vI l5), some (vI l6), none, none] [] M) ∧ (¬ (l5 ≤ l6) → R109 sl sx d M0 P 63 [some (vR (some l0)), some (vR l1), none, none, some (vI l4), some (vI l5), some (vI l6), none, none] [] M) from ⟨fun hc => ?_, fun hc => ?_⟩)
    · replace h := h.1 hc
      refine RN_k (callX_det _) 2 _ _ _ _ (show R109 sl sx d M0 P 38 [some (vR (some l0)), some (vR l1), none, none, some (vI (l4 + (1 : Int32))), some (vI l5), some (vI l6), none, none] [] M from ?_)
      exact RN_weak (K := [some (vR (some l0)), some (vR l1), none, none, some (vI (l4 + (1 : Int32))), none, none, none, none]) (callX_det _) (show _ ∧ _ ∧ _ ∧ True from ⟨rfl, rfl, rfl, trivial⟩) (hk38 l0 l1 (l4 + (1 : Int32)) _ hM h)
    · replace h := h.2 hc
      obtain ⟨a1, he, h⟩ := h
      refine RN_k (callX_det _) 1 _ _ _ _ (show R109 sl sx d M0 P 64 [some (vR (some l0)), some (vR l1), none, none, some (vI l4), some (vI l5), some (vI l6), none, none] [vR l1] M from ?_)
      subst he
      refine RN_k (callX_det _) 1 _ _ _ _ (show kd M a1 1 ∧ R109 sl sx d M0 P 67 [some (vR (some l0)), some (vR (some a1)), none, none, some (vI l4), some (vI l5), some (vI l6), none, none] [vR (mR M a1 0)] M from ⟨h.1, ?_⟩)
      replace h := h.2
      obtain ⟨a2, he, h⟩ := h
      refine RN_k (callX_det _) 5 _ _ _ _ (show R109 sl sx d M0 P 75 [some (vR (some l0)), some (vR (some a1)), none, none, some (vI l4), some (vI l5), some (vI l6), none, none] [vI ((l4 * (8 : Int32)) + l6), vR (mR M a1 0)] M from ?_)
      rw [he]
      refine RN_k (callX_det _) 1 _ _ _ _ (show inb M a2 15 ((l4 * (8 : Int32)) + l6) ∧ R109 sl sx d M0 P 76 [some (vR (some l0)), some (vR (some a1)), none, none, some (vI l4), some (vI l5), some (vI l6), none, none] [vR (mR M a2 ((l4 * (8 : Int32)) + l6).toNatClampNeg)] M from ⟨h.1, ?_⟩)
      replace h := h.2
      obtain ⟨a3, he, h⟩ := h
      refine RN_k (callX_det _) 3 _ _ _ _ (show R109 sl sx d M0 P 81 [some (vR (some l0)), some (vR (some a1)), none, none, some (vI l4), some (vI l5), some (vI l6), some (vR (mR M a2 ((l4 * (8 : Int32)) + l6).toNatClampNeg)), none] [vR (mR M a2 ((l4 * (8 : Int32)) + l6).toNatClampNeg), vR (some l0)] M from ?_)
      rw [he]
      refine RN_k (callX_det _) 1 _ _ _ _ (show kd M a3 7 ∧ callX TBg sl sx (d + 2) 50 [vR (some a3)] M (fun v M9 => R109 sl sx d M0 P 84 [some (vR (some l0)), some (vR (some a1)), none, none, some (vI l4), some (vI l5), some (vI l6), some (vR (some a3)), none] (pushO v [vR (some l0)]) M9) from ⟨h.1, ?_⟩)
      replace h := h.2
      refine callX_mono (callX_len (d := (d + 2)) rfl rfl rfl (c50 (d := d) h)) ?_
      clear h
      rintro v9 M4 ⟨hl, r5, rfl, h⟩
      replace hM := lenT hM hl
      show R109 sl sx d M0 P 84 [some (vR (some l0)), some (vR (some a1)), none, none, some (vI l4), some (vI l5), some (vI l6), some (vR (some a3)), none] [vL r5, vR (some l0)] M4
      refine RN_k (callX_det _) 2 _ _ _ _ (show kd M4 a3 7 ∧ callX TBg sl sx (d + 2) 53 [vR (some a3)] M4 (fun v M9 => R109 sl sx d M0 P 89 [some (vR (some l0)), some (vR (some a1)), none, none, some (vI l4), some (vI l5), some (vI l6), some (vR (some a3)), none] (pushO v [vL r5, vR (some l0)]) M9) from ⟨h.1, ?_⟩)
      replace h := h.2
      refine callX_mono (callX_len (d := (d + 2)) rfl rfl rfl (c53 (d := d) h)) ?_
      clear h
      rintro v9 M6 ⟨hl, r7, rfl, h⟩
      replace hM := lenT hM hl
      show R109 sl sx d M0 P 89 [some (vR (some l0)), some (vR (some a1)), none, none, some (vI l4), some (vI l5), some (vI l6), some (vR (some a3)), none] [vL r7, vL r5, vR (some l0)] M6
      refine RN_k (callX_det _) 1 _ _ _ _ (show kd M6 l0 2 ∧ callX TBg sl sx (d + 2) 110 [vR (some l0), vL r5, vL r7] M6 (fun v M9 => R109 sl sx d M0 P 92 [some (vR (some l0)), some (vR (some a1)), none, none, some (vI l4), some (vI l5), some (vI l6), some (vR (some a3)), none] (pushO v []) M9) from ⟨h.1, ?_⟩)
      replace h := h.2
      refine callX_mono (callX_len (d := (d + 2)) rfl rfl rfl (c110 (d := d + 1) h)) ?_
      clear h
      rintro v9 M8 ⟨hl, rfl, h⟩
      replace hM := lenT hM hl
      show R109 sl sx d M0 P 92 [some (vR (some l0)), some (vR (some a1)), none, none, some (vI l4), some (vI l5), some (vI l6), some (vR (some a3)), none] [] M8
      refine RN_k (callX_det _) 4 _ _ _ _ (show R109 sl sx d M0 P 98 [some (vR (some l0)), some (vR (some a1)), none, none, some (vI l4), some (vI l5), some (vI l6), some (vR (some a3)), some (vI (l6 + (1 : Int32)))] [] M8 from ?_)
      obtain ⟨n2, h⟩ := h
      exact RN_weak (K := [some (vR (some l0)), some (vR (some a1)), none, none, some (vI l4), some (vI l5), some (vI l6), some (vR (some a3)), some (vI (l6 + (1 : Int32)))]) (callX_det _) (show _ ∧ _ ∧ _ ∧ _ ∧ _ ∧ _ ∧ _ ∧ True from ⟨rfl, rfl, rfl, rfl, rfl, rfl, rfl, trivial⟩) (t109_98 hk38 ih n2 l0 (some a1) l4 l5 l6 (some a3) (l6 + (1 : Int32)) _ hM h)
def w109_38 : Nat → Nat → Option Nat → Int32 → MM → (MM → Prop) → Prop
  | 0 => fun _ _ _ _ _ => False
  | n + 1 => fun l0 l1 l4 M P => ((14 : Int32) ≤ l4 → (P M)) ∧ (¬ ((14 : Int32) ≤ l4) → (∃ a1, l1 = some a1 ∧ (kd M a1 1 ∧ w79 a1 l4 M (fun r3 M2 => ∃ n2, w109_56 (fun z0 z1 z2 z3 => w109_38  n z0 z1 z2 z3 P) n2 l0 (some a1) l4 r3 (0 : Int32) M2 P))))
theorem t109_38 {sl : Nat} {sx : Nat → Int32} {d : Nat} {M0 : MM} {P : MM → Prop} (n : Nat) : ∀ (l0 : Nat) (l1 : Option Nat) (l4 : Int32) (M : MM) (_ : lenO M0 M) (_ : w109_38  n l0 l1 l4 M P), R109 sl sx d M0 P 38 [some (vR (some l0)), some (vR l1), none, none, some (vI l4), none, none, none, none] [] M := by
  induction n with
  | zero => intro l0 l1 l4 M hM h; cases h
  | succ n ih =>
    intro l0 l1 l4 M hM h
    refine RN_k (callX_det _) 3 _ _ _ _ (show ((14 : Int32) ≤ l4 → R109 sl sx d M0 P 142 [some (vR (some l0)), some (vR l1), none, none, some (vI l4), none, none, none, none] [] M) ∧ (¬ ((14 : Int32) ≤ l4) → R109 sl sx d M0 P 45 [some (vR (some l0)), some (vR l1), none, none, some (vI l4), none, none, none, none] [] M) from ⟨fun hc => ?_, fun hc => ?_⟩)
    · replace h := h.1 hc
      exact RN_k (callX_det _) 1 _ _ _ _ (show rtW q109 M0 (PV P) none M from ⟨rfl, hM.1, hM.2, rfl, h⟩)
    · replace h := h.2 hc
      obtain ⟨a1, he, h⟩ := h
      refine RN_k (callX_det _) 2 _ _ _ _ (show R109 sl sx d M0 P 48 [some (vR (some l0)), some (vR l1), none, none, some (vI l4), none, none, none, none] [vI l4, vR l1] M from ?_)
      subst he
      refine RN_k (callX_det _) 1 _ _ _ _ (show kd M a1 1 ∧ callX TBg sl sx (d + 2) 79 [vR (some a1), vI l4] M (fun v M9 => R109 sl sx d M0 P 51 [some (vR (some l0)), some (vR (some a1)), none, none, some (vI l4), none, none, none, none] (pushO v []) M9) from ⟨h.1, ?_⟩)
      replace h := h.2
      refine callX_mono (callX_len (d := (d + 2)) rfl rfl rfl (c79 (d := d + 1) h)) ?_
      clear h
      rintro v9 M2 ⟨hl, r3, rfl, h⟩
      replace hM := lenT hM hl
      show R109 sl sx d M0 P 51 [some (vR (some l0)), some (vR (some a1)), none, none, some (vI l4), none, none, none, none] [vI r3] M2
      refine RN_k (callX_det _) 3 _ _ _ _ (show R109 sl sx d M0 P 56 [some (vR (some l0)), some (vR (some a1)), none, none, some (vI l4), some (vI r3), some (vI (0 : Int32)), none, none] [] M2 from ?_)
      obtain ⟨n2, h⟩ := h
      exact RN_weak (K := [some (vR (some l0)), some (vR (some a1)), none, none, some (vI l4), some (vI r3), some (vI (0 : Int32)), none, none]) (callX_det _) (show _ ∧ _ ∧ _ ∧ _ ∧ _ ∧ True from ⟨rfl, rfl, rfl, rfl, rfl, trivial⟩) (t109_56 ih n2 l0 (some a1) l4 r3 (0 : Int32) _ hM h)
def w109 (l0 : Nat) (l1 : Option Nat) (l2 : Int32) (l3 : Int32) (M : MM) (P : MM → Prop) : Prop := kd M l0 2 ∧ (kd (sI M l0 2 (0 : Int32)) l0 2 ∧ (kd (sI (sI M l0 2 (0 : Int32)) l0 3 l2) l0 2 ∧ (∃ a1, l1 = some a1 ∧ (kd (sI (sI (sI M l0 2 (0 : Int32)) l0 3 l2) l0 4 l3) a1 1 ∧ w107 a1 (sI (sI (sI M l0 2 (0 : Int32)) l0 3 l2) l0 4 l3) (fun r3 M2 => kd M2 l0 2 ∧ w110 l0 r3.toInt64 (1 : Int64) M2 (fun M4 => kd M4 a1 1 ∧ w108 a1 M4 (fun r6 M5 => kd M5 l0 2 ∧ w110 l0 r6.toInt64 (1 : Int64) M5 (fun M7 => ∃ n2, w109_38  n2 l0 (some a1) (0 : Int32) M7 P))))))))
theorem t109_E {sl : Nat} {sx : Nat → Int32} {d : Nat} {M0 : MM} {P : MM → Prop} (l0 : Nat) (l1 : Option Nat) (l2 : Int32) (l3 : Int32) (M : MM) (hM : lenO M0 M) (h : w109  l0 l1 l2 l3 M P) : R109 sl sx d M0 P 0 [some (vR (some l0)), some (vR l1), some (vI l2), some (vI l3), none, none, none, none, none] [] M := by
  refine RN_k (callX_det _) 3 _ _ _ _ (show kd M l0 2 ∧ R109 sl sx d M0 P 5 [some (vR (some l0)), some (vR l1), some (vI l2), some (vI l3), none, none, none, none, none] [] (sI M l0 2 (0 : Int32)) from ⟨h.1, ?_⟩)
  replace h := h.2
  refine RN_k (callX_det _) 3 _ _ _ _ (show kd (sI M l0 2 (0 : Int32)) l0 2 ∧ R109 sl sx d M0 P 10 [some (vR (some l0)), some (vR l1), some (vI l2), some (vI l3), none, none, none, none, none] [] (sI (sI M l0 2 (0 : Int32)) l0 3 l2) from ⟨h.1, ?_⟩)
  replace h := h.2
  refine RN_k (callX_det _) 3 _ _ _ _ (show kd (sI (sI M l0 2 (0 : Int32)) l0 3 l2) l0 2 ∧ R109 sl sx d M0 P 15 [some (vR (some l0)), some (vR l1), some (vI l2), some (vI l3), none, none, none, none, none] [] (sI (sI (sI M l0 2 (0 : Int32)) l0 3 l2) l0 4 l3) from ⟨h.1, ?_⟩)
  replace h := h.2
  obtain ⟨a1, he, h⟩ := h
  refine RN_k (callX_det _) 2 _ _ _ _ (show R109 sl sx d M0 P 17 [some (vR (some l0)), some (vR l1), some (vI l2), some (vI l3), none, none, none, none, none] [vR l1, vR (some l0)] (sI (sI (sI M l0 2 (0 : Int32)) l0 3 l2) l0 4 l3) from ?_)
  subst he
  refine RN_k (callX_det _) 1 _ _ _ _ (show kd (sI (sI (sI M l0 2 (0 : Int32)) l0 3 l2) l0 4 l3) a1 1 ∧ callX TBg sl sx (d + 2) 107 [vR (some a1)] (sI (sI (sI M l0 2 (0 : Int32)) l0 3 l2) l0 4 l3) (fun v M9 => R109 sl sx d M0 P 20 [some (vR (some l0)), some (vR (some a1)), some (vI l2), some (vI l3), none, none, none, none, none] (pushO v [vR (some l0)]) M9) from ⟨h.1, ?_⟩)
  replace h := h.2
  refine callX_mono (callX_len (d := (d + 2)) rfl rfl rfl (c107 (d := d) h)) ?_
  clear h
  rintro v9 M2 ⟨hl, r3, rfl, h⟩
  replace hM := lenT hM hl
  show R109 sl sx d M0 P 20 [some (vR (some l0)), some (vR (some a1)), some (vI l2), some (vI l3), none, none, none, none, none] [vI r3, vR (some l0)] M2
  refine RN_k (callX_det _) 3 _ _ _ _ (show kd M2 l0 2 ∧ callX TBg sl sx (d + 2) 110 [vR (some l0), vL r3.toInt64, vL (1 : Int64)] M2 (fun v M9 => R109 sl sx d M0 P 25 [some (vR (some l0)), some (vR (some a1)), some (vI l2), some (vI l3), none, none, none, none, none] (pushO v []) M9) from ⟨h.1, ?_⟩)
  replace h := h.2
  refine callX_mono (callX_len (d := (d + 2)) rfl rfl rfl (c110 (d := d + 1) h)) ?_
  clear h
  rintro v9 M4 ⟨hl, rfl, h⟩
  replace hM := lenT hM hl
  show R109 sl sx d M0 P 25 [some (vR (some l0)), some (vR (some a1)), some (vI l2), some (vI l3), none, none, none, none, none] [] M4
  refine RN_k (callX_det _) 3 _ _ _ _ (show kd M4 a1 1 ∧ callX TBg sl sx (d + 2) 108 [vR (some a1)] M4 (fun v M9 => R109 sl sx d M0 P 30 [some (vR (some l0)), some (vR (some a1)), some (vI l2), some (vI l3), none, none, none, none, none] (pushO v [vR (some l0)]) M9) from ⟨h.1, ?_⟩)
  replace h := h.2
  refine callX_mono (callX_len (d := (d + 2)) rfl rfl rfl (c108 (d := d) h)) ?_
  clear h
  rintro v9 M5 ⟨hl, r6, rfl, h⟩
  replace hM := lenT hM hl
  show R109 sl sx d M0 P 30 [some (vR (some l0)), some (vR (some a1)), some (vI l2), some (vI l3), none, none, none, none, none] [vI r6, vR (some l0)] M5
  refine RN_k (callX_det _) 3 _ _ _ _ (show kd M5 l0 2 ∧ callX TBg sl sx (d + 2) 110 [vR (some l0), vL r6.toInt64, vL (1 : Int64)] M5 (fun v M9 => R109 sl sx d M0 P 35 [some (vR (some l0)), some (vR (some a1)), some (vI l2), some (vI l3), none, none, none, none, none] (pushO v []) M9) from ⟨h.1, ?_⟩)
  replace h := h.2
  refine callX_mono (callX_len (d := (d + 2)) rfl rfl rfl (c110 (d := d + 1) h)) ?_
  clear h
  rintro v9 M7 ⟨hl, rfl, h⟩
  replace hM := lenT hM hl
  show R109 sl sx d M0 P 35 [some (vR (some l0)), some (vR (some a1)), some (vI l2), some (vI l3), none, none, none, none, none] [] M7
  refine RN_k (callX_det _) 2 _ _ _ _ (show R109 sl sx d M0 P 38 [some (vR (some l0)), some (vR (some a1)), some (vI l2), some (vI l3), some (vI (0 : Int32)), none, none, none, none] [] M7 from ?_)
  obtain ⟨n2, h⟩ := h
  exact RN_weak (K := [some (vR (some l0)), some (vR (some a1)), none, none, some (vI (0 : Int32)), none, none, none, none]) (callX_det _) (show _ ∧ _ ∧ _ ∧ True from ⟨rfl, rfl, rfl, trivial⟩) (t109_38  n2 l0 (some a1) (0 : Int32) _ hM h)
theorem c109 {sl : Nat} {sx : Nat → Int32} {d : Nat} {l0 : Nat} {l1 : Option Nat} {l2 : Int32} {l3 : Int32} {M : MM} {P : MM → Prop} (h : w109 l0 l1 l2 l3 M P) : callX TBg sl sx (d + 3) 109 [vR (some l0), vR l1, vI l2, vI l3] M (PV P) :=
  cX (d := d + 2) q109 (false, tb109) rfl rfl rfl (t109_E l0 l1 l2 l3 M lenR h)
-- TwoLeash$Matcher.findShortest(LTwoLeash$Track;LTwoLeash$Track;ILTwoLeash$Fraction;)V
abbrev q106 : MQ7 := (5, 1, 9, 5, 0, 0, 0)
abbrev R106 (sl : Nat) (sx : Nat → Int32) (d : Nat) (M0 : MM) (P : MM → Prop) : Nat → LL → List VV → MM → Prop := RN 5 false (mS M0).length (mT M0) 0 0 sl sx (callX TBg sl sx (d + 4)) (rtW q106 M0 (PV P)) (as2 tb106)
def w106_170 (l0 : Nat) (l4 : Option Nat) (l5 : Int32) (M : MM) (P : MM → Prop) : Prop := kd M l0 5 ∧ (∃ a1, mR M l0 2 = some a1 ∧ (kd M a1 2 ∧ (∃ a2, mR M a1 0 = some a2 ∧ (inb M a2 12 l5 ∧ (kd M l0 5 ∧ (∃ a3, mR M l0 2 = some a3 ∧ (kd M a3 2 ∧ (∃ a4, mR M a3 1 = some a4 ∧ (inb M a4 12 l5 ∧ (∃ a5, l4 = some a5 ∧ (kd M a5 3 ∧ w54 a5 (mL M a2 l5.toNatClampNeg) (mL M a4 l5.toNatClampNeg) M (fun M6 => P M6))))))))))))
theorem t106_170 {sl : Nat} {sx : Nat → Int32} {d : Nat} {M0 : MM} {P : MM → Prop} (l0 : Nat) (l4 : Option Nat) (l5 : Int32) (M : MM) (hM : lenO M0 M) (h : w106_170  l0 l4 l5 M P) : R106 sl sx d M0 P 170 [some (vR (some l0)), none, none, none, some (vR l4), some (vI l5), none, none, none] [] M := by
  refine RN_k (callX_det _) 3 _ _ _ _ (show kd M l0 5 ∧ R106 sl sx d M0 P 176 [some (vR (some l0)), none, none, none, some (vR l4), some (vI l5), none, none, none] [vR (mR M l0 2), vR l4] M from ⟨h.1, ?_⟩)
  replace h := h.2
  obtain ⟨a1, he, h⟩ := h
  rw [he]
  refine RN_k (callX_det _) 1 _ _ _ _ (show kd M a1 2 ∧ R106 sl sx d M0 P 179 [some (vR (some l0)), none, none, none, some (vR l4), some (vI l5), none, none, none] [vR (mR M a1 0), vR l4] M from ⟨h.1, ?_⟩)
  replace h := h.2
  obtain ⟨a2, he, h⟩ := h
  refine RN_k (callX_det _) 1 _ _ _ _ (show R106 sl sx d M0 P 181 [some (vR (some l0)), none, none, none, some (vR l4), some (vI l5), none, none, none] [vI l5, vR (mR M a1 0), vR l4] M from ?_)
  rw [he]
  refine RN_k (callX_det _) 1 _ _ _ _ (show inb M a2 12 l5 ∧ R106 sl sx d M0 P 182 [some (vR (some l0)), none, none, none, some (vR l4), some (vI l5), none, none, none] [vL (mL M a2 l5.toNatClampNeg), vR l4] M from ⟨h.1, ?_⟩)
  replace h := h.2
  refine RN_k (callX_det _) 2 _ _ _ _ (show kd M l0 5 ∧ R106 sl sx d M0 P 186 [some (vR (some l0)), none, none, none, some (vR l4), some (vI l5), none, none, none] [vR (mR M l0 2), vL (mL M a2 l5.toNatClampNeg), vR l4] M from ⟨h.1, ?_⟩)
  replace h := h.2
  obtain ⟨a3, he, h⟩ := h
  rw [he]
  refine RN_k (callX_det _) 1 _ _ _ _ (show kd M a3 2 ∧ R106 sl sx d M0 P 189 [some (vR (some l0)), none, none, none, some (vR l4), some (vI l5), none, none, none] [vR (mR M a3 1), vL (mL M a2 l5.toNatClampNeg), vR l4] M from ⟨h.1, ?_⟩)
  replace h := h.2
  obtain ⟨a4, he, h⟩ := h
  refine RN_k (callX_det _) 1 _ _ _ _ (show R106 sl sx d M0 P 191 [some (vR (some l0)), none, none, none, some (vR l4), some (vI l5), none, none, none] [vI l5, vR (mR M a3 1), vL (mL M a2 l5.toNatClampNeg), vR l4] M from ?_)
  rw [he]
  refine RN_k (callX_det _) 1 _ _ _ _ (show inb M a4 12 l5 ∧ R106 sl sx d M0 P 192 [some (vR (some l0)), none, none, none, some (vR l4), some (vI l5), none, none, none] [vL (mL M a4 l5.toNatClampNeg), vL (mL M a2 l5.toNatClampNeg), vR l4] M from ⟨h.1, ?_⟩)
  replace h := h.2
  obtain ⟨a5, he, h⟩ := h
  subst he
  refine RN_k (callX_det _) 1 _ _ _ _ (show kd M a5 3 ∧ callX TBg sl sx (d + 4) 54 [vR (some a5), vL (mL M a2 l5.toNatClampNeg), vL (mL M a4 l5.toNatClampNeg)] M (fun v M9 => R106 sl sx d M0 P 195 [some (vR (some l0)), none, none, none, some (vR (some a5)), some (vI l5), none, none, none] (pushO v []) M9) from ⟨h.1, ?_⟩)
  replace h := h.2
  refine callX_mono (callX_len (d := (d + 4)) rfl rfl rfl (c54 (d := d + 3) h)) ?_
  clear h
  rintro v9 M6 ⟨hl, rfl, h⟩
  replace hM := lenT hM hl
  show R106 sl sx d M0 P 195 [some (vR (some l0)), none, none, none, some (vR (some a5)), some (vI l5), none, none, none] [] M6
  exact RN_k (callX_det _) 1 _ _ _ _ (show rtW q106 M0 (PV P) none M6 from ⟨rfl, hM.1, hM.2, rfl, h⟩)
def w106_164 (k90 : Nat → Int32 → Option Nat → Int32 → Int32 → Int32 → MM → Prop) (l0 : Nat) (l3 : Int32) (l4 : Option Nat) (l5 : Int32) (l6 : Int32) (l7 : Int32) (M : MM) (P : MM → Prop) : Prop := k90 l0 l3 l4 l5 l6 (l7 + (1 : Int32)) M
theorem t106_164 {sl : Nat} {sx : Nat → Int32} {d : Nat} {M0 : MM} {P : MM → Prop} {k90 : Nat → Int32 → Option Nat → Int32 → Int32 → Int32 → MM → Prop} (hk90 : ∀ (l0 : Nat) (l3 : Int32) (l4 : Option Nat) (l5 : Int32) (l6 : Int32) (l7 : Int32) (M : MM), lenO M0 M → k90 l0 l3 l4 l5 l6 l7 M → R106 sl sx d M0 P 90 [some (vR (some l0)), none, none, some (vI l3), some (vR l4), some (vI l5), some (vI l6), some (vI l7), none] [] M) (l0 : Nat) (l3 : Int32) (l4 : Option Nat) (l5 : Int32) (l6 : Int32) (l7 : Int32) (M : MM) (hM : lenO M0 M) (h : w106_164 k90 l0 l3 l4 l5 l6 l7 M P) : R106 sl sx d M0 P 164 [some (vR (some l0)), none, none, some (vI l3), some (vR l4), some (vI l5), some (vI l6), some (vI l7), none] [] M := by
  refine RN_k (callX_det _) 2 _ _ _ _ (show R106 sl sx d M0 P 90 [some (vR (some l0)), none, none, some (vI l3), some (vR l4), some (vI l5), some (vI l6), some (vI (l7 + (1 : Int32))), none] [] M from ?_)
  exact RN_weak (K := [some (vR (some l0)), none, none, some (vI l3), some (vR l4), some (vI l5), some (vI l6), some (vI (l7 + (1 : Int32))), none]) (callX_det _) (show _ ∧ _ ∧ _ ∧ _ ∧ _ ∧ _ ∧ True from ⟨rfl, rfl, rfl, rfl, rfl, rfl, trivial⟩) (hk90 l0 l3 l4 l5 l6 (l7 + (1 : Int32)) _ hM h)
def w106_90 : Nat → Nat → Int32 → Option Nat → Int32 → Int32 → Int32 → MM → (MM → Prop) → Prop
  | 0 => fun _ _ _ _ _ _ _ _ => False
  | n + 1 => fun l0 l3 l4 l5 l6 l7 M P => ((10 : Int32) ≤ l7 → (w106_170  l0 l4 l5 M P)) ∧ (¬ ((10 : Int32) ≤ l7) → ((l6 ≤ l5 → (w106_170  l0 l4 l5 M P)) ∧ (¬ (l6 ≤ l5) → (¬ (2 : Int32) = 0 ∧ (kd M l0 5 ∧ (kd M l0 5 ∧ (∃ a1, mR M l0 2 = some a1 ∧ (kd M a1 2 ∧ (∃ a2, mR M a1 0 = some a2 ∧ (inb M a2 12 ((l5 + l6) / (2 : Int32)) ∧ (kd M l0 5 ∧ (∃ a3, mR M l0 2 = some a3 ∧ (kd M a3 2 ∧ (∃ a4, mR M a3 1 = some a4 ∧ (inb M a4 12 ((l5 + l6) / (2 : Int32)) ∧ (∃ a5, mR M l0 0 = some a5 ∧ (kd M a5 1 ∧ w80 a5 (mL M a2 ((l5 + l6) / (2 : Int32)).toNatClampNeg) (mL M a4 ((l5 + l6) / (2 : Int32)).toNatClampNeg) M (fun M6 => kd M6 l0 5 ∧ (∃ a7, mR M6 l0 0 = some a7 ∧ (kd M6 a7 1 ∧ w100 a7 l3 M6 (fun r9 M8 => (r9 = 0 → (w106_164 (fun z0 z1 z2 z3 z4 z5 z6 => w106_90  n z0 z1 z2 z3 z4 z5 z6 P) l0 l3 l4 (((l5 + l6) / (2 : Int32)) + (1 : Int32)) l6 l7 M8 P)) ∧ (¬ (r9 = 0) → (w106_164 (fun z0 z1 z2 z3 z4 z5 z6 => w106_90  n z0 z1 z2 z3 z4 z5 z6 P) l0 l3 l4 l5 ((l5 + l6) / (2 : Int32)) l7 M8 P)))))))))))))))))))))))
theorem t106_90 {sl : Nat} {sx : Nat → Int32} {d : Nat} {M0 : MM} {P : MM → Prop} (n : Nat) : ∀ (l0 : Nat) (l3 : Int32) (l4 : Option Nat) (l5 : Int32) (l6 : Int32) (l7 : Int32) (M : MM) (_ : lenO M0 M) (_ : w106_90  n l0 l3 l4 l5 l6 l7 M P), R106 sl sx d M0 P 90 [some (vR (some l0)), none, none, some (vI l3), some (vR l4), some (vI l5), some (vI l6), some (vI l7), none] [] M := by
  induction n with
  | zero => intro l0 l3 l4 l5 l6 l7 M hM h; cases h
  | succ n ih =>
    intro l0 l3 l4 l5 l6 l7 M hM h
    refine RN_k (callX_det _) 3 _ _ _ _ (show ((10 : Int32) ≤ l7 → R106 sl sx d M0 P 170 [some (vR (some l0)), none, none, some (vI l3), some (vR l4), some (vI l5), some (vI l6), some (vI l7), none] [] M) ∧ (¬ ((10 : Int32) ≤ l7) → R106 sl sx d M0 P 97 [some (vR (some l0)), none, none, some (vI l3), some (vR l4), some (vI l5), some (vI l6), some (vI l7), none] [] M) from ⟨fun hc => ?_, fun hc => ?_⟩)
    · replace h := h.1 hc
      exact RN_weak (K := [some (vR (some l0)), none, none, none, some (vR l4), some (vI l5), none, none, none]) (callX_det _) (show _ ∧ _ ∧ _ ∧ True from ⟨rfl, rfl, rfl, trivial⟩) (t106_170  l0 l4 l5 _ hM h)
    · replace h := h.2 hc
      refine RN_k (callX_det _) 3 _ _ _ _ (show (l6 ≤ l5 → R106 sl sx d M0 P 170 [some (vR (some l0)), none, none, some (vI l3), some (vR l4), some (vI l5), some (vI l6), some (vI l7), none] [] M) ∧ (¬ (l6 ≤ l5) → R106 sl sx d M0 P 104 [some (vR (some l0)), none, none, some (vI l3), some (vR l4), some (vI l5), some (vI l6), some (vI l7), none] [] M) from ⟨fun hc => ?_, fun hc => ?_⟩)
      · replace h := h.1 hc
        exact RN_weak (K := [some (vR (some l0)), none, none, none, some (vR l4), some (vI l5), none, none, none]) (callX_det _) (show _ ∧ _ ∧ _ ∧ True from ⟨rfl, rfl, rfl, trivial⟩) (t106_170  l0 l4 l5 _ hM h)
      · replace h := h.2 hc
        refine RN_k (callX_det _) 5 _ _ _ _ (show ¬ (2 : Int32) = 0 ∧ R106 sl sx d M0 P 111 [some (vR (some l0)), none, none, some (vI l3), some (vR l4), some (vI l5), some (vI l6), some (vI l7), none] [vI ((l5 + l6) / (2 : Int32))] M from ⟨h.1, ?_⟩)
        replace h := h.2
        refine RN_k (callX_det _) 3 _ _ _ _ (show kd M l0 5 ∧ R106 sl sx d M0 P 117 [some (vR (some l0)), none, none, some (vI l3), some (vR l4), some (vI l5), some (vI l6), some (vI l7), some (vI ((l5 + l6) / (2 : Int32)))] [vR (mR M l0 0)] M from ⟨h.1, ?_⟩)
        replace h := h.2
        refine RN_k (callX_det _) 2 _ _ _ _ (show kd M l0 5 ∧ R106 sl sx d M0 P 121 [some (vR (some l0)), none, none, some (vI l3), some (vR l4), some (vI l5), some (vI l6), some (vI l7), some (vI ((l5 + l6) / (2 : Int32)))] [vR (mR M l0 2), vR (mR M l0 0)] M from ⟨h.1, ?_⟩)
        replace h := h.2
        obtain ⟨a1, he, h⟩ := h
        rw [he]
        refine RN_k (callX_det _) 1 _ _ _ _ (show kd M a1 2 ∧ R106 sl sx d M0 P 124 [some (vR (some l0)), none, none, some (vI l3), some (vR l4), some (vI l5), some (vI l6), some (vI l7), some (vI ((l5 + l6) / (2 : Int32)))] [vR (mR M a1 0), vR (mR M l0 0)] M from ⟨h.1, ?_⟩)
        replace h := h.2
        obtain ⟨a2, he, h⟩ := h
        refine RN_k (callX_det _) 1 _ _ _ _ (show R106 sl sx d M0 P 126 [some (vR (some l0)), none, none, some (vI l3), some (vR l4), some (vI l5), some (vI l6), some (vI l7), some (vI ((l5 + l6) / (2 : Int32)))] [vI ((l5 + l6) / (2 : Int32)), vR (mR M a1 0), vR (mR M l0 0)] M from ?_)
        rw [he]
        refine RN_k (callX_det _) 1 _ _ _ _ (show inb M a2 12 ((l5 + l6) / (2 : Int32)) ∧ R106 sl sx d M0 P 127 [some (vR (some l0)), none, none, some (vI l3), some (vR l4), some (vI l5), some (vI l6), some (vI l7), some (vI ((l5 + l6) / (2 : Int32)))] [vL (mL M a2 ((l5 + l6) / (2 : Int32)).toNatClampNeg), vR (mR M l0 0)] M from ⟨h.1, ?_⟩)
        replace h := h.2
        refine RN_k (callX_det _) 2 _ _ _ _ (show kd M l0 5 ∧ R106 sl sx d M0 P 131 [some (vR (some l0)), none, none, some (vI l3), some (vR l4), some (vI l5), some (vI l6), some (vI l7), some (vI ((l5 + l6) / (2 : Int32)))] [vR (mR M l0 2), vL (mL M a2 ((l5 + l6) / (2 : Int32)).toNatClampNeg), vR (mR M l0 0)] M from ⟨h.1, ?_⟩)
        replace h := h.2
        obtain ⟨a3, he, h⟩ := h
        rw [he]
        refine RN_k (callX_det _) 1 _ _ _ _ (show kd M a3 2 ∧ R106 sl sx d M0 P 134 [some (vR (some l0)), none, none, some (vI l3), some (vR l4), some (vI l5), some (vI l6), some (vI l7), some (vI ((l5 + l6) / (2 : Int32)))] [vR (mR M a3 1), vL (mL M a2 ((l5 + l6) / (2 : Int32)).toNatClampNeg), vR (mR M l0 0)] M from ⟨h.1, ?_⟩)
        replace h := h.2
        obtain ⟨a4, he, h⟩ := h
        refine RN_k (callX_det _) 1 _ _ _ _ (show R106 sl sx d M0 P 136 [some (vR (some l0)), none, none, some (vI l3), some (vR l4), some (vI l5), some (vI l6), some (vI l7), some (vI ((l5 + l6) / (2 : Int32)))] [vI ((l5 + l6) / (2 : Int32)), vR (mR M a3 1), vL (mL M a2 ((l5 + l6) / (2 : Int32)).toNatClampNeg), vR (mR M l0 0)] M from ?_)
        rw [he]
        refine RN_k (callX_det _) 1 _ _ _ _ (show inb M a4 12 ((l5 + l6) / (2 : Int32)) ∧ R106 sl sx d M0 P 137 [some (vR (some l0)), none, none, some (vI l3), some (vR l4), some (vI l5), some (vI l6), some (vI l7), some (vI ((l5 + l6) / (2 : Int32)))] [vL (mL M a4 ((l5 + l6) / (2 : Int32)).toNatClampNeg), vL (mL M a2 ((l5 + l6) / (2 : Int32)).toNatClampNeg), vR (mR M l0 0)] M from ⟨h.1, ?_⟩)
        replace h := h.2
        obtain ⟨a5, he, h⟩ := h
        rw [he]
        refine RN_k (callX_det _) 1 _ _ _ _ (show kd M a5 1 ∧ callX TBg sl sx (d + 4) 80 [vR (some a5), vL (mL M a2 ((l5 + l6) / (2 : Int32)).toNatClampNeg), vL (mL M a4 ((l5 + l6) / (2 : Int32)).toNatClampNeg)] M (fun v M9 => R106 sl sx d M0 P 140 [some (vR (some l0)), none, none, some (vI l3), some (vR l4), some (vI l5), some (vI l6), some (vI l7), some (vI ((l5 + l6) / (2 : Int32)))] (pushO v []) M9) from ⟨h.1, ?_⟩)
        replace h := h.2
        refine callX_mono (callX_len (d := (d + 4)) rfl rfl rfl (c80 (d := d) h)) ?_
        clear h
        rintro v9 M6 ⟨hl, rfl, h⟩
        replace hM := lenT hM hl
        show R106 sl sx d M0 P 140 [some (vR (some l0)), none, none, some (vI l3), some (vR l4), some (vI l5), some (vI l6), some (vI l7), some (vI ((l5 + l6) / (2 : Int32)))] [] M6
        refine RN_k (callX_det _) 2 _ _ _ _ (show kd M6 l0 5 ∧ R106 sl sx d M0 P 144 [some (vR (some l0)), none, none, some (vI l3), some (vR l4), some (vI l5), some (vI l6), some (vI l7), some (vI ((l5 + l6) / (2 : Int32)))] [vR (mR M6 l0 0)] M6 from ⟨h.1, ?_⟩)
        replace h := h.2
        obtain ⟨a7, he, h⟩ := h
        refine RN_k (callX_det _) 1 _ _ _ _ (show R106 sl sx d M0 P 145 [some (vR (some l0)), none, none, some (vI l3), some (vR l4), some (vI l5), some (vI l6), some (vI l7), some (vI ((l5 + l6) / (2 : Int32)))] [vI l3, vR (mR M6 l0 0)] M6 from ?_)
        rw [he]
        refine RN_k (callX_det _) 1 _ _ _ _ (show kd M6 a7 1 ∧ callX TBg sl sx (d + 4) 100 [vR (some a7), vI l3] M6 (fun v M9 => R106 sl sx d M0 P 148 [some (vR (some l0)), none, none, some (vI l3), some (vR l4), some (vI l5), some (vI l6), some (vI l7), some (vI ((l5 + l6) / (2 : Int32)))] (pushO v []) M9) from ⟨h.1, ?_⟩)
        replace h := h.2
        refine callX_mono (callX_len (d := (d + 4)) rfl rfl rfl (c100 (d := d + 1) h)) ?_
        clear h
        rintro v9 M8 ⟨hl, r9, rfl, h⟩
        replace hM := lenT hM hl
        show R106 sl sx d M0 P 148 [some (vR (some l0)), none, none, some (vI l3), some (vR l4), some (vI l5), some (vI l6), some (vI l7), some (vI ((l5 + l6) / (2 : Int32)))] [vI r9] M8
        refine RN_k (callX_det _) 1 _ _ _ _ (show (r9 = 0 → R106 sl sx d M0 P 158 [some (vR (some l0)), none, none, some (vI l3), some (vR l4), some (vI l5), some (vI l6), some (vI l7), some (vI ((l5 + l6) / (2 : Int32)))] [] M8) ∧ (¬ (r9 = 0) → R106 sl sx d M0 P 151 [some (vR (some l0)), none, none, some (vI l3), some (vR l4), some (vI l5), some (vI l6), some (vI l7), some (vI ((l5 + l6) / (2 : Int32)))] [] M8) from ⟨fun hc => ?_, fun hc => ?_⟩)
        · replace h := h.1 hc
          refine RN_k (callX_det _) 4 _ _ _ _ (show R106 sl sx d M0 P 164 [some (vR (some l0)), none, none, some (vI l3), some (vR l4), some (vI (((l5 + l6) / (2 : Int32)) + (1 : Int32))), some (vI l6), some (vI l7), some (vI ((l5 + l6) / (2 : Int32)))] [] M8 from ?_)
          exact RN_weak (K := [some (vR (some l0)), none, none, some (vI l3), some (vR l4), some (vI (((l5 + l6) / (2 : Int32)) + (1 : Int32))), some (vI l6), some (vI l7), none]) (callX_det _) (show _ ∧ _ ∧ _ ∧ _ ∧ _ ∧ _ ∧ True from ⟨rfl, rfl, rfl, rfl, rfl, rfl, trivial⟩) (t106_164 ih l0 l3 l4 (((l5 + l6) / (2 : Int32)) + (1 : Int32)) l6 l7 _ hM h)
        · replace h := h.2 hc
          refine RN_k (callX_det _) 3 _ _ _ _ (show R106 sl sx d M0 P 164 [some (vR (some l0)), none, none, some (vI l3), some (vR l4), some (vI l5), some (vI ((l5 + l6) / (2 : Int32))), some (vI l7), some (vI ((l5 + l6) / (2 : Int32)))] [] M8 from ?_)
          exact RN_weak (K := [some (vR (some l0)), none, none, some (vI l3), some (vR l4), some (vI l5), some (vI ((l5 + l6) / (2 : Int32))), some (vI l7), none]) (callX_det _) (show _ ∧ _ ∧ _ ∧ _ ∧ _ ∧ _ ∧ True from ⟨rfl, rfl, rfl, rfl, rfl, rfl, trivial⟩) (t106_164 ih l0 l3 l4 l5 ((l5 + l6) / (2 : Int32)) l7 _ hM h)
def w106 (l0 : Nat) (l1 : Option Nat) (l2 : Option Nat) (l3 : Int32) (l4 : Option Nat) (M : MM) (P : MM → Prop) : Prop := kd M l0 5 ∧ (∃ a1, mR M l0 1 = some a1 ∧ (kd M a1 4 ∧ w96 a1 l1 l2 M (fun M2 => (l3 ≠ (2 : Int32) → (kd M2 l0 5 ∧ (∃ a3, mR M2 l0 0 = some a3 ∧ (kd M2 a3 1 ∧ w78 a3 l1 l2 M2 (fun M4 => kd M4 l0 5 ∧ (kd M4 l0 5 ∧ (kd M4 l0 5 ∧ (∃ a5, mR M4 l0 0 = some a5 ∧ (kd M4 a5 1 ∧ w107 a5 M4 (fun r7 M6 => kd M6 l0 5 ∧ (∃ a8, mR M6 l0 0 = some a8 ∧ (kd M6 a8 1 ∧ w108 a8 M6 (fun r10 M9 => w33 r7 r10 M9 (fun r12 M11 => kd M11 l0 5 ∧ (∃ a13, mR M11 l0 1 = some a13 ∧ (kd M11 a13 4 ∧ w99 a13 M11 (fun r15 M14 => ∃ a16, mR M4 l0 2 = some a16 ∧ (kd M14 a16 2 ∧ w109 a16 (some a5) r12 r15 M14 (fun M17 => kd M17 l0 5 ∧ (∃ a18, mR M17 l0 2 = some a18 ∧ (kd M17 a18 2 ∧ (∃ n2, w106_90  n2 l0 l3 l4 (0 : Int32) ((mI M17 a18 2) - (1 : Int32)) (0 : Int32) M17 P)))))))))))))))))))))) ∧ (¬ (l3 ≠ (2 : Int32)) → (kd M2 l0 5 ∧ (∃ a19, mR M2 l0 1 = some a19 ∧ (kd M2 a19 4 ∧ w99 a19 M2 (fun r21 M20 => ∃ a22, l4 = some a22 ∧ (kd M20 a22 3 ∧ w54 a22 r21.toInt64 (1 : Int64) M20 (fun M23 => P M23))))))))))
theorem t106_E {sl : Nat} {sx : Nat → Int32} {d : Nat} {M0 : MM} {P : MM → Prop} (l0 : Nat) (l1 : Option Nat) (l2 : Option Nat) (l3 : Int32) (l4 : Option Nat) (M : MM) (hM : lenO M0 M) (h : w106  l0 l1 l2 l3 l4 M P) : R106 sl sx d M0 P 0 [some (vR (some l0)), some (vR l1), some (vR l2), some (vI l3), some (vR l4), none, none, none, none] [] M := by
  refine RN_k (callX_det _) 2 _ _ _ _ (show kd M l0 5 ∧ R106 sl sx d M0 P 4 [some (vR (some l0)), some (vR l1), some (vR l2), some (vI l3), some (vR l4), none, none, none, none] [vR (mR M l0 1)] M from ⟨h.1, ?_⟩)
  replace h := h.2
  obtain ⟨a1, he, h⟩ := h
  refine RN_k (callX_det _) 2 _ _ _ _ (show R106 sl sx d M0 P 6 [some (vR (some l0)), some (vR l1), some (vR l2), some (vI l3), some (vR l4), none, none, none, none] [vR l2, vR l1, vR (mR M l0 1)] M from ?_)
  rw [he]
  refine RN_k (callX_det _) 1 _ _ _ _ (show kd M a1 4 ∧ callX TBg sl sx (d + 4) 96 [vR (some a1), vR l1, vR l2] M (fun v M9 => R106 sl sx d M0 P 9 [some (vR (some l0)), some (vR l1), some (vR l2), some (vI l3), some (vR l4), none, none, none, none] (pushO v []) M9) from ⟨h.1, ?_⟩)
  replace h := h.2
  refine callX_mono (callX_len (d := (d + 4)) rfl rfl rfl (c96 (d := d + 1) h)) ?_
  clear h
  rintro v9 M2 ⟨hl, rfl, h⟩
  replace hM := lenT hM hl
  show R106 sl sx d M0 P 9 [some (vR (some l0)), some (vR l1), some (vR l2), some (vI l3), some (vR l4), none, none, none, none] [] M2
  refine RN_k (callX_det _) 3 _ _ _ _ (show (l3 ≠ (2 : Int32) → R106 sl sx d M0 P 29 [some (vR (some l0)), some (vR l1), some (vR l2), some (vI l3), some (vR l4), none, none, none, none] [] M2) ∧ (¬ (l3 ≠ (2 : Int32)) → R106 sl sx d M0 P 14 [some (vR (some l0)), some (vR l1), some (vR l2), some (vI l3), some (vR l4), none, none, none, none] [] M2) from ⟨fun hc => ?_, fun hc => ?_⟩)
  · replace h := h.1 hc
    refine RN_k (callX_det _) 2 _ _ _ _ (show kd M2 l0 5 ∧ R106 sl sx d M0 P 33 [some (vR (some l0)), some (vR l1), some (vR l2), some (vI l3), some (vR l4), none, none, none, none] [vR (mR M2 l0 0)] M2 from ⟨h.1, ?_⟩)
    replace h := h.2
    obtain ⟨a3, he, h⟩ := h
    refine RN_k (callX_det _) 2 _ _ _ _ (show R106 sl sx d M0 P 35 [some (vR (some l0)), some (vR l1), some (vR l2), some (vI l3), some (vR l4), none, none, none, none] [vR l2, vR l1, vR (mR M2 l0 0)] M2 from ?_)
    rw [he]
    refine RN_k (callX_det _) 1 _ _ _ _ (show kd M2 a3 1 ∧ callX TBg sl sx (d + 4) 78 [vR (some a3), vR l1, vR l2] M2 (fun v M9 => R106 sl sx d M0 P 38 [some (vR (some l0)), some (vR l1), some (vR l2), some (vI l3), some (vR l4), none, none, none, none] (pushO v []) M9) from ⟨h.1, ?_⟩)
    replace h := h.2
    refine callX_mono (callX_len (d := (d + 4)) rfl rfl rfl (c78 (d := d + 2) h)) ?_
    clear h
    rintro v9 M4 ⟨hl, rfl, h⟩
    replace hM := lenT hM hl
    show R106 sl sx d M0 P 38 [some (vR (some l0)), some (vR l1), some (vR l2), some (vI l3), some (vR l4), none, none, none, none] [] M4
    refine RN_k (callX_det _) 2 _ _ _ _ (show kd M4 l0 5 ∧ R106 sl sx d M0 P 42 [some (vR (some l0)), some (vR l1), some (vR l2), some (vI l3), some (vR l4), none, none, none, none] [vR (mR M4 l0 2)] M4 from ⟨h.1, ?_⟩)
    replace h := h.2
    refine RN_k (callX_det _) 2 _ _ _ _ (show kd M4 l0 5 ∧ R106 sl sx d M0 P 46 [some (vR (some l0)), some (vR l1), some (vR l2), some (vI l3), some (vR l4), none, none, none, none] [vR (mR M4 l0 0), vR (mR M4 l0 2)] M4 from ⟨h.1, ?_⟩)
    replace h := h.2
    refine RN_k (callX_det _) 2 _ _ _ _ (show kd M4 l0 5 ∧ R106 sl sx d M0 P 50 [some (vR (some l0)), some (vR l1), some (vR l2), some (vI l3), some (vR l4), none, none, none, none] [vR (mR M4 l0 0), vR (mR M4 l0 0), vR (mR M4 l0 2)] M4 from ⟨h.1, ?_⟩)
    replace h := h.2
    obtain ⟨a5, he, h⟩ := h
    rw [he]
    refine RN_k (callX_det _) 1 _ _ _ _ (show kd M4 a5 1 ∧ callX TBg sl sx (d + 4) 107 [vR (some a5)] M4 (fun v M9 => R106 sl sx d M0 P 53 [some (vR (some l0)), some (vR l1), some (vR l2), some (vI l3), some (vR l4), none, none, none, none] (pushO v [vR (some a5), vR (mR M4 l0 2)]) M9) from ⟨h.1, ?_⟩)
    replace h := h.2
    refine callX_mono (callX_len (d := (d + 4)) rfl rfl rfl (c107 (d := d + 2) h)) ?_
    clear h
    rintro v9 M6 ⟨hl, r7, rfl, h⟩
    replace hM := lenT hM hl
    show R106 sl sx d M0 P 53 [some (vR (some l0)), some (vR l1), some (vR l2), some (vI l3), some (vR l4), none, none, none, none] [vI r7, vR (some a5), vR (mR M4 l0 2)] M6
    refine RN_k (callX_det _) 2 _ _ _ _ (show kd M6 l0 5 ∧ R106 sl sx d M0 P 57 [some (vR (some l0)), some (vR l1), some (vR l2), some (vI l3), some (vR l4), none, none, none, none] [vR (mR M6 l0 0), vI r7, vR (some a5), vR (mR M4 l0 2)] M6 from ⟨h.1, ?_⟩)
    replace h := h.2
    obtain ⟨a8, he, h⟩ := h
    rw [he]
    refine RN_k (callX_det _) 1 _ _ _ _ (show kd M6 a8 1 ∧ callX TBg sl sx (d + 4) 108 [vR (some a8)] M6 (fun v M9 => R106 sl sx d M0 P 60 [some (vR (some l0)), some (vR l1), some (vR l2), some (vI l3), some (vR l4), none, none, none, none] (pushO v [vI r7, vR (some a5), vR (mR M4 l0 2)]) M9) from ⟨h.1, ?_⟩)
    replace h := h.2
    refine callX_mono (callX_len (d := (d + 4)) rfl rfl rfl (c108 (d := d + 2) h)) ?_
    clear h
    rintro v9 M9 ⟨hl, r10, rfl, h⟩
    replace hM := lenT hM hl
    show R106 sl sx d M0 P 60 [some (vR (some l0)), some (vR l1), some (vR l2), some (vI l3), some (vR l4), none, none, none, none] [vI r10, vI r7, vR (some a5), vR (mR M4 l0 2)] M9
    refine RN_k (callX_det _) 1 _ _ _ _ (show callX TBg sl sx (d + 4) 33 [vI r7, vI r10] M9 (fun v M9 => R106 sl sx d M0 P 63 [some (vR (some l0)), some (vR l1), some (vR l2), some (vI l3), some (vR l4), none, none, none, none] (pushO v [vR (some a5), vR (mR M4 l0 2)]) M9) from ?_)
    refine callX_mono (callX_len (d := (d + 4)) rfl rfl rfl (c33 (d := d + 3) h)) ?_
    clear h
    rintro v9 M11 ⟨hl, r12, rfl, h⟩
    replace hM := lenT hM hl
    show R106 sl sx d M0 P 63 [some (vR (some l0)), some (vR l1), some (vR l2), some (vI l3), some (vR l4), none, none, none, none] [vI r12, vR (some a5), vR (mR M4 l0 2)] M11
    refine RN_k (callX_det _) 2 _ _ _ _ (show kd M11 l0 5 ∧ R106 sl sx d M0 P 67 [some (vR (some l0)), some (vR l1), some (vR l2), some (vI l3), some (vR l4), none, none, none, none] [vR (mR M11 l0 1), vI r12, vR (some a5), vR (mR M4 l0 2)] M11 from ⟨h.1, ?_⟩)
    replace h := h.2
    obtain ⟨a13, he, h⟩ := h
    rw [he]
    refine RN_k (callX_det _) 1 _ _ _ _ (show kd M11 a13 4 ∧ callX TBg sl sx (d + 4) 99 [vR (some a13)] M11 (fun v M9 => R106 sl sx d M0 P 70 [some (vR (some l0)), some (vR l1), some (vR l2), some (vI l3), some (vR l4), none, none, none, none] (pushO v [vI r12, vR (some a5), vR (mR M4 l0 2)]) M9) from ⟨h.1, ?_⟩)
    replace h := h.2
    refine callX_mono (callX_len (d := (d + 4)) rfl rfl rfl (c99 (d := d + 3) h)) ?_
    clear h
    rintro v9 M14 ⟨hl, r15, rfl, h⟩
    replace hM := lenT hM hl
    show R106 sl sx d M0 P 70 [some (vR (some l0)), some (vR l1), some (vR l2), some (vI l3), some (vR l4), none, none, none, none] [vI r15, vI r12, vR (some a5), vR (mR M4 l0 2)] M14
    obtain ⟨a16, he, h⟩ := h
    rw [he]
    refine RN_k (callX_det _) 1 _ _ _ _ (show kd M14 a16 2 ∧ callX TBg sl sx (d + 4) 109 [vR (some a16), vR (some a5), vI r12, vI r15] M14 (fun v M9 => R106 sl sx d M0 P 73 [some (vR (some l0)), some (vR l1), some (vR l2), some (vI l3), some (vR l4), none, none, none, none] (pushO v []) M9) from ⟨h.1, ?_⟩)
    replace h := h.2
    refine callX_mono (callX_len (d := (d + 4)) rfl rfl rfl (c109 (d := d + 1) h)) ?_
    clear h
    rintro v9 M17 ⟨hl, rfl, h⟩
    replace hM := lenT hM hl
    show R106 sl sx d M0 P 73 [some (vR (some l0)), some (vR l1), some (vR l2), some (vI l3), some (vR l4), none, none, none, none] [] M17
    refine RN_k (callX_det _) 4 _ _ _ _ (show kd M17 l0 5 ∧ R106 sl sx d M0 P 80 [some (vR (some l0)), some (vR l1), some (vR l2), some (vI l3), some (vR l4), some (vI (0 : Int32)), none, none, none] [vR (mR M17 l0 2)] M17 from ⟨h.1, ?_⟩)
    replace h := h.2
    obtain ⟨a18, he, h⟩ := h
    rw [he]
    refine RN_k (callX_det _) 1 _ _ _ _ (show kd M17 a18 2 ∧ R106 sl sx d M0 P 83 [some (vR (some l0)), some (vR l1), some (vR l2), some (vI l3), some (vR l4), some (vI (0 : Int32)), none, none, none] [vI (mI M17 a18 2)] M17 from ⟨h.1, ?_⟩)
    replace h := h.2
    refine RN_k (callX_det _) 5 _ _ _ _ (show R106 sl sx d M0 P 90 [some (vR (some l0)), some (vR l1), some (vR l2), some (vI l3), some (vR l4), some (vI (0 : Int32)), some (vI ((mI M17 a18 2) - (1 : Int32))), some (vI (0 : Int32)), none] [] M17 from ?_)
    obtain ⟨n2, h⟩ := h
    exact RN_weak (K := [some (vR (some l0)), none, none, some (vI l3), some (vR l4), some (vI (0 : Int32)), some (vI ((mI M17 a18 2) - (1 : Int32))), some (vI (0 : Int32)), none]) (callX_det _) (show _ ∧ _ ∧ _ ∧ _ ∧ _ ∧ _ ∧ True from ⟨rfl, rfl, rfl, rfl, rfl, rfl, trivial⟩) (t106_90  n2 l0 l3 l4 (0 : Int32) ((mI M17 a18 2) - (1 : Int32)) (0 : Int32) _ hM h)
  · replace h := h.2 hc
    refine RN_k (callX_det _) 3 _ _ _ _ (show kd M2 l0 5 ∧ R106 sl sx d M0 P 20 [some (vR (some l0)), some (vR l1), some (vR l2), some (vI l3), some (vR l4), none, none, none, none] [vR (mR M2 l0 1), vR l4] M2 from ⟨h.1, ?_⟩)
    replace h := h.2
    obtain ⟨a19, he, h⟩ := h
    rw [he]
    refine RN_k (callX_det _) 1 _ _ _ _ (show kd M2 a19 4 ∧ callX TBg sl sx (d + 4) 99 [vR (some a19)] M2 (fun v M9 => R106 sl sx d M0 P 23 [some (vR (some l0)), some (vR l1), some (vR l2), some (vI l3), some (vR l4), none, none, none, none] (pushO v [vR l4]) M9) from ⟨h.1, ?_⟩)
    replace h := h.2
    refine callX_mono (callX_len (d := (d + 4)) rfl rfl rfl (c99 (d := d + 3) h)) ?_
    clear h
    rintro v9 M20 ⟨hl, r21, rfl, h⟩
    replace hM := lenT hM hl
    show R106 sl sx d M0 P 23 [some (vR (some l0)), some (vR l1), some (vR l2), some (vI l3), some (vR l4), none, none, none, none] [vI r21, vR l4] M20
    obtain ⟨a22, he, h⟩ := h
    refine RN_k (callX_det _) 2 _ _ _ _ (show R106 sl sx d M0 P 25 [some (vR (some l0)), some (vR l1), some (vR l2), some (vI l3), some (vR l4), none, none, none, none] [vL (1 : Int64), vL r21.toInt64, vR l4] M20 from ?_)
    subst he
    refine RN_k (callX_det _) 1 _ _ _ _ (show kd M20 a22 3 ∧ callX TBg sl sx (d + 4) 54 [vR (some a22), vL r21.toInt64, vL (1 : Int64)] M20 (fun v M9 => R106 sl sx d M0 P 28 [some (vR (some l0)), some (vR l1), some (vR l2), some (vI l3), some (vR (some a22)), none, none, none, none] (pushO v []) M9) from ⟨h.1, ?_⟩)
    replace h := h.2
    refine callX_mono (callX_len (d := (d + 4)) rfl rfl rfl (c54 (d := d + 3) h)) ?_
    clear h
    rintro v9 M23 ⟨hl, rfl, h⟩
    replace hM := lenT hM hl
    show R106 sl sx d M0 P 28 [some (vR (some l0)), some (vR l1), some (vR l2), some (vI l3), some (vR (some a22)), none, none, none, none] [] M23
    exact RN_k (callX_det _) 1 _ _ _ _ (show rtW q106 M0 (PV P) none M23 from ⟨rfl, hM.1, hM.2, rfl, h⟩)
theorem c106 {sl : Nat} {sx : Nat → Int32} {d : Nat} {l0 : Nat} {l1 : Option Nat} {l2 : Option Nat} {l3 : Int32} {l4 : Option Nat} {M : MM} {P : MM → Prop} (h : w106 l0 l1 l2 l3 l4 M P) : callX TBg sl sx (d + 5) 106 [vR (some l0), vR l1, vR l2, vI l3, vR l4] M (PV P) :=
  cX (d := d + 4) q106 (false, tb106) rfl rfl rfl (t106_E l0 l1 l2 l3 l4 M lenR h)
-- TwoLeash.shortest(III)Z
abbrev q105 : MQ7 := (4, 1, 4, 9, 0, 0, 4)
abbrev R105 (sl : Nat) (sx : Nat → Int32) (d : Nat) (M0 : MM) (P : Int32 → MM → Prop) : Nat → LL → List VV → MM → Prop := RN 9 false (mS M0).length (mT M0) 0 0 sl sx (callX TBg sl sx (d + 5)) (rtW q105 M0 (PI P)) (as2 tb105)
def w105 (l0 : Nat) (l1 : Int32) (l2 : Int32) (l3 : Int32) (M : MM) (P : Int32 → MM → Prop) : Prop := w94 l3 M (fun r2 M1 => kd M1 l0 9 ∧ w62 l0 r2 l1 l2 M1 (fun r4 M3 => kd M3 l0 9 ∧ (kd (sI M3 l0 10 r4) l0 9 ∧ (((mI (sI M3 l0 10 r4) l0 10) = 0 → (kd (sI M3 l0 10 r4) l0 9 ∧ (kd (sI M3 l0 10 r4) l0 9 ∧ (∃ a5, mR (sI M3 l0 10 r4) l0 5 = some a5 ∧ (inb (sI M3 l0 10 r4) a5 16 l1 ∧ (kd (sI M3 l0 10 r4) l0 9 ∧ (∃ a6, mR (sI M3 l0 10 r4) l0 5 = some a6 ∧ (inb (sI M3 l0 10 r4) a6 16 l2 ∧ (kd (sI M3 l0 10 r4) l0 9 ∧ (∃ a7, mR (sI M3 l0 10 r4) l0 15 = some a7 ∧ (kd (sI M3 l0 10 r4) a7 5 ∧ w106 a7 (mR (sI M3 l0 10 r4) a5 l1.toNatClampNeg) (mR (sI M3 l0 10 r4) a6 l2.toNatClampNeg) l3 (mR (sI M3 l0 10 r4) l0 12) (sI M3 l0 10 r4) (fun M8 => kd M8 l0 9 ∧ (kd M8 l0 9 ∧ w55 l0 (mR M8 l0 12) M8 (fun r10 M9 => (r10 = 0 ∨ r10 = 1) ∧ P r10 M9)))))))))))))) ∧ (¬ ((mI (sI M3 l0 10 r4) l0 10) = 0) → (P (0 : Int32) (sI M3 l0 10 r4)))))))
theorem t105_E {sl : Nat} {sx : Nat → Int32} {d : Nat} {M0 : MM} {P : Int32 → MM → Prop} (l0 : Nat) (l1 : Int32) (l2 : Int32) (l3 : Int32) (M : MM) (hM : lenO M0 M) (h : w105  l0 l1 l2 l3 M P) : R105 sl sx d M0 P 0 [some (vR (some l0)), some (vI l1), some (vI l2), some (vI l3)] [] M := by
  refine RN_k (callX_det _) 4 _ _ _ _ (show callX TBg sl sx (d + 5) 94 [vI l3] M (fun v M9 => R105 sl sx d M0 P 6 [some (vR (some l0)), some (vI l1), some (vI l2), some (vI l3)] (pushO v [vR (some l0), vR (some l0)]) M9) from ?_)
  refine callX_mono (callX_len (d := (d + 5)) rfl rfl rfl (c94 (d := d + 4) h)) ?_
  clear h
  rintro v9 M1 ⟨hl, r2, rfl, h⟩
  replace hM := lenT hM hl
  show R105 sl sx d M0 P 6 [some (vR (some l0)), some (vI l1), some (vI l2), some (vI l3)] [vI r2, vR (some l0), vR (some l0)] M1
  refine RN_k (callX_det _) 3 _ _ _ _ (show kd M1 l0 9 ∧ callX TBg sl sx (d + 5) 62 [vR (some l0), vI r2, vI l1, vI l2] M1 (fun v M9 => R105 sl sx d M0 P 11 [some (vR (some l0)), some (vI l1), some (vI l2), some (vI l3)] (pushO v [vR (some l0)]) M9) from ⟨h.1, ?_⟩)
  replace h := h.2
  refine callX_mono (callX_len (d := (d + 5)) rfl rfl rfl (c62 (d := d + 3) h)) ?_
  clear h
  rintro v9 M3 ⟨hl, r4, rfl, h⟩
  replace hM := lenT hM hl
  show R105 sl sx d M0 P 11 [some (vR (some l0)), some (vI l1), some (vI l2), some (vI l3)] [vI r4, vR (some l0)] M3
  refine RN_k (callX_det _) 1 _ _ _ _ (show kd M3 l0 9 ∧ R105 sl sx d M0 P 14 [some (vR (some l0)), some (vI l1), some (vI l2), some (vI l3)] [] (sI M3 l0 10 r4) from ⟨h.1, ?_⟩)
  replace h := h.2
  refine RN_k (callX_det _) 2 _ _ _ _ (show kd (sI M3 l0 10 r4) l0 9 ∧ R105 sl sx d M0 P 18 [some (vR (some l0)), some (vI l1), some (vI l2), some (vI l3)] [vI (mI (sI M3 l0 10 r4) l0 10)] (sI M3 l0 10 r4) from ⟨h.1, ?_⟩)
  replace h := h.2
  refine RN_k (callX_det _) 1 _ _ _ _ (show ((mI (sI M3 l0 10 r4) l0 10) = 0 → R105 sl sx d M0 P 23 [some (vR (some l0)), some (vI l1), some (vI l2), some (vI l3)] [] (sI M3 l0 10 r4)) ∧ (¬ ((mI (sI M3 l0 10 r4) l0 10) = 0) → R105 sl sx d M0 P 21 [some (vR (some l0)), some (vI l1), some (vI l2), some (vI l3)] [] (sI M3 l0 10 r4)) from ⟨fun hc => ?_, fun hc => ?_⟩)
  · replace h := h.1 hc
    refine RN_k (callX_det _) 2 _ _ _ _ (show kd (sI M3 l0 10 r4) l0 9 ∧ R105 sl sx d M0 P 27 [some (vR (some l0)), some (vI l1), some (vI l2), some (vI l3)] [vR (mR (sI M3 l0 10 r4) l0 15)] (sI M3 l0 10 r4) from ⟨h.1, ?_⟩)
    replace h := h.2
    refine RN_k (callX_det _) 2 _ _ _ _ (show kd (sI M3 l0 10 r4) l0 9 ∧ R105 sl sx d M0 P 31 [some (vR (some l0)), some (vI l1), some (vI l2), some (vI l3)] [vR (mR (sI M3 l0 10 r4) l0 5), vR (mR (sI M3 l0 10 r4) l0 15)] (sI M3 l0 10 r4) from ⟨h.1, ?_⟩)
    replace h := h.2
    obtain ⟨a5, he, h⟩ := h
    refine RN_k (callX_det _) 1 _ _ _ _ (show R105 sl sx d M0 P 32 [some (vR (some l0)), some (vI l1), some (vI l2), some (vI l3)] [vI l1, vR (mR (sI M3 l0 10 r4) l0 5), vR (mR (sI M3 l0 10 r4) l0 15)] (sI M3 l0 10 r4) from ?_)
    rw [he]
    refine RN_k (callX_det _) 1 _ _ _ _ (show inb (sI M3 l0 10 r4) a5 16 l1 ∧ R105 sl sx d M0 P 33 [some (vR (some l0)), some (vI l1), some (vI l2), some (vI l3)] [vR (mR (sI M3 l0 10 r4) a5 l1.toNatClampNeg), vR (mR (sI M3 l0 10 r4) l0 15)] (sI M3 l0 10 r4) from ⟨h.1, ?_⟩)
    replace h := h.2
    refine RN_k (callX_det _) 2 _ _ _ _ (show kd (sI M3 l0 10 r4) l0 9 ∧ R105 sl sx d M0 P 37 [some (vR (some l0)), some (vI l1), some (vI l2), some (vI l3)] [vR (mR (sI M3 l0 10 r4) l0 5), vR (mR (sI M3 l0 10 r4) a5 l1.toNatClampNeg), vR (mR (sI M3 l0 10 r4) l0 15)] (sI M3 l0 10 r4) from ⟨h.1, ?_⟩)
    replace h := h.2
    obtain ⟨a6, he, h⟩ := h
    refine RN_k (callX_det _) 1 _ _ _ _ (show R105 sl sx d M0 P 38 [some (vR (some l0)), some (vI l1), some (vI l2), some (vI l3)] [vI l2, vR (mR (sI M3 l0 10 r4) l0 5), vR (mR (sI M3 l0 10 r4) a5 l1.toNatClampNeg), vR (mR (sI M3 l0 10 r4) l0 15)] (sI M3 l0 10 r4) from ?_)
    rw [he]
    refine RN_k (callX_det _) 1 _ _ _ _ (show inb (sI M3 l0 10 r4) a6 16 l2 ∧ R105 sl sx d M0 P 39 [some (vR (some l0)), some (vI l1), some (vI l2), some (vI l3)] [vR (mR (sI M3 l0 10 r4) a6 l2.toNatClampNeg), vR (mR (sI M3 l0 10 r4) a5 l1.toNatClampNeg), vR (mR (sI M3 l0 10 r4) l0 15)] (sI M3 l0 10 r4) from ⟨h.1, ?_⟩)
    replace h := h.2
    refine RN_k (callX_det _) 3 _ _ _ _ (show kd (sI M3 l0 10 r4) l0 9 ∧ R105 sl sx d M0 P 44 [some (vR (some l0)), some (vI l1), some (vI l2), some (vI l3)] [vR (mR (sI M3 l0 10 r4) l0 12), vI l3, vR (mR (sI M3 l0 10 r4) a6 l2.toNatClampNeg), vR (mR (sI M3 l0 10 r4) a5 l1.toNatClampNeg), vR (mR (sI M3 l0 10 r4) l0 15)] (sI M3 l0 10 r4) from ⟨h.1, ?_⟩)
    replace h := h.2
    obtain ⟨a7, he, h⟩ := h
    rw [he]
    refine RN_k (callX_det _) 1 _ _ _ _ (show kd (sI M3 l0 10 r4) a7 5 ∧ callX TBg sl sx (d + 5) 106 [vR (some a7), vR (mR (sI M3 l0 10 r4) a5 l1.toNatClampNeg), vR (mR (sI M3 l0 10 r4) a6 l2.toNatClampNeg), vI l3, vR (mR (sI M3 l0 10 r4) l0 12)] (sI M3 l0 10 r4) (fun v M9 => R105 sl sx d M0 P 47 [some (vR (some l0)), some (vI l1), some (vI l2), some (vI l3)] (pushO v []) M9) from ⟨h.1, ?_⟩)
    replace h := h.2
    refine callX_mono (callX_len (d := (d + 5)) rfl rfl rfl (c106 (d := d) h)) ?_
    clear h
    rintro v9 M8 ⟨hl, rfl, h⟩
    replace hM := lenT hM hl
    show R105 sl sx d M0 P 47 [some (vR (some l0)), some (vI l1), some (vI l2), some (vI l3)] [] M8
    refine RN_k (callX_det _) 3 _ _ _ _ (show kd M8 l0 9 ∧ R105 sl sx d M0 P 52 [some (vR (some l0)), some (vI l1), some (vI l2), some (vI l3)] [vR (mR M8 l0 12), vR (some l0)] M8 from ⟨h.1, ?_⟩)
    replace h := h.2
    refine RN_k (callX_det _) 1 _ _ _ _ (show kd M8 l0 9 ∧ callX TBg sl sx (d + 5) 55 [vR (some l0), vR (mR M8 l0 12)] M8 (fun v M9 => R105 sl sx d M0 P 55 [some (vR (some l0)), some (vI l1), some (vI l2), some (vI l3)] (pushO v []) M9) from ⟨h.1, ?_⟩)
    replace h := h.2
    refine callX_mono (callX_len (d := (d + 5)) rfl rfl rfl (c55 (d := d + 3) h)) ?_
    clear h
    rintro v9 M9 ⟨hl, r10, rfl, h⟩
    replace hM := lenT hM hl
    show R105 sl sx d M0 P 55 [some (vR (some l0)), some (vI l1), some (vI l2), some (vI l3)] [vI r10] M9
    exact RN_k (callX_det _) 1 _ _ _ _ (show rtW q105 M0 (PI P) (some (vI r10)) M9 from ⟨⟨_, rfl, h.1⟩, hM.1, hM.2, _, rfl, h.2⟩)
  · replace h := h.2 hc
    exact RN_k (callX_det _) 2 _ _ _ _ (show rtW q105 M0 (PI P) (some (vI (0 : Int32))) (sI M3 l0 10 r4) from ⟨⟨_, rfl, Or.inl rfl⟩, hM.1, hM.2, _, rfl, h⟩)
theorem c105 {sl : Nat} {sx : Nat → Int32} {d : Nat} {l0 : Nat} {l1 : Int32} {l2 : Int32} {l3 : Int32} {M : MM} {P : Int32 → MM → Prop} (h : w105 l0 l1 l2 l3 M P) : callX TBg sl sx (d + 6) 105 [vR (some l0), vI l1, vI l2, vI l3] M (PI P) :=
  cX (d := d + 5) q105 (false, tb105) rfl rfl rfl (t105_E l0 l1 l2 l3 M lenR h)
-- TwoLeash.allChanges(II)LTwoLeash$Changes;
abbrev q113 : MQ7 := (3, 1, 3, 9, 0, 0, 3)
abbrev R113 (sl : Nat) (sx : Nat → Int32) (d : Nat) (M0 : MM) (P : Option Nat → MM → Prop) : Nat → LL → List VV → MM → Prop := RN 9 false (mS M0).length (mT M0) 0 0 sl sx (callX TBg sl sx (d + 3)) (rtW q113 M0 (PR P)) (as2 tb113)
def w113 (l0 : Nat) (l1 : Int32) (l2 : Int32) (M : MM) (P : Option Nat → MM → Prop) : Prop := kd M l0 9 ∧ (∃ a1, mR M l0 15 = some a1 ∧ (kd M a1 5 ∧ (kd M l0 9 ∧ (∃ a2, mR M l0 5 = some a2 ∧ (inb M a2 16 l1 ∧ (kd M l0 9 ∧ (∃ a3, mR M l0 5 = some a3 ∧ (inb M a3 16 l2 ∧ (∃ a4, mR M a1 0 = some a4 ∧ (kd M a4 1 ∧ w78 a4 (mR M a2 l1.toNatClampNeg) (mR M a3 l2.toNatClampNeg) M (fun M5 => kd M5 l0 9 ∧ (∃ a6, mR M5 l0 15 = some a6 ∧ (kd M5 a6 5 ∧ (kd M5 l0 9 ∧ (∃ a7, mR M5 l0 15 = some a7 ∧ (kd M5 a7 5 ∧ (∃ a8, mR M5 a6 2 = some a8 ∧ (kd M5 a8 2 ∧ w109 a8 (mR M5 a7 0) (0 : Int32) (648 : Int32) M5 (fun M9 => kd M9 l0 9 ∧ (∃ a10, mR M9 l0 15 = some a10 ∧ (kd M9 a10 5 ∧ (P (mR M9 a10 2) M9))))))))))))))))))))))
theorem t113_E {sl : Nat} {sx : Nat → Int32} {d : Nat} {M0 : MM} {P : Option Nat → MM → Prop} (l0 : Nat) (l1 : Int32) (l2 : Int32) (M : MM) (hM : lenO M0 M) (h : w113  l0 l1 l2 M P) : R113 sl sx d M0 P 0 [some (vR (some l0)), some (vI l1), some (vI l2)] [] M := by
  refine RN_k (callX_det _) 2 _ _ _ _ (show kd M l0 9 ∧ R113 sl sx d M0 P 4 [some (vR (some l0)), some (vI l1), some (vI l2)] [vR (mR M l0 15)] M from ⟨h.1, ?_⟩)
  replace h := h.2
  obtain ⟨a1, he, h⟩ := h
  rw [he]
  refine RN_k (callX_det _) 1 _ _ _ _ (show kd M a1 5 ∧ R113 sl sx d M0 P 7 [some (vR (some l0)), some (vI l1), some (vI l2)] [vR (mR M a1 0)] M from ⟨h.1, ?_⟩)
  replace h := h.2
  refine RN_k (callX_det _) 2 _ _ _ _ (show kd M l0 9 ∧ R113 sl sx d M0 P 11 [some (vR (some l0)), some (vI l1), some (vI l2)] [vR (mR M l0 5), vR (mR M a1 0)] M from ⟨h.1, ?_⟩)
  replace h := h.2
  obtain ⟨a2, he, h⟩ := h
  refine RN_k (callX_det _) 1 _ _ _ _ (show R113 sl sx d M0 P 12 [some (vR (some l0)), some (vI l1), some (vI l2)] [vI l1, vR (mR M l0 5), vR (mR M a1 0)] M from ?_)
  rw [he]
  refine RN_k (callX_det _) 1 _ _ _ _ (show inb M a2 16 l1 ∧ R113 sl sx d M0 P 13 [some (vR (some l0)), some (vI l1), some (vI l2)] [vR (mR M a2 l1.toNatClampNeg), vR (mR M a1 0)] M from ⟨h.1, ?_⟩)
  replace h := h.2
  refine RN_k (callX_det _) 2 _ _ _ _ (show kd M l0 9 ∧ R113 sl sx d M0 P 17 [some (vR (some l0)), some (vI l1), some (vI l2)] [vR (mR M l0 5), vR (mR M a2 l1.toNatClampNeg), vR (mR M a1 0)] M from ⟨h.1, ?_⟩)
  replace h := h.2
  obtain ⟨a3, he, h⟩ := h
  refine RN_k (callX_det _) 1 _ _ _ _ (show R113 sl sx d M0 P 18 [some (vR (some l0)), some (vI l1), some (vI l2)] [vI l2, vR (mR M l0 5), vR (mR M a2 l1.toNatClampNeg), vR (mR M a1 0)] M from ?_)
  rw [he]
  refine RN_k (callX_det _) 1 _ _ _ _ (show inb M a3 16 l2 ∧ R113 sl sx d M0 P 19 [some (vR (some l0)), some (vI l1), some (vI l2)] [vR (mR M a3 l2.toNatClampNeg), vR (mR M a2 l1.toNatClampNeg), vR (mR M a1 0)] M from ⟨h.1, ?_⟩)
  replace h := h.2
  obtain ⟨a4, he, h⟩ := h
  rw [he]
  refine RN_k (callX_det _) 1 _ _ _ _ (show kd M a4 1 ∧ callX TBg sl sx (d + 3) 78 [vR (some a4), vR (mR M a2 l1.toNatClampNeg), vR (mR M a3 l2.toNatClampNeg)] M (fun v M9 => R113 sl sx d M0 P 22 [some (vR (some l0)), some (vI l1), some (vI l2)] (pushO v []) M9) from ⟨h.1, ?_⟩)
  replace h := h.2
  refine callX_mono (callX_len (d := (d + 3)) rfl rfl rfl (c78 (d := d + 1) h)) ?_
  clear h
  rintro v9 M5 ⟨hl, rfl, h⟩
  replace hM := lenT hM hl
  show R113 sl sx d M0 P 22 [some (vR (some l0)), some (vI l1), some (vI l2)] [] M5
  refine RN_k (callX_det _) 2 _ _ _ _ (show kd M5 l0 9 ∧ R113 sl sx d M0 P 26 [some (vR (some l0)), some (vI l1), some (vI l2)] [vR (mR M5 l0 15)] M5 from ⟨h.1, ?_⟩)
  replace h := h.2
  obtain ⟨a6, he, h⟩ := h
  rw [he]
  refine RN_k (callX_det _) 1 _ _ _ _ (show kd M5 a6 5 ∧ R113 sl sx d M0 P 29 [some (vR (some l0)), some (vI l1), some (vI l2)] [vR (mR M5 a6 2)] M5 from ⟨h.1, ?_⟩)
  replace h := h.2
  refine RN_k (callX_det _) 2 _ _ _ _ (show kd M5 l0 9 ∧ R113 sl sx d M0 P 33 [some (vR (some l0)), some (vI l1), some (vI l2)] [vR (mR M5 l0 15), vR (mR M5 a6 2)] M5 from ⟨h.1, ?_⟩)
  replace h := h.2
  obtain ⟨a7, he, h⟩ := h
  rw [he]
  refine RN_k (callX_det _) 1 _ _ _ _ (show kd M5 a7 5 ∧ R113 sl sx d M0 P 36 [some (vR (some l0)), some (vI l1), some (vI l2)] [vR (mR M5 a7 0), vR (mR M5 a6 2)] M5 from ⟨h.1, ?_⟩)
  replace h := h.2
  obtain ⟨a8, he, h⟩ := h
  refine RN_k (callX_det _) 2 _ _ _ _ (show R113 sl sx d M0 P 40 [some (vR (some l0)), some (vI l1), some (vI l2)] [vI (648 : Int32), vI (0 : Int32), vR (mR M5 a7 0), vR (mR M5 a6 2)] M5 from ?_)
  rw [he]
  refine RN_k (callX_det _) 1 _ _ _ _ (show kd M5 a8 2 ∧ callX TBg sl sx (d + 3) 109 [vR (some a8), vR (mR M5 a7 0), vI (0 : Int32), vI (648 : Int32)] M5 (fun v M9 => R113 sl sx d M0 P 43 [some (vR (some l0)), some (vI l1), some (vI l2)] (pushO v []) M9) from ⟨h.1, ?_⟩)
  replace h := h.2
  refine callX_mono (callX_len (d := (d + 3)) rfl rfl rfl (c109 (d := d) h)) ?_
  clear h
  rintro v9 M9 ⟨hl, rfl, h⟩
  replace hM := lenT hM hl
  show R113 sl sx d M0 P 43 [some (vR (some l0)), some (vI l1), some (vI l2)] [] M9
  refine RN_k (callX_det _) 2 _ _ _ _ (show kd M9 l0 9 ∧ R113 sl sx d M0 P 47 [some (vR (some l0)), some (vI l1), some (vI l2)] [vR (mR M9 l0 15)] M9 from ⟨h.1, ?_⟩)
  replace h := h.2
  obtain ⟨a10, he, h⟩ := h
  rw [he]
  refine RN_k (callX_det _) 1 _ _ _ _ (show kd M9 a10 5 ∧ R113 sl sx d M0 P 50 [some (vR (some l0)), some (vI l1), some (vI l2)] [vR (mR M9 a10 2)] M9 from ⟨h.1, ?_⟩)
  replace h := h.2
  exact RN_k (callX_det _) 1 _ _ _ _ (show rtW q113 M0 (PR P) (some (vR (mR M9 a10 2))) M9 from ⟨⟨_, rfl⟩, hM.1, hM.2, _, rfl, h⟩)
theorem c113 {sl : Nat} {sx : Nat → Int32} {d : Nat} {l0 : Nat} {l1 : Int32} {l2 : Int32} {M : MM} {P : Option Nat → MM → Prop} (h : w113 l0 l1 l2 M P) : callX TBg sl sx (d + 4) 113 [vR (some l0), vI l1, vI l2] M (PR P) :=
  cX (d := d + 3) q113 (false, tb113) rfl rfl rfl (t113_E l0 l1 l2 M lenR h)
-- TwoLeash$Changes.countBelow(LTwoLeash$Fraction;)I
abbrev q114 : MQ7 := (2, 1, 3, 2, 0, 0, 1)
abbrev R114 (sl : Nat) (sx : Nat → Int32) (d : Nat) (M0 : MM) (P : Int32 → MM → Prop) : Nat → LL → List VV → MM → Prop := RN 2 false (mS M0).length (mT M0) 0 0 sl sx (callX TBg sl sx (d + 0)) (rtW q114 M0 (PI P)) (as2 tb114)
def w114_42 (l2 : Int32) (M : MM) (P : Int32 → MM → Prop) : Prop := P l2 M
theorem t114_42 {sl : Nat} {sx : Nat → Int32} {d : Nat} {M0 : MM} {P : Int32 → MM → Prop} (l2 : Int32) (M : MM) (hM : lenO M0 M) (h : w114_42  l2 M P) : R114 sl sx d M0 P 42 [none, none, some (vI l2)] [] M := by
  exact RN_k (callX_det _) 2 _ _ _ _ (show rtW q114 M0 (PI P) (some (vI l2)) M from ⟨⟨_, rfl⟩, hM.1, hM.2, _, rfl, h⟩)
def w114_2 : Nat → Nat → Option Nat → Int32 → MM → (Int32 → MM → Prop) → Prop
  | 0 => fun _ _ _ _ _ => False
  | n + 1 => fun l0 l1 l2 M P => kd M l0 2 ∧ (((mI M l0 2) ≤ l2 → (w114_42  l2 M P)) ∧ (¬ ((mI M l0 2) ≤ l2) → (kd M l0 2 ∧ (∃ a1, mR M l0 0 = some a1 ∧ (inb M a1 12 l2 ∧ (∃ a2, l1 = some a2 ∧ (kd M a2 3 ∧ (kd M a2 3 ∧ (kd M l0 2 ∧ (∃ a3, mR M l0 1 = some a3 ∧ (inb M a3 12 l2 ∧ ((0 ≤ (lg_cmp ((mL M a1 l2.toNatClampNeg) * (mL M a2 1)) ((mL M a2 0) * (mL M a3 l2.toNatClampNeg))) → (w114_42  l2 M P)) ∧ (¬ (0 ≤ (lg_cmp ((mL M a1 l2.toNatClampNeg) * (mL M a2 1)) ((mL M a2 0) * (mL M a3 l2.toNatClampNeg)))) → (w114_2  n l0 (some a2) (l2 + (1 : Int32)) M P))))))))))))))
theorem t114_2 {sl : Nat} {sx : Nat → Int32} {d : Nat} {M0 : MM} {P : Int32 → MM → Prop} (n : Nat) : ∀ (l0 : Nat) (l1 : Option Nat) (l2 : Int32) (M : MM) (_ : lenO M0 M) (_ : w114_2  n l0 l1 l2 M P), R114 sl sx d M0 P 2 [some (vR (some l0)), some (vR l1), some (vI l2)] [] M := by
  induction n with
  | zero => intro l0 l1 l2 M hM h; cases h
  | succ n ih =>
    intro l0 l1 l2 M hM h
    refine RN_k (callX_det _) 3 _ _ _ _ (show kd M l0 2 ∧ R114 sl sx d M0 P 7 [some (vR (some l0)), some (vR l1), some (vI l2)] [vI (mI M l0 2), vI l2] M from ⟨h.1, ?_⟩)
    replace h := h.2
    refine RN_k (callX_det _) 1 _ _ _ _ (show ((mI M l0 2) ≤ l2 → R114 sl sx d M0 P 42 [some (vR (some l0)), some (vR l1), some (vI l2)] [] M) ∧ (¬ ((mI M l0 2) ≤ l2) → R114 sl sx d M0 P 10 [some (vR (some l0)), some (vR l1), some (vI l2)] [] M) from ⟨fun hc => ?_, fun hc => ?_⟩)
    · replace h := h.1 hc
      exact RN_weak (K := [none, none, some (vI l2)]) (callX_det _) (show _ ∧ True from ⟨rfl, trivial⟩) (t114_42  l2 _ hM h)
    · replace h := h.2 hc
      refine RN_k (callX_det _) 2 _ _ _ _ (show kd M l0 2 ∧ R114 sl sx d M0 P 14 [some (vR (some l0)), some (vR l1), some (vI l2)] [vR (mR M l0 0)] M from ⟨h.1, ?_⟩)
      replace h := h.2
      obtain ⟨a1, he, h⟩ := h
      refine RN_k (callX_det _) 1 _ _ _ _ (show R114 sl sx d M0 P 15 [some (vR (some l0)), some (vR l1), some (vI l2)] [vI l2, vR (mR M l0 0)] M from ?_)
      rw [he]
      refine RN_k (callX_det _) 1 _ _ _ _ (show inb M a1 12 l2 ∧ R114 sl sx d M0 P 16 [some (vR (some l0)), some (vR l1), some (vI l2)] [vL (mL M a1 l2.toNatClampNeg)] M from ⟨h.1, ?_⟩)
      replace h := h.2
      obtain ⟨a2, he, h⟩ := h
      refine RN_k (callX_det _) 1 _ _ _ _ (show R114 sl sx d M0 P 17 [some (vR (some l0)), some (vR l1), some (vI l2)] [vR l1, vL (mL M a1 l2.toNatClampNeg)] M from ?_)
      subst he
      refine RN_k (callX_det _) 1 _ _ _ _ (show kd M a2 3 ∧ R114 sl sx d M0 P 20 [some (vR (some l0)), some (vR (some a2)), some (vI l2)] [vL (mL M a2 1), vL (mL M a1 l2.toNatClampNeg)] M from ⟨h.1, ?_⟩)
      replace h := h.2
      refine RN_k (callX_det _) 3 _ _ _ _ (show kd M a2 3 ∧ R114 sl sx d M0 P 25 [some (vR (some l0)), some (vR (some a2)), some (vI l2)] [vL (mL M a2 0), vL ((mL M a1 l2.toNatClampNeg) * (mL M a2 1))] M from ⟨h.1, ?_⟩)
      replace h := h.2
      refine RN_k (callX_det _) 2 _ _ _ _ (show kd M l0 2 ∧ R114 sl sx d M0 P 29 [some (vR (some l0)), some (vR (some a2)), some (vI l2)] [vR (mR M l0 1), vL (mL M a2 0), vL ((mL M a1 l2.toNatClampNeg) * (mL M a2 1))] M from ⟨h.1, ?_⟩)
      replace h := h.2
      obtain ⟨a3, he, h⟩ := h
      refine RN_k (callX_det _) 1 _ _ _ _ (show R114 sl sx d M0 P 30 [some (vR (some l0)), some (vR (some a2)), some (vI l2)] [vI l2, vR (mR M l0 1), vL (mL M a2 0), vL ((mL M a1 l2.toNatClampNeg) * (mL M a2 1))] M from ?_)
      rw [he]
      refine RN_k (callX_det _) 1 _ _ _ _ (show inb M a3 12 l2 ∧ R114 sl sx d M0 P 31 [some (vR (some l0)), some (vR (some a2)), some (vI l2)] [vL (mL M a3 l2.toNatClampNeg), vL (mL M a2 0), vL ((mL M a1 l2.toNatClampNeg) * (mL M a2 1))] M from ⟨h.1, ?_⟩)
      replace h := h.2
      refine RN_k (callX_det _) 3 _ _ _ _ (show (0 ≤ (lg_cmp ((mL M a1 l2.toNatClampNeg) * (mL M a2 1)) ((mL M a2 0) * (mL M a3 l2.toNatClampNeg))) → R114 sl sx d M0 P 42 [some (vR (some l0)), some (vR (some a2)), some (vI l2)] [] M) ∧ (¬ (0 ≤ (lg_cmp ((mL M a1 l2.toNatClampNeg) * (mL M a2 1)) ((mL M a2 0) * (mL M a3 l2.toNatClampNeg)))) → R114 sl sx d M0 P 36 [some (vR (some l0)), some (vR (some a2)), some (vI l2)] [] M) from ⟨fun hc => ?_, fun hc => ?_⟩)
      · replace h := h.1 hc
        exact RN_weak (K := [none, none, some (vI l2)]) (callX_det _) (show _ ∧ True from ⟨rfl, trivial⟩) (t114_42  l2 _ hM h)
      · replace h := h.2 hc
        refine RN_k (callX_det _) 2 _ _ _ _ (show R114 sl sx d M0 P 2 [some (vR (some l0)), some (vR (some a2)), some (vI (l2 + (1 : Int32)))] [] M from ?_)
        exact RN_weak (K := [some (vR (some l0)), some (vR (some a2)), some (vI (l2 + (1 : Int32)))]) (callX_det _) (show _ ∧ _ ∧ _ ∧ True from ⟨rfl, rfl, rfl, trivial⟩) (ih l0 (some a2) (l2 + (1 : Int32)) _ hM h)
def w114 (l0 : Nat) (l1 : Option Nat) (M : MM) (P : Int32 → MM → Prop) : Prop := ∃ n2, w114_2  n2 l0 l1 (0 : Int32) M P
theorem t114_E {sl : Nat} {sx : Nat → Int32} {d : Nat} {M0 : MM} {P : Int32 → MM → Prop} (l0 : Nat) (l1 : Option Nat) (M : MM) (hM : lenO M0 M) (h : w114  l0 l1 M P) : R114 sl sx d M0 P 0 [some (vR (some l0)), some (vR l1), none] [] M := by
  refine RN_k (callX_det _) 2 _ _ _ _ (show R114 sl sx d M0 P 2 [some (vR (some l0)), some (vR l1), some (vI (0 : Int32))] [] M from ?_)
  obtain ⟨n2, h⟩ := h
  exact RN_weak (K := [some (vR (some l0)), some (vR l1), some (vI (0 : Int32))]) (callX_det _) (show _ ∧ _ ∧ _ ∧ True from ⟨rfl, rfl, rfl, trivial⟩) (t114_2  n2 l0 l1 (0 : Int32) _ hM h)
theorem c114 {sl : Nat} {sx : Nat → Int32} {d : Nat} {l0 : Nat} {l1 : Option Nat} {M : MM} {P : Int32 → MM → Prop} (h : w114 l0 l1 M P) : callX TBg sl sx (d + 1) 114 [vR (some l0), vR l1] M (PI P) :=
  cX (d := d + 0) q114 (false, tb114) rfl rfl rfl (t114_E l0 l1 M lenR h)
-- TwoLeash.criticals(III)I
abbrev q112 : MQ7 := (4, 1, 4, 9, 0, 0, 1)
abbrev R112 (sl : Nat) (sx : Nat → Int32) (d : Nat) (M0 : MM) (P : Int32 → MM → Prop) : Nat → LL → List VV → MM → Prop := RN 9 false (mS M0).length (mT M0) 0 0 sl sx (callX TBg sl sx (d + 5)) (rtW q112 M0 (PI P)) (as2 tb112)
def w112_21 (l0 : Nat) (l1 : Int32) (l2 : Int32) (l3 : Int32) (s0 : Option Nat) (s1 : Option Nat) (s2 : Int32) (M : MM) (P : Int32 → MM → Prop) : Prop := ∃ a1, s1 = some a1 ∧ (kd M a1 9 ∧ w62 a1 s2 l1 l2 M (fun r3 M2 => ∃ a4, s0 = some a4 ∧ (kd M2 a4 9 ∧ (kd (sI M2 a4 10 r3) l0 9 ∧ (((mI (sI M2 a4 10 r3) l0 10) = 0 → ((l3 ≠ (-1 : Int32) → (kd (sI M2 a4 10 r3) l0 9 ∧ (kd (sI M2 a4 10 r3) l0 9 ∧ (∃ a5, mR (sI M2 a4 10 r3) l0 5 = some a5 ∧ (inb (sI M2 a4 10 r3) a5 16 l1 ∧ (kd (sI M2 a4 10 r3) l0 9 ∧ (∃ a6, mR (sI M2 a4 10 r3) l0 5 = some a6 ∧ (inb (sI M2 a4 10 r3) a6 16 l2 ∧ (kd (sI M2 a4 10 r3) l0 9 ∧ (∃ a7, mR (sI M2 a4 10 r3) l0 15 = some a7 ∧ (kd (sI M2 a4 10 r3) a7 5 ∧ w106 a7 (mR (sI M2 a4 10 r3) a5 l1.toNatClampNeg) (mR (sI M2 a4 10 r3) a6 l2.toNatClampNeg) l3 (mR (sI M2 a4 10 r3) l0 12) (sI M2 a4 10 r3) (fun M8 => kd M8 l0 9 ∧ w113 l0 l1 l2 M8 (fun r10 M9 => kd M9 l0 9 ∧ (∃ a11, r10 = some a11 ∧ (kd M9 a11 2 ∧ w114 a11 (mR M9 l0 12) M9 (fun r13 M12 => kd M12 l0 9 ∧ w35 l0 r13 M12 (fun r15 M14 => P r15 M14))))))))))))))))) ∧ (¬ (l3 ≠ (-1 : Int32)) → (kd (sI M2 a4 10 r3) l0 9 ∧ w113 l0 l1 l2 (sI M2 a4 10 r3) (fun r17 M16 => ∃ a18, r17 = some a18 ∧ (kd M16 a18 2 ∧ (kd M16 l0 9 ∧ w35 l0 (mI M16 a18 2) M16 (fun r20 M19 => P r20 M19)))))))) ∧ (¬ ((mI (sI M2 a4 10 r3) l0 10) = 0) → (P (-1 : Int32) (sI M2 a4 10 r3))))))))
theorem t112_21 {sl : Nat} {sx : Nat → Int32} {d : Nat} {M0 : MM} {P : Int32 → MM → Prop} (l0 : Nat) (l1 : Int32) (l2 : Int32) (l3 : Int32) (s0 : Option Nat) (s1 : Option Nat) (s2 : Int32) (M : MM) (hM : lenO M0 M) (h : w112_21  l0 l1 l2 l3 s0 s1 s2 M P) : R112 sl sx d M0 P 21 [some (vR (some l0)), some (vI l1), some (vI l2), some (vI l3)] [vI s2, vR s1, vR s0] M := by
  obtain ⟨a1, he, h⟩ := h
  refine RN_k (callX_det _) 2 _ _ _ _ (show R112 sl sx d M0 P 23 [some (vR (some l0)), some (vI l1), some (vI l2), some (vI l3)] [vI l2, vI l1, vI s2, vR s1, vR s0] M from ?_)
  subst he
  refine RN_k (callX_det _) 1 _ _ _ _ (show kd M a1 9 ∧ callX TBg sl sx (d + 5) 62 [vR (some a1), vI s2, vI l1, vI l2] M (fun v M9 => R112 sl sx d M0 P 26 [some (vR (some l0)), some (vI l1), some (vI l2), some (vI l3)] (pushO v [vR s0]) M9) from ⟨h.1, ?_⟩)
  replace h := h.2
  refine callX_mono (callX_len (d := (d + 5)) rfl rfl rfl (c62 (d := d + 3) h)) ?_
  clear h
  rintro v9 M2 ⟨hl, r3, rfl, h⟩
  replace hM := lenT hM hl
  show R112 sl sx d M0 P 26 [some (vR (some l0)), some (vI l1), some (vI l2), some (vI l3)] [vI r3, vR s0] M2
  obtain ⟨a4, he, h⟩ := h
  subst he
  refine RN_k (callX_det _) 1 _ _ _ _ (show kd M2 a4 9 ∧ R112 sl sx d M0 P 29 [some (vR (some l0)), some (vI l1), some (vI l2), some (vI l3)] [] (sI M2 a4 10 r3) from ⟨h.1, ?_⟩)
  replace h := h.2
  refine RN_k (callX_det _) 2 _ _ _ _ (show kd (sI M2 a4 10 r3) l0 9 ∧ R112 sl sx d M0 P 33 [some (vR (some l0)), some (vI l1), some (vI l2), some (vI l3)] [vI (mI (sI M2 a4 10 r3) l0 10)] (sI M2 a4 10 r3) from ⟨h.1, ?_⟩)
  replace h := h.2
  refine RN_k (callX_det _) 1 _ _ _ _ (show ((mI (sI M2 a4 10 r3) l0 10) = 0 → R112 sl sx d M0 P 38 [some (vR (some l0)), some (vI l1), some (vI l2), some (vI l3)] [] (sI M2 a4 10 r3)) ∧ (¬ ((mI (sI M2 a4 10 r3) l0 10) = 0) → R112 sl sx d M0 P 36 [some (vR (some l0)), some (vI l1), some (vI l2), some (vI l3)] [] (sI M2 a4 10 r3)) from ⟨fun hc => ?_, fun hc => ?_⟩)
  · replace h := h.1 hc
    refine RN_k (callX_det _) 3 _ _ _ _ (show (l3 ≠ (-1 : Int32) → R112 sl sx d M0 P 57 [some (vR (some l0)), some (vI l1), some (vI l2), some (vI l3)] [] (sI M2 a4 10 r3)) ∧ (¬ (l3 ≠ (-1 : Int32)) → R112 sl sx d M0 P 43 [some (vR (some l0)), some (vI l1), some (vI l2), some (vI l3)] [] (sI M2 a4 10 r3)) from ⟨fun hc => ?_, fun hc => ?_⟩)
    · replace h := h.1 hc
      refine RN_k (callX_det _) 2 _ _ _ _ (show kd (sI M2 a4 10 r3) l0 9 ∧ R112 sl sx d M0 P 61 [some (vR (some l0)), some (vI l1), some (vI l2), some (vI l3)] [vR (mR (sI M2 a4 10 r3) l0 15)] (sI M2 a4 10 r3) from ⟨h.1, ?_⟩)
      replace h := h.2
      refine RN_k (callX_det _) 2 _ _ _ _ (show kd (sI M2 a4 10 r3) l0 9 ∧ R112 sl sx d M0 P 65 [some (vR (some l0)), some (vI l1), some (vI l2), some (vI l3)] [vR (mR (sI M2 a4 10 r3) l0 5), vR (mR (sI M2 a4 10 r3) l0 15)] (sI M2 a4 10 r3) from ⟨h.1, ?_⟩)
      replace h := h.2
      obtain ⟨a5, he, h⟩ := h
      refine RN_k (callX_det _) 1 _ _ _ _ (show R112 sl sx d M0 P 66 [some (vR (some l0)), some (vI l1), some (vI l2), some (vI l3)] [vI l1, vR (mR (sI M2 a4 10 r3) l0 5), vR (mR (sI M2 a4 10 r3) l0 15)] (sI M2 a4 10 r3) from ?_)
      rw [he]
      refine RN_k (callX_det _) 1 _ _ _ _ (show inb (sI M2 a4 10 r3) a5 16 l1 ∧ R112 sl sx d M0 P 67 [some (vR (some l0)), some (vI l1), some (vI l2), some (vI l3)] [vR (mR (sI M2 a4 10 r3) a5 l1.toNatClampNeg), vR (mR (sI M2 a4 10 r3) l0 15)] (sI M2 a4 10 r3) from ⟨h.1, ?_⟩)
      replace h := h.2
      refine RN_k (callX_det _) 2 _ _ _ _ (show kd (sI M2 a4 10 r3) l0 9 ∧ R112 sl sx d M0 P 71 [some (vR (some l0)), some (vI l1), some (vI l2), some (vI l3)] [vR (mR (sI M2 a4 10 r3) l0 5), vR (mR (sI M2 a4 10 r3) a5 l1.toNatClampNeg), vR (mR (sI M2 a4 10 r3) l0 15)] (sI M2 a4 10 r3) from ⟨h.1, ?_⟩)
      replace h := h.2
      obtain ⟨a6, he, h⟩ := h
      refine RN_k (callX_det _) 1 _ _ _ _ (show R112 sl sx d M0 P 72 [some (vR (some l0)), some (vI l1), some (vI l2), some (vI l3)] [vI l2, vR (mR (sI M2 a4 10 r3) l0 5), vR (mR (sI M2 a4 10 r3) a5 l1.toNatClampNeg), vR (mR (sI M2 a4 10 r3) l0 15)] (sI M2 a4 10 r3) from ?_)
      rw [he]
      refine RN_k (callX_det _) 1 _ _ _ _ (show inb (sI M2 a4 10 r3) a6 16 l2 ∧ R112 sl sx d M0 P 73 [some (vR (some l0)), some (vI l1), some (vI l2), some (vI l3)] [vR (mR (sI M2 a4 10 r3) a6 l2.toNatClampNeg), vR (mR (sI M2 a4 10 r3) a5 l1.toNatClampNeg), vR (mR (sI M2 a4 10 r3) l0 15)] (sI M2 a4 10 r3) from ⟨h.1, ?_⟩)
      replace h := h.2
      refine RN_k (callX_det _) 3 _ _ _ _ (show kd (sI M2 a4 10 r3) l0 9 ∧ R112 sl sx d M0 P 78 [some (vR (some l0)), some (vI l1), some (vI l2), some (vI l3)] [vR (mR (sI M2 a4 10 r3) l0 12), vI l3, vR (mR (sI M2 a4 10 r3) a6 l2.toNatClampNeg), vR (mR (sI M2 a4 10 r3) a5 l1.toNatClampNeg), vR (mR (sI M2 a4 10 r3) l0 15)] (sI M2 a4 10 r3) from ⟨h.1, ?_⟩)
      replace h := h.2
      obtain ⟨a7, he, h⟩ := h
      rw [he]
      refine RN_k (callX_det _) 1 _ _ _ _ (show kd (sI M2 a4 10 r3) a7 5 ∧ callX TBg sl sx (d + 5) 106 [vR (some a7), vR (mR (sI M2 a4 10 r3) a5 l1.toNatClampNeg), vR (mR (sI M2 a4 10 r3) a6 l2.toNatClampNeg), vI l3, vR (mR (sI M2 a4 10 r3) l0 12)] (sI M2 a4 10 r3) (fun v M9 => R112 sl sx d M0 P 81 [some (vR (some l0)), some (vI l1), some (vI l2), some (vI l3)] (pushO v []) M9) from ⟨h.1, ?_⟩)
      replace h := h.2
      refine callX_mono (callX_len (d := (d + 5)) rfl rfl rfl (c106 (d := d) h)) ?_
      clear h
      rintro v9 M8 ⟨hl, rfl, h⟩
      replace hM := lenT hM hl
      show R112 sl sx d M0 P 81 [some (vR (some l0)), some (vI l1), some (vI l2), some (vI l3)] [] M8
      refine RN_k (callX_det _) 5 _ _ _ _ (show kd M8 l0 9 ∧ callX TBg sl sx (d + 5) 113 [vR (some l0), vI l1, vI l2] M8 (fun v M9 => R112 sl sx d M0 P 88 [some (vR (some l0)), some (vI l1), some (vI l2), some (vI l3)] (pushO v [vR (some l0)]) M9) from ⟨h.1, ?_⟩)
      replace h := h.2
      refine callX_mono (callX_len (d := (d + 5)) rfl rfl rfl (c113 (d := d + 1) h)) ?_
      clear h
      rintro v9 M9 ⟨hl, r10, rfl, h⟩
      replace hM := lenT hM hl
      show R112 sl sx d M0 P 88 [some (vR (some l0)), some (vI l1), some (vI l2), some (vI l3)] [vR r10, vR (some l0)] M9
      refine RN_k (callX_det _) 2 _ _ _ _ (show kd M9 l0 9 ∧ R112 sl sx d M0 P 92 [some (vR (some l0)), some (vI l1), some (vI l2), some (vI l3)] [vR (mR M9 l0 12), vR r10, vR (some l0)] M9 from ⟨h.1, ?_⟩)
      replace h := h.2
      obtain ⟨a11, he, h⟩ := h
      subst he
      refine RN_k (callX_det _) 1 _ _ _ _ (show kd M9 a11 2 ∧ callX TBg sl sx (d + 5) 114 [vR (some a11), vR (mR M9 l0 12)] M9 (fun v M9 => R112 sl sx d M0 P 95 [some (vR (some l0)), some (vI l1), some (vI l2), some (vI l3)] (pushO v [vR (some l0)]) M9) from ⟨h.1, ?_⟩)
      replace h := h.2
      refine callX_mono (callX_len (d := (d + 5)) rfl rfl rfl (c114 (d := d + 4) h)) ?_
      clear h
      rintro v9 M12 ⟨hl, r13, rfl, h⟩
      replace hM := lenT hM hl
      show R112 sl sx d M0 P 95 [some (vR (some l0)), some (vI l1), some (vI l2), some (vI l3)] [vI r13, vR (some l0)] M12
      refine RN_k (callX_det _) 1 _ _ _ _ (show kd M12 l0 9 ∧ callX TBg sl sx (d + 5) 35 [vR (some l0), vI r13] M12 (fun v M9 => R112 sl sx d M0 P 98 [some (vR (some l0)), some (vI l1), some (vI l2), some (vI l3)] (pushO v []) M9) from ⟨h.1, ?_⟩)
      replace h := h.2
      refine callX_mono (callX_len (d := (d + 5)) rfl rfl rfl (c35 (d := d + 4) h)) ?_
      clear h
      rintro v9 M14 ⟨hl, r15, rfl, h⟩
      replace hM := lenT hM hl
      show R112 sl sx d M0 P 98 [some (vR (some l0)), some (vI l1), some (vI l2), some (vI l3)] [vI r15] M14
      exact RN_k (callX_det _) 1 _ _ _ _ (show rtW q112 M0 (PI P) (some (vI r15)) M14 from ⟨⟨_, rfl⟩, hM.1, hM.2, _, rfl, h⟩)
    · replace h := h.2 hc
      refine RN_k (callX_det _) 5 _ _ _ _ (show kd (sI M2 a4 10 r3) l0 9 ∧ callX TBg sl sx (d + 5) 113 [vR (some l0), vI l1, vI l2] (sI M2 a4 10 r3) (fun v M9 => R112 sl sx d M0 P 50 [some (vR (some l0)), some (vI l1), some (vI l2), some (vI l3)] (pushO v [vR (some l0)]) M9) from ⟨h.1, ?_⟩)
      replace h := h.2
      refine callX_mono (callX_len (d := (d + 5)) rfl rfl rfl (c113 (d := d + 1) h)) ?_
      clear h
      rintro v9 M16 ⟨hl, r17, rfl, h⟩
      replace hM := lenT hM hl
      show R112 sl sx d M0 P 50 [some (vR (some l0)), some (vI l1), some (vI l2), some (vI l3)] [vR r17, vR (some l0)] M16
      obtain ⟨a18, he, h⟩ := h
      subst he
      refine RN_k (callX_det _) 1 _ _ _ _ (show kd M16 a18 2 ∧ R112 sl sx d M0 P 53 [some (vR (some l0)), some (vI l1), some (vI l2), some (vI l3)] [vI (mI M16 a18 2), vR (some l0)] M16 from ⟨h.1, ?_⟩)
      replace h := h.2
      refine RN_k (callX_det _) 1 _ _ _ _ (show kd M16 l0 9 ∧ callX TBg sl sx (d + 5) 35 [vR (some l0), vI (mI M16 a18 2)] M16 (fun v M9 => R112 sl sx d M0 P 56 [some (vR (some l0)), some (vI l1), some (vI l2), some (vI l3)] (pushO v []) M9) from ⟨h.1, ?_⟩)
      replace h := h.2
      refine callX_mono (callX_len (d := (d + 5)) rfl rfl rfl (c35 (d := d + 4) h)) ?_
      clear h
      rintro v9 M19 ⟨hl, r20, rfl, h⟩
      replace hM := lenT hM hl
      show R112 sl sx d M0 P 56 [some (vR (some l0)), some (vI l1), some (vI l2), some (vI l3)] [vI r20] M19
      exact RN_k (callX_det _) 1 _ _ _ _ (show rtW q112 M0 (PI P) (some (vI r20)) M19 from ⟨⟨_, rfl⟩, hM.1, hM.2, _, rfl, h⟩)
  · replace h := h.2 hc
    exact RN_k (callX_det _) 2 _ _ _ _ (show rtW q112 M0 (PI P) (some (vI (-1 : Int32))) (sI M2 a4 10 r3) from ⟨⟨_, rfl⟩, hM.1, hM.2, _, rfl, h⟩)
def w112_16 (l0 : Nat) (l1 : Int32) (l2 : Int32) (l3 : Int32) (s0 : Option Nat) (s1 : Option Nat) (M : MM) (P : Int32 → MM → Prop) : Prop := w112_21  l0 l1 l2 l3 s0 s1 (1 : Int32) M P
theorem t112_16 {sl : Nat} {sx : Nat → Int32} {d : Nat} {M0 : MM} {P : Int32 → MM → Prop} (l0 : Nat) (l1 : Int32) (l2 : Int32) (l3 : Int32) (s0 : Option Nat) (s1 : Option Nat) (M : MM) (hM : lenO M0 M) (h : w112_16  l0 l1 l2 l3 s0 s1 M P) : R112 sl sx d M0 P 16 [some (vR (some l0)), some (vI l1), some (vI l2), some (vI l3)] [vR s1, vR s0] M := by
  refine RN_k (callX_det _) 2 _ _ _ _ (show R112 sl sx d M0 P 21 [some (vR (some l0)), some (vI l1), some (vI l2), some (vI l3)] [vI (1 : Int32), vR s1, vR s0] M from ?_)
  exact RN_weak (K := [some (vR (some l0)), some (vI l1), some (vI l2), some (vI l3)]) (callX_det _) (show _ ∧ _ ∧ _ ∧ _ ∧ True from ⟨rfl, rfl, rfl, rfl, trivial⟩) (t112_21  l0 l1 l2 l3 s0 s1 (1 : Int32) _ hM h)
def w112 (l0 : Nat) (l1 : Int32) (l2 : Int32) (l3 : Int32) (M : MM) (P : Int32 → MM → Prop) : Prop := (l3 = (-1 : Int32) → (w112_16  l0 l1 l2 l3 (some l0) (some l0) M P)) ∧ (¬ (l3 = (-1 : Int32)) → ((l3 = 0 → (w112_16  l0 l1 l2 l3 (some l0) (some l0) M P)) ∧ (¬ (l3 = 0) → ((l3 ≠ (1 : Int32) → (w112_21  l0 l1 l2 l3 (some l0) (some l0) (0 : Int32) M P)) ∧ (¬ (l3 ≠ (1 : Int32)) → (w112_16  l0 l1 l2 l3 (some l0) (some l0) M P))))))
theorem t112_E {sl : Nat} {sx : Nat → Int32} {d : Nat} {M0 : MM} {P : Int32 → MM → Prop} (l0 : Nat) (l1 : Int32) (l2 : Int32) (l3 : Int32) (M : MM) (hM : lenO M0 M) (h : w112  l0 l1 l2 l3 M P) : R112 sl sx d M0 P 0 [some (vR (some l0)), some (vI l1), some (vI l2), some (vI l3)] [] M := by
  refine RN_k (callX_det _) 5 _ _ _ _ (show (l3 = (-1 : Int32) → R112 sl sx d M0 P 16 [some (vR (some l0)), some (vI l1), some (vI l2), some (vI l3)] [vR (some l0), vR (some l0)] M) ∧ (¬ (l3 = (-1 : Int32)) → R112 sl sx d M0 P 7 [some (vR (some l0)), some (vI l1), some (vI l2), some (vI l3)] [vR (some l0), vR (some l0)] M) from ⟨fun hc => ?_, fun hc => ?_⟩)
  · replace h := h.1 hc
    exact RN_weak (K := [some (vR (some l0)), some (vI l1), some (vI l2), some (vI l3)]) (callX_det _) (show _ ∧ _ ∧ _ ∧ _ ∧ True from ⟨rfl, rfl, rfl, rfl, trivial⟩) (t112_16  l0 l1 l2 l3 (some l0) (some l0) _ hM h)
  · replace h := h.2 hc
    refine RN_k (callX_det _) 2 _ _ _ _ (show (l3 = 0 → R112 sl sx d M0 P 16 [some (vR (some l0)), some (vI l1), some (vI l2), some (vI l3)] [vR (some l0), vR (some l0)] M) ∧ (¬ (l3 = 0) → R112 sl sx d M0 P 11 [some (vR (some l0)), some (vI l1), some (vI l2), some (vI l3)] [vR (some l0), vR (some l0)] M) from ⟨fun hc => ?_, fun hc => ?_⟩)
    · replace h := h.1 hc
      exact RN_weak (K := [some (vR (some l0)), some (vI l1), some (vI l2), some (vI l3)]) (callX_det _) (show _ ∧ _ ∧ _ ∧ _ ∧ True from ⟨rfl, rfl, rfl, rfl, trivial⟩) (t112_16  l0 l1 l2 l3 (some l0) (some l0) _ hM h)
    · replace h := h.2 hc
      refine RN_k (callX_det _) 3 _ _ _ _ (show (l3 ≠ (1 : Int32) → R112 sl sx d M0 P 20 [some (vR (some l0)), some (vI l1), some (vI l2), some (vI l3)] [vR (some l0), vR (some l0)] M) ∧ (¬ (l3 ≠ (1 : Int32)) → R112 sl sx d M0 P 16 [some (vR (some l0)), some (vI l1), some (vI l2), some (vI l3)] [vR (some l0), vR (some l0)] M) from ⟨fun hc => ?_, fun hc => ?_⟩)
      · replace h := h.1 hc
        refine RN_k (callX_det _) 1 _ _ _ _ (show R112 sl sx d M0 P 21 [some (vR (some l0)), some (vI l1), some (vI l2), some (vI l3)] [vI (0 : Int32), vR (some l0), vR (some l0)] M from ?_)
        exact RN_weak (K := [some (vR (some l0)), some (vI l1), some (vI l2), some (vI l3)]) (callX_det _) (show _ ∧ _ ∧ _ ∧ _ ∧ True from ⟨rfl, rfl, rfl, rfl, trivial⟩) (t112_21  l0 l1 l2 l3 (some l0) (some l0) (0 : Int32) _ hM h)
      · replace h := h.2 hc
        exact RN_weak (K := [some (vR (some l0)), some (vI l1), some (vI l2), some (vI l3)]) (callX_det _) (show _ ∧ _ ∧ _ ∧ _ ∧ True from ⟨rfl, rfl, rfl, rfl, trivial⟩) (t112_16  l0 l1 l2 l3 (some l0) (some l0) _ hM h)
theorem c112 {sl : Nat} {sx : Nat → Int32} {d : Nat} {l0 : Nat} {l1 : Int32} {l2 : Int32} {l3 : Int32} {M : MM} {P : Int32 → MM → Prop} (h : w112 l0 l1 l2 l3 M P) : callX TBg sl sx (d + 6) 112 [vR (some l0), vI l1, vI l2, vI l3] M (PI P) :=
  cX (d := d + 5) q112 (false, tb112) rfl rfl rfl (t112_E l0 l1 l2 l3 M lenR h)
-- TwoLeash.critical(III)Z
abbrev q115 : MQ7 := (4, 1, 5, 9, 0, 0, 4)
abbrev R115 (sl : Nat) (sx : Nat → Int32) (d : Nat) (M0 : MM) (P : Int32 → MM → Prop) : Nat → LL → List VV → MM → Prop := RN 9 false (mS M0).length (mT M0) 0 0 sl sx (callX TBg sl sx (d + 4)) (rtW q115 M0 (PI P)) (as2 tb115)
def w115_11 (l0 : Nat) (l1 : Int32) (l2 : Int32) (l3 : Int32) (s0 : Option Nat) (s1 : Option Nat) (s2 : Int32) (M : MM) (P : Int32 → MM → Prop) : Prop := ∃ a1, s1 = some a1 ∧ (kd M a1 9 ∧ w62 a1 s2 l1 l2 M (fun r3 M2 => ∃ a4, s0 = some a4 ∧ (kd M2 a4 9 ∧ (kd (sI M2 a4 10 r3) l0 9 ∧ (((mI (sI M2 a4 10 r3) l0 10) = 0 → (kd (sI M2 a4 10 r3) l0 9 ∧ w113 l0 l1 l2 (sI M2 a4 10 r3) (fun r6 M5 => ∃ a7, r6 = some a7 ∧ (kd M5 a7 2 ∧ ((l3 < (mI M5 a7 2) → (kd M5 l0 9 ∧ (kd M5 a7 2 ∧ (∃ a8, mR M5 a7 0 = some a8 ∧ (inb M5 a8 12 l3 ∧ (kd M5 a7 2 ∧ (∃ a9, mR M5 a7 1 = some a9 ∧ (inb M5 a9 12 l3 ∧ (∃ a10, mR M5 l0 12 = some a10 ∧ (kd M5 a10 3 ∧ w54 a10 (mL M5 a8 l3.toNatClampNeg) (mL M5 a9 l3.toNatClampNeg) M5 (fun M11 => kd M11 l0 9 ∧ (kd M11 l0 9 ∧ w55 l0 (mR M11 l0 12) M11 (fun r13 M12 => (r13 = 0 ∨ r13 = 1) ∧ P r13 M12))))))))))))) ∧ (¬ (l3 < (mI M5 a7 2)) → (kd M5 l0 9 ∧ w48 l0 (5 : Int32) M5 (fun r15 M14 => (r15 = 0 ∨ r15 = 1) ∧ P r15 M14)))))))) ∧ (¬ ((mI (sI M2 a4 10 r3) l0 10) = 0) → (P (0 : Int32) (sI M2 a4 10 r3))))))))
theorem t115_11 {sl : Nat} {sx : Nat → Int32} {d : Nat} {M0 : MM} {P : Int32 → MM → Prop} (l0 : Nat) (l1 : Int32) (l2 : Int32) (l3 : Int32) (s0 : Option Nat) (s1 : Option Nat) (s2 : Int32) (M : MM) (hM : lenO M0 M) (h : w115_11  l0 l1 l2 l3 s0 s1 s2 M P) : R115 sl sx d M0 P 11 [some (vR (some l0)), some (vI l1), some (vI l2), some (vI l3), none] [vI s2, vR s1, vR s0] M := by
  obtain ⟨a1, he, h⟩ := h
  refine RN_k (callX_det _) 2 _ _ _ _ (show R115 sl sx d M0 P 13 [some (vR (some l0)), some (vI l1), some (vI l2), some (vI l3), none] [vI l2, vI l1, vI s2, vR s1, vR s0] M from ?_)
  subst he
  refine RN_k (callX_det _) 1 _ _ _ _ (show kd M a1 9 ∧ callX TBg sl sx (d + 4) 62 [vR (some a1), vI s2, vI l1, vI l2] M (fun v M9 => R115 sl sx d M0 P 16 [some (vR (some l0)), some (vI l1), some (vI l2), some (vI l3), none] (pushO v [vR s0]) M9) from ⟨h.1, ?_⟩)
  replace h := h.2
  refine callX_mono (callX_len (d := (d + 4)) rfl rfl rfl (c62 (d := d + 2) h)) ?_
  clear h
  rintro v9 M2 ⟨hl, r3, rfl, h⟩
  replace hM := lenT hM hl
  show R115 sl sx d M0 P 16 [some (vR (some l0)), some (vI l1), some (vI l2), some (vI l3), none] [vI r3, vR s0] M2
  obtain ⟨a4, he, h⟩ := h
  subst he
  refine RN_k (callX_det _) 1 _ _ _ _ (show kd M2 a4 9 ∧ R115 sl sx d M0 P 19 [some (vR (some l0)), some (vI l1), some (vI l2), some (vI l3), none] [] (sI M2 a4 10 r3) from ⟨h.1, ?_⟩)
  replace h := h.2
  refine RN_k (callX_det _) 2 _ _ _ _ (show kd (sI M2 a4 10 r3) l0 9 ∧ R115 sl sx d M0 P 23 [some (vR (some l0)), some (vI l1), some (vI l2), some (vI l3), none] [vI (mI (sI M2 a4 10 r3) l0 10)] (sI M2 a4 10 r3) from ⟨h.1, ?_⟩)
  replace h := h.2
  refine RN_k (callX_det _) 1 _ _ _ _ (show ((mI (sI M2 a4 10 r3) l0 10) = 0 → R115 sl sx d M0 P 28 [some (vR (some l0)), some (vI l1), some (vI l2), some (vI l3), none] [] (sI M2 a4 10 r3)) ∧ (¬ ((mI (sI M2 a4 10 r3) l0 10) = 0) → R115 sl sx d M0 P 26 [some (vR (some l0)), some (vI l1), some (vI l2), some (vI l3), none] [] (sI M2 a4 10 r3)) from ⟨fun hc => ?_, fun hc => ?_⟩)
  · replace h := h.1 hc
    refine RN_k (callX_det _) 4 _ _ _ _ (show kd (sI M2 a4 10 r3) l0 9 ∧ callX TBg sl sx (d + 4) 113 [vR (some l0), vI l1, vI l2] (sI M2 a4 10 r3) (fun v M9 => R115 sl sx d M0 P 34 [some (vR (some l0)), some (vI l1), some (vI l2), some (vI l3), none] (pushO v []) M9) from ⟨h.1, ?_⟩)
    replace h := h.2
    refine callX_mono (callX_len (d := (d + 4)) rfl rfl rfl (c113 (d := d) h)) ?_
    clear h
    rintro v9 M5 ⟨hl, r6, rfl, h⟩
    replace hM := lenT hM hl
    show R115 sl sx d M0 P 34 [some (vR (some l0)), some (vI l1), some (vI l2), some (vI l3), none] [vR r6] M5
    obtain ⟨a7, he, h⟩ := h
    refine RN_k (callX_det _) 3 _ _ _ _ (show R115 sl sx d M0 P 39 [some (vR (some l0)), some (vI l1), some (vI l2), some (vI l3), some (vR r6)] [vR r6, vI l3] M5 from ?_)
    subst he
    refine RN_k (callX_det _) 1 _ _ _ _ (show kd M5 a7 2 ∧ R115 sl sx d M0 P 42 [some (vR (some l0)), some (vI l1), some (vI l2), some (vI l3), some (vR (some a7))] [vI (mI M5 a7 2), vI l3] M5 from ⟨h.1, ?_⟩)
    replace h := h.2
    refine RN_k (callX_det _) 1 _ _ _ _ (show (l3 < (mI M5 a7 2) → R115 sl sx d M0 P 51 [some (vR (some l0)), some (vI l1), some (vI l2), some (vI l3), some (vR (some a7))] [] M5) ∧ (¬ (l3 < (mI M5 a7 2)) → R115 sl sx d M0 P 45 [some (vR (some l0)), some (vI l1), some (vI l2), some (vI l3), some (vR (some a7))] [] M5) from ⟨fun hc => ?_, fun hc => ?_⟩)
    · replace h := h.1 hc
      refine RN_k (callX_det _) 2 _ _ _ _ (show kd M5 l0 9 ∧ R115 sl sx d M0 P 55 [some (vR (some l0)), some (vI l1), some (vI l2), some (vI l3), some (vR (some a7))] [vR (mR M5 l0 12)] M5 from ⟨h.1, ?_⟩)
      replace h := h.2
      refine RN_k (callX_det _) 2 _ _ _ _ (show kd M5 a7 2 ∧ R115 sl sx d M0 P 60 [some (vR (some l0)), some (vI l1), some (vI l2), some (vI l3), some (vR (some a7))] [vR (mR M5 a7 0), vR (mR M5 l0 12)] M5 from ⟨h.1, ?_⟩)
      replace h := h.2
      obtain ⟨a8, he, h⟩ := h
      refine RN_k (callX_det _) 1 _ _ _ _ (show R115 sl sx d M0 P 61 [some (vR (some l0)), some (vI l1), some (vI l2), some (vI l3), some (vR (some a7))] [vI l3, vR (mR M5 a7 0), vR (mR M5 l0 12)] M5 from ?_)
      rw [he]
      refine RN_k (callX_det _) 1 _ _ _ _ (show inb M5 a8 12 l3 ∧ R115 sl sx d M0 P 62 [some (vR (some l0)), some (vI l1), some (vI l2), some (vI l3), some (vR (some a7))] [vL (mL M5 a8 l3.toNatClampNeg), vR (mR M5 l0 12)] M5 from ⟨h.1, ?_⟩)
      replace h := h.2
      refine RN_k (callX_det _) 2 _ _ _ _ (show kd M5 a7 2 ∧ R115 sl sx d M0 P 67 [some (vR (some l0)), some (vI l1), some (vI l2), some (vI l3), some (vR (some a7))] [vR (mR M5 a7 1), vL (mL M5 a8 l3.toNatClampNeg), vR (mR M5 l0 12)] M5 from ⟨h.1, ?_⟩)
      replace h := h.2
      obtain ⟨a9, he, h⟩ := h
      refine RN_k (callX_det _) 1 _ _ _ _ (show R115 sl sx d M0 P 68 [some (vR (some l0)), some (vI l1), some (vI l2), some (vI l3), some (vR (some a7))] [vI l3, vR (mR M5 a7 1), vL (mL M5 a8 l3.toNatClampNeg), vR (mR M5 l0 12)] M5 from ?_)
      rw [he]
      refine RN_k (callX_det _) 1 _ _ _ _ (show inb M5 a9 12 l3 ∧ R115 sl sx d M0 P 69 [some (vR (some l0)), some (vI l1), some (vI l2), some (vI l3), some (vR (some a7))] [vL (mL M5 a9 l3.toNatClampNeg), vL (mL M5 a8 l3.toNatClampNeg), vR (mR M5 l0 12)] M5 from ⟨h.1, ?_⟩)
      replace h := h.2
      obtain ⟨a10, he, h⟩ := h
      rw [he]
      refine RN_k (callX_det _) 1 _ _ _ _ (show kd M5 a10 3 ∧ callX TBg sl sx (d + 4) 54 [vR (some a10), vL (mL M5 a8 l3.toNatClampNeg), vL (mL M5 a9 l3.toNatClampNeg)] M5 (fun v M9 => R115 sl sx d M0 P 72 [some (vR (some l0)), some (vI l1), some (vI l2), some (vI l3), some (vR (some a7))] (pushO v []) M9) from ⟨h.1, ?_⟩)
      replace h := h.2
      refine callX_mono (callX_len (d := (d + 4)) rfl rfl rfl (c54 (d := d + 3) h)) ?_
      clear h
      rintro v9 M11 ⟨hl, rfl, h⟩
      replace hM := lenT hM hl
      show R115 sl sx d M0 P 72 [some (vR (some l0)), some (vI l1), some (vI l2), some (vI l3), some (vR (some a7))] [] M11
      refine RN_k (callX_det _) 3 _ _ _ _ (show kd M11 l0 9 ∧ R115 sl sx d M0 P 77 [some (vR (some l0)), some (vI l1), some (vI l2), some (vI l3), some (vR (some a7))] [vR (mR M11 l0 12), vR (some l0)] M11 from ⟨h.1, ?_⟩)
      replace h := h.2
      refine RN_k (callX_det _) 1 _ _ _ _ (show kd M11 l0 9 ∧ callX TBg sl sx (d + 4) 55 [vR (some l0), vR (mR M11 l0 12)] M11 (fun v M9 => R115 sl sx d M0 P 80 [some (vR (some l0)), some (vI l1), some (vI l2), some (vI l3), some (vR (some a7))] (pushO v []) M9) from ⟨h.1, ?_⟩)
      replace h := h.2
      refine callX_mono (callX_len (d := (d + 4)) rfl rfl rfl (c55 (d := d + 2) h)) ?_
      clear h
      rintro v9 M12 ⟨hl, r13, rfl, h⟩
      replace hM := lenT hM hl
      show R115 sl sx d M0 P 80 [some (vR (some l0)), some (vI l1), some (vI l2), some (vI l3), some (vR (some a7))] [vI r13] M12
      exact RN_k (callX_det _) 1 _ _ _ _ (show rtW q115 M0 (PI P) (some (vI r13)) M12 from ⟨⟨_, rfl, h.1⟩, hM.1, hM.2, _, rfl, h.2⟩)
    · replace h := h.2 hc
      refine RN_k (callX_det _) 3 _ _ _ _ (show kd M5 l0 9 ∧ callX TBg sl sx (d + 4) 48 [vR (some l0), vI (5 : Int32)] M5 (fun v M9 => R115 sl sx d M0 P 50 [some (vR (some l0)), some (vI l1), some (vI l2), some (vI l3), some (vR (some a7))] (pushO v []) M9) from ⟨h.1, ?_⟩)
      replace h := h.2
      refine callX_mono (callX_len (d := (d + 4)) rfl rfl rfl (c48 (d := d + 3) h)) ?_
      clear h
      rintro v9 M14 ⟨hl, r15, rfl, h⟩
      replace hM := lenT hM hl
      show R115 sl sx d M0 P 50 [some (vR (some l0)), some (vI l1), some (vI l2), some (vI l3), some (vR (some a7))] [vI r15] M14
      exact RN_k (callX_det _) 1 _ _ _ _ (show rtW q115 M0 (PI P) (some (vI r15)) M14 from ⟨⟨_, rfl, h.1⟩, hM.1, hM.2, _, rfl, h.2⟩)
  · replace h := h.2 hc
    exact RN_k (callX_det _) 2 _ _ _ _ (show rtW q115 M0 (PI P) (some (vI (0 : Int32))) (sI M2 a4 10 r3) from ⟨⟨_, rfl, Or.inl rfl⟩, hM.1, hM.2, _, rfl, h⟩)
def w115 (l0 : Nat) (l1 : Int32) (l2 : Int32) (l3 : Int32) (M : MM) (P : Int32 → MM → Prop) : Prop := (l3 < 0 → (w115_11  l0 l1 l2 l3 (some l0) (some l0) (0 : Int32) M P)) ∧ (¬ (l3 < 0) → (w115_11  l0 l1 l2 l3 (some l0) (some l0) (1 : Int32) M P))
theorem t115_E {sl : Nat} {sx : Nat → Int32} {d : Nat} {M0 : MM} {P : Int32 → MM → Prop} (l0 : Nat) (l1 : Int32) (l2 : Int32) (l3 : Int32) (M : MM) (hM : lenO M0 M) (h : w115  l0 l1 l2 l3 M P) : R115 sl sx d M0 P 0 [some (vR (some l0)), some (vI l1), some (vI l2), some (vI l3), none] [] M := by
  refine RN_k (callX_det _) 4 _ _ _ _ (show (l3 < 0 → R115 sl sx d M0 P 10 [some (vR (some l0)), some (vI l1), some (vI l2), some (vI l3), none] [vR (some l0), vR (some l0)] M) ∧ (¬ (l3 < 0) → R115 sl sx d M0 P 6 [some (vR (some l0)), some (vI l1), some (vI l2), some (vI l3), none] [vR (some l0), vR (some l0)] M) from ⟨fun hc => ?_, fun hc => ?_⟩)
  · replace h := h.1 hc
    refine RN_k (callX_det _) 1 _ _ _ _ (show R115 sl sx d M0 P 11 [some (vR (some l0)), some (vI l1), some (vI l2), some (vI l3), none] [vI (0 : Int32), vR (some l0), vR (some l0)] M from ?_)
    exact RN_weak (K := [some (vR (some l0)), some (vI l1), some (vI l2), some (vI l3), none]) (callX_det _) (show _ ∧ _ ∧ _ ∧ _ ∧ True from ⟨rfl, rfl, rfl, rfl, trivial⟩) (t115_11  l0 l1 l2 l3 (some l0) (some l0) (0 : Int32) _ hM h)
  · replace h := h.2 hc
    refine RN_k (callX_det _) 2 _ _ _ _ (show R115 sl sx d M0 P 11 [some (vR (some l0)), some (vI l1), some (vI l2), some (vI l3), none] [vI (1 : Int32), vR (some l0), vR (some l0)] M from ?_)
    exact RN_weak (K := [some (vR (some l0)), some (vI l1), some (vI l2), some (vI l3), none]) (callX_det _) (show _ ∧ _ ∧ _ ∧ _ ∧ True from ⟨rfl, rfl, rfl, rfl, trivial⟩) (t115_11  l0 l1 l2 l3 (some l0) (some l0) (1 : Int32) _ hM h)
theorem c115 {sl : Nat} {sx : Nat → Int32} {d : Nat} {l0 : Nat} {l1 : Int32} {l2 : Int32} {l3 : Int32} {M : MM} {P : Int32 → MM → Prop} (h : w115 l0 l1 l2 l3 M P) : callX TBg sl sx (d + 5) 115 [vR (some l0), vI l1, vI l2, vI l3] M (PI P) :=
  cX (d := d + 4) q115 (false, tb115) rfl rfl rfl (t115_E l0 l1 l2 l3 M lenR h)
-- TwoLeash$Cells.trace()V
abbrev q117 : MQ7 := (1, 1, 6, 1, 0, 0, 0)
abbrev R117 (sl : Nat) (sx : Nat → Int32) (d : Nat) (M0 : MM) (P : MM → Prop) : Nat → LL → List VV → MM → Prop := RN 1 false (mS M0).length (mT M0) 0 0 sl sx (callX TBg sl sx (d + 1)) (rtW q117 M0 (PV P)) (as2 tb117)
def w117_180 (M : MM) (P : MM → Prop) : Prop := P M
theorem t117_180 {sl : Nat} {sx : Nat → Int32} {d : Nat} {M0 : MM} {P : MM → Prop}  (M : MM) (hM : lenO M0 M) (h : w117_180   M P) : R117 sl sx d M0 P 180 [none, none, none, none, none, none] [] M := by
  exact RN_k (callX_det _) 1 _ _ _ _ (show rtW q117 M0 (PV P) none M from ⟨rfl, hM.1, hM.2, rfl, h⟩)
def w117_176 (k21 : Nat → Int32 → Int32 → Int32 → MM → Prop) (l0 : Nat) (l1 : Int32) (l2 : Int32) (s0 : Int32) (M : MM) (P : MM → Prop) : Prop := k21 l0 l1 l2 s0 M
theorem t117_176 {sl : Nat} {sx : Nat → Int32} {d : Nat} {M0 : MM} {P : MM → Prop} {k21 : Nat → Int32 → Int32 → Int32 → MM → Prop} (hk21 : ∀ (l0 : Nat) (l1 : Int32) (l2 : Int32) (l3 : Int32) (M : MM), lenO M0 M → k21 l0 l1 l2 l3 M → R117 sl sx d M0 P 21 [some (vR (some l0)), some (vI l1), some (vI l2), some (vI l3), none, none] [] M) (l0 : Nat) (l1 : Int32) (l2 : Int32) (s0 : Int32) (M : MM) (hM : lenO M0 M) (h : w117_176 k21 l0 l1 l2 s0 M P) : R117 sl sx d M0 P 176 [some (vR (some l0)), some (vI l1), some (vI l2), none, none, none] [vI s0] M := by
  refine RN_k (callX_det _) 2 _ _ _ _ (show R117 sl sx d M0 P 21 [some (vR (some l0)), some (vI l1), some (vI l2), some (vI s0), none, none] [] M from ?_)
  exact RN_weak (K := [some (vR (some l0)), some (vI l1), some (vI l2), some (vI s0), none, none]) (callX_det _) (show _ ∧ _ ∧ _ ∧ _ ∧ True from ⟨rfl, rfl, rfl, rfl, trivial⟩) (hk21 l0 l1 l2 s0 _ hM h)
def w117_165 (k21 : Nat → Int32 → Int32 → Int32 → MM → Prop) (l0 : Nat) (l1 : Int32) (l5 : Int32) (s0 : Int32) (M : MM) (P : MM → Prop) : Prop := (l5 ≠ 0 → (w117_176 k21 l0 l1 s0 (0 : Int32) M P)) ∧ (¬ (l5 ≠ 0) → (w117_176 k21 l0 l1 s0 (1 : Int32) M P))
theorem t117_165 {sl : Nat} {sx : Nat → Int32} {d : Nat} {M0 : MM} {P : MM → Prop} {k21 : Nat → Int32 → Int32 → Int32 → MM → Prop} (hk21 : ∀ (l0 : Nat) (l1 : Int32) (l2 : Int32) (l3 : Int32) (M : MM), lenO M0 M → k21 l0 l1 l2 l3 M → R117 sl sx d M0 P 21 [some (vR (some l0)), some (vI l1), some (vI l2), some (vI l3), none, none] [] M) (l0 : Nat) (l1 : Int32) (l5 : Int32) (s0 : Int32) (M : MM) (hM : lenO M0 M) (h : w117_165 k21 l0 l1 l5 s0 M P) : R117 sl sx d M0 P 165 [some (vR (some l0)), some (vI l1), none, none, none, some (vI l5)] [vI s0] M := by
  refine RN_k (callX_det _) 3 _ _ _ _ (show (l5 ≠ 0 → R117 sl sx d M0 P 175 [some (vR (some l0)), some (vI l1), some (vI s0), none, none, some (vI l5)] [] M) ∧ (¬ (l5 ≠ 0) → R117 sl sx d M0 P 171 [some (vR (some l0)), some (vI l1), some (vI s0), none, none, some (vI l5)] [] M) from ⟨fun hc => ?_, fun hc => ?_⟩)
  · replace h := h.1 hc
    refine RN_k (callX_det _) 1 _ _ _ _ (show R117 sl sx d M0 P 176 [some (vR (some l0)), some (vI l1), some (vI s0), none, none, some (vI l5)] [vI (0 : Int32)] M from ?_)
    exact RN_weak (K := [some (vR (some l0)), some (vI l1), some (vI s0), none, none, none]) (callX_det _) (show _ ∧ _ ∧ _ ∧ True from ⟨rfl, rfl, rfl, trivial⟩) (t117_176 hk21 l0 l1 s0 (0 : Int32) _ hM h)
  · replace h := h.2 hc
    refine RN_k (callX_det _) 2 _ _ _ _ (show R117 sl sx d M0 P 176 [some (vR (some l0)), some (vI l1), some (vI s0), none, none, some (vI l5)] [vI (1 : Int32)] M from ?_)
    exact RN_weak (K := [some (vR (some l0)), some (vI l1), some (vI s0), none, none, none]) (callX_det _) (show _ ∧ _ ∧ _ ∧ True from ⟨rfl, rfl, rfl, trivial⟩) (t117_176 hk21 l0 l1 s0 (1 : Int32) _ hM h)
def w117_152 (k21 : Nat → Int32 → Int32 → Int32 → MM → Prop) (l0 : Nat) (l2 : Int32) (l5 : Int32) (s0 : Int32) (M : MM) (P : MM → Prop) : Prop := (l5 = 0 → (w117_165 k21 l0 s0 l5 (l2 - (1 : Int32)) M P)) ∧ (¬ (l5 = 0) → (w117_165 k21 l0 s0 l5 l2 M P))
theorem t117_152 {sl : Nat} {sx : Nat → Int32} {d : Nat} {M0 : MM} {P : MM → Prop} {k21 : Nat → Int32 → Int32 → Int32 → MM → Prop} (hk21 : ∀ (l0 : Nat) (l1 : Int32) (l2 : Int32) (l3 : Int32) (M : MM), lenO M0 M → k21 l0 l1 l2 l3 M → R117 sl sx d M0 P 21 [some (vR (some l0)), some (vI l1), some (vI l2), some (vI l3), none, none] [] M) (l0 : Nat) (l2 : Int32) (l5 : Int32) (s0 : Int32) (M : MM) (hM : lenO M0 M) (h : w117_152 k21 l0 l2 l5 s0 M P) : R117 sl sx d M0 P 152 [some (vR (some l0)), none, some (vI l2), none, none, some (vI l5)] [vI s0] M := by
  refine RN_k (callX_det _) 3 _ _ _ _ (show (l5 = 0 → R117 sl sx d M0 P 162 [some (vR (some l0)), some (vI s0), some (vI l2), none, none, some (vI l5)] [] M) ∧ (¬ (l5 = 0) → R117 sl sx d M0 P 158 [some (vR (some l0)), some (vI s0), some (vI l2), none, none, some (vI l5)] [] M) from ⟨fun hc => ?_, fun hc => ?_⟩)
  · replace h := h.1 hc
    refine RN_k (callX_det _) 3 _ _ _ _ (show R117 sl sx d M0 P 165 [some (vR (some l0)), some (vI s0), some (vI l2), none, none, some (vI l5)] [vI (l2 - (1 : Int32))] M from ?_)
    exact RN_weak (K := [some (vR (some l0)), some (vI s0), none, none, none, some (vI l5)]) (callX_det _) (show _ ∧ _ ∧ _ ∧ True from ⟨rfl, rfl, rfl, trivial⟩) (t117_165 hk21 l0 s0 l5 (l2 - (1 : Int32)) _ hM h)
  · replace h := h.2 hc
    refine RN_k (callX_det _) 2 _ _ _ _ (show R117 sl sx d M0 P 165 [some (vR (some l0)), some (vI s0), some (vI l2), none, none, some (vI l5)] [vI l2] M from ?_)
    exact RN_weak (K := [some (vR (some l0)), some (vI s0), none, none, none, some (vI l5)]) (callX_det _) (show _ ∧ _ ∧ _ ∧ True from ⟨rfl, rfl, rfl, trivial⟩) (t117_165 hk21 l0 s0 l5 l2 _ hM h)
def w117_138 (k21 : Nat → Int32 → Int32 → Int32 → MM → Prop) (l0 : Nat) (l1 : Int32) (l2 : Int32) (s0 : Int32) (M : MM) (P : MM → Prop) : Prop := (s0 = 0 → (w117_152 k21 l0 l2 s0 l1 M P)) ∧ (¬ (s0 = 0) → (w117_152 k21 l0 l2 s0 (l1 - (1 : Int32)) M P))
theorem t117_138 {sl : Nat} {sx : Nat → Int32} {d : Nat} {M0 : MM} {P : MM → Prop} {k21 : Nat → Int32 → Int32 → Int32 → MM → Prop} (hk21 : ∀ (l0 : Nat) (l1 : Int32) (l2 : Int32) (l3 : Int32) (M : MM), lenO M0 M → k21 l0 l1 l2 l3 M → R117 sl sx d M0 P 21 [some (vR (some l0)), some (vI l1), some (vI l2), some (vI l3), none, none] [] M) (l0 : Nat) (l1 : Int32) (l2 : Int32) (s0 : Int32) (M : MM) (hM : lenO M0 M) (h : w117_138 k21 l0 l1 l2 s0 M P) : R117 sl sx d M0 P 138 [some (vR (some l0)), some (vI l1), some (vI l2), none, none, none] [vI s0] M := by
  refine RN_k (callX_det _) 3 _ _ _ _ (show (s0 = 0 → R117 sl sx d M0 P 151 [some (vR (some l0)), some (vI l1), some (vI l2), none, none, some (vI s0)] [] M) ∧ (¬ (s0 = 0) → R117 sl sx d M0 P 145 [some (vR (some l0)), some (vI l1), some (vI l2), none, none, some (vI s0)] [] M) from ⟨fun hc => ?_, fun hc => ?_⟩)
  · replace h := h.1 hc
    refine RN_k (callX_det _) 1 _ _ _ _ (show R117 sl sx d M0 P 152 [some (vR (some l0)), some (vI l1), some (vI l2), none, none, some (vI s0)] [vI l1] M from ?_)
    exact RN_weak (K := [some (vR (some l0)), none, some (vI l2), none, none, some (vI s0)]) (callX_det _) (show _ ∧ _ ∧ _ ∧ True from ⟨rfl, rfl, rfl, trivial⟩) (t117_152 hk21 l0 l2 s0 l1 _ hM h)
  · replace h := h.2 hc
    refine RN_k (callX_det _) 4 _ _ _ _ (show R117 sl sx d M0 P 152 [some (vR (some l0)), some (vI l1), some (vI l2), none, none, some (vI s0)] [vI (l1 - (1 : Int32))] M from ?_)
    exact RN_weak (K := [some (vR (some l0)), none, some (vI l2), none, none, some (vI s0)]) (callX_det _) (show _ ∧ _ ∧ _ ∧ True from ⟨rfl, rfl, rfl, trivial⟩) (t117_152 hk21 l0 l2 s0 (l1 - (1 : Int32)) _ hM h)
def w117_137 (k21 : Nat → Int32 → Int32 → Int32 → MM → Prop) (l0 : Nat) (l1 : Int32) (l2 : Int32) (M : MM) (P : MM → Prop) : Prop := w117_138 k21 l0 l1 l2 (0 : Int32) M P
theorem t117_137 {sl : Nat} {sx : Nat → Int32} {d : Nat} {M0 : MM} {P : MM → Prop} {k21 : Nat → Int32 → Int32 → Int32 → MM → Prop} (hk21 : ∀ (l0 : Nat) (l1 : Int32) (l2 : Int32) (l3 : Int32) (M : MM), lenO M0 M → k21 l0 l1 l2 l3 M → R117 sl sx d M0 P 21 [some (vR (some l0)), some (vI l1), some (vI l2), some (vI l3), none, none] [] M) (l0 : Nat) (l1 : Int32) (l2 : Int32) (M : MM) (hM : lenO M0 M) (h : w117_137 k21 l0 l1 l2 M P) : R117 sl sx d M0 P 137 [some (vR (some l0)), some (vI l1), some (vI l2), none, none, none] [] M := by
  refine RN_k (callX_det _) 1 _ _ _ _ (show R117 sl sx d M0 P 138 [some (vR (some l0)), some (vI l1), some (vI l2), none, none, none] [vI (0 : Int32)] M from ?_)
  exact RN_weak (K := [some (vR (some l0)), some (vI l1), some (vI l2), none, none, none]) (callX_det _) (show _ ∧ _ ∧ _ ∧ True from ⟨rfl, rfl, rfl, trivial⟩) (t117_138 hk21 l0 l1 l2 (0 : Int32) _ hM h)
def w117_133 (k21 : Nat → Int32 → Int32 → Int32 → MM → Prop) (l0 : Nat) (l1 : Int32) (l2 : Int32) (M : MM) (P : MM → Prop) : Prop := w117_138 k21 l0 l1 l2 (1 : Int32) M P
theorem t117_133 {sl : Nat} {sx : Nat → Int32} {d : Nat} {M0 : MM} {P : MM → Prop} {k21 : Nat → Int32 → Int32 → Int32 → MM → Prop} (hk21 : ∀ (l0 : Nat) (l1 : Int32) (l2 : Int32) (l3 : Int32) (M : MM), lenO M0 M → k21 l0 l1 l2 l3 M → R117 sl sx d M0 P 21 [some (vR (some l0)), some (vI l1), some (vI l2), some (vI l3), none, none] [] M) (l0 : Nat) (l1 : Int32) (l2 : Int32) (M : MM) (hM : lenO M0 M) (h : w117_133 k21 l0 l1 l2 M P) : R117 sl sx d M0 P 133 [some (vR (some l0)), some (vI l1), some (vI l2), none, none, none] [] M := by
  refine RN_k (callX_det _) 2 _ _ _ _ (show R117 sl sx d M0 P 138 [some (vR (some l0)), some (vI l1), some (vI l2), none, none, none] [vI (1 : Int32)] M from ?_)
  exact RN_weak (K := [some (vR (some l0)), some (vI l1), some (vI l2), none, none, none]) (callX_det _) (show _ ∧ _ ∧ _ ∧ True from ⟨rfl, rfl, rfl, trivial⟩) (t117_138 hk21 l0 l1 l2 (1 : Int32) _ hM h)
def w117_118 (k21 : Nat → Int32 → Int32 → Int32 → MM → Prop) (l0 : Nat) (l1 : Int32) (l2 : Int32) (s0 : Int32) (M : MM) (P : MM → Prop) : Prop := (l2 = 0 → (w117_133 k21 l0 l1 l2 M P)) ∧ (¬ (l2 = 0) → ((l1 ≤ 0 → (w117_137 k21 l0 l1 l2 M P)) ∧ (¬ (l1 ≤ 0) → ((s0 = 0 → (w117_137 k21 l0 l1 l2 M P)) ∧ (¬ (s0 = 0) → (w117_133 k21 l0 l1 l2 M P))))))
theorem t117_118 {sl : Nat} {sx : Nat → Int32} {d : Nat} {M0 : MM} {P : MM → Prop} {k21 : Nat → Int32 → Int32 → Int32 → MM → Prop} (hk21 : ∀ (l0 : Nat) (l1 : Int32) (l2 : Int32) (l3 : Int32) (M : MM), lenO M0 M → k21 l0 l1 l2 l3 M → R117 sl sx d M0 P 21 [some (vR (some l0)), some (vI l1), some (vI l2), some (vI l3), none, none] [] M) (l0 : Nat) (l1 : Int32) (l2 : Int32) (s0 : Int32) (M : MM) (hM : lenO M0 M) (h : w117_118 k21 l0 l1 l2 s0 M P) : R117 sl sx d M0 P 118 [some (vR (some l0)), some (vI l1), some (vI l2), none, none, none] [vI s0] M := by
  refine RN_k (callX_det _) 3 _ _ _ _ (show (l2 = 0 → R117 sl sx d M0 P 133 [some (vR (some l0)), some (vI l1), some (vI l2), none, some (vI s0), none] [] M) ∧ (¬ (l2 = 0) → R117 sl sx d M0 P 124 [some (vR (some l0)), some (vI l1), some (vI l2), none, some (vI s0), none] [] M) from ⟨fun hc => ?_, fun hc => ?_⟩)
  · replace h := h.1 hc
    exact RN_weak (K := [some (vR (some l0)), some (vI l1), some (vI l2), none, none, none]) (callX_det _) (show _ ∧ _ ∧ _ ∧ True from ⟨rfl, rfl, rfl, trivial⟩) (t117_133 hk21 l0 l1 l2 _ hM h)
  · replace h := h.2 hc
    refine RN_k (callX_det _) 2 _ _ _ _ (show (l1 ≤ 0 → R117 sl sx d M0 P 137 [some (vR (some l0)), some (vI l1), some (vI l2), none, some (vI s0), none] [] M) ∧ (¬ (l1 ≤ 0) → R117 sl sx d M0 P 128 [some (vR (some l0)), some (vI l1), some (vI l2), none, some (vI s0), none] [] M) from ⟨fun hc => ?_, fun hc => ?_⟩)
    · replace h := h.1 hc
      exact RN_weak (K := [some (vR (some l0)), some (vI l1), some (vI l2), none, none, none]) (callX_det _) (show _ ∧ _ ∧ _ ∧ True from ⟨rfl, rfl, rfl, trivial⟩) (t117_137 hk21 l0 l1 l2 _ hM h)
    · replace h := h.2 hc
      refine RN_k (callX_det _) 2 _ _ _ _ (show (s0 = 0 → R117 sl sx d M0 P 137 [some (vR (some l0)), some (vI l1), some (vI l2), none, some (vI s0), none] [] M) ∧ (¬ (s0 = 0) → R117 sl sx d M0 P 133 [some (vR (some l0)), some (vI l1), some (vI l2), none, some (vI s0), none] [] M) from ⟨fun hc => ?_, fun hc => ?_⟩)
      · replace h := h.1 hc
        exact RN_weak (K := [some (vR (some l0)), some (vI l1), some (vI l2), none, none, none]) (callX_det _) (show _ ∧ _ ∧ _ ∧ True from ⟨rfl, rfl, rfl, trivial⟩) (t117_137 hk21 l0 l1 l2 _ hM h)
      · replace h := h.2 hc
        exact RN_weak (K := [some (vR (some l0)), some (vI l1), some (vI l2), none, none, none]) (callX_det _) (show _ ∧ _ ∧ _ ∧ True from ⟨rfl, rfl, rfl, trivial⟩) (t117_133 hk21 l0 l1 l2 _ hM h)
def w117_77 (k21 : Nat → Int32 → Int32 → Int32 → MM → Prop) (l0 : Nat) (l1 : Int32) (l2 : Int32) (l3 : Int32) (M : MM) (P : MM → Prop) : Prop := (l3 = 0 → (kd M l0 1 ∧ w82 l0 l1 l2 M (fun r2 M1 => ∃ a3, r2 = some a3 ∧ (kd M1 a3 7 ∧ ((¬ (mR M1 a3 10) = none → (w117_118 k21 l0 l1 l2 (0 : Int32) M1 P)) ∧ ((mR M1 a3 10) = none → (w117_118 k21 l0 l1 l2 (1 : Int32) M1 P))))))) ∧ (¬ (l3 = 0) → (kd M l0 1 ∧ w83 l0 l1 l2 M (fun r5 M4 => ∃ a6, r5 = some a6 ∧ (kd M4 a6 7 ∧ (((mR M4 a6 10) = none → (w117_118 k21 l0 l1 l2 (0 : Int32) M4 P)) ∧ (¬ (mR M4 a6 10) = none → (w117_118 k21 l0 l1 l2 (1 : Int32) M4 P)))))))
theorem t117_77 {sl : Nat} {sx : Nat → Int32} {d : Nat} {M0 : MM} {P : MM → Prop} {k21 : Nat → Int32 → Int32 → Int32 → MM → Prop} (hk21 : ∀ (l0 : Nat) (l1 : Int32) (l2 : Int32) (l3 : Int32) (M : MM), lenO M0 M → k21 l0 l1 l2 l3 M → R117 sl sx d M0 P 21 [some (vR (some l0)), some (vI l1), some (vI l2), some (vI l3), none, none] [] M) (l0 : Nat) (l1 : Int32) (l2 : Int32) (l3 : Int32) (M : MM) (hM : lenO M0 M) (h : w117_77 k21 l0 l1 l2 l3 M P) : R117 sl sx d M0 P 77 [some (vR (some l0)), some (vI l1), some (vI l2), some (vI l3), none, none] [] M := by
  refine RN_k (callX_det _) 2 _ _ _ _ (show (l3 = 0 → R117 sl sx d M0 P 101 [some (vR (some l0)), some (vI l1), some (vI l2), some (vI l3), none, none] [] M) ∧ (¬ (l3 = 0) → R117 sl sx d M0 P 81 [some (vR (some l0)), some (vI l1), some (vI l2), some (vI l3), none, none] [] M) from ⟨fun hc => ?_, fun hc => ?_⟩)
  · replace h := h.1 hc
    refine RN_k (callX_det _) 4 _ _ _ _ (show kd M l0 1 ∧ callX TBg sl sx (d + 1) 82 [vR (some l0), vI l1, vI l2] M (fun v M9 => R117 sl sx d M0 P 107 [some (vR (some l0)), some (vI l1), some (vI l2), some (vI l3), none, none] (pushO v []) M9) from ⟨h.1, ?_⟩)
    replace h := h.2
    refine callX_mono (callX_len (d := (d + 1)) rfl rfl rfl (c82 (d := d) h)) ?_
    clear h
    rintro v9 M1 ⟨hl, r2, rfl, h⟩
    replace hM := lenT hM hl
    show R117 sl sx d M0 P 107 [some (vR (some l0)), some (vI l1), some (vI l2), some (vI l3), none, none] [vR r2] M1
    obtain ⟨a3, he, h⟩ := h
    subst he
    refine RN_k (callX_det _) 1 _ _ _ _ (show kd M1 a3 7 ∧ R117 sl sx d M0 P 110 [some (vR (some l0)), some (vI l1), some (vI l2), some (vI l3), none, none] [vR (mR M1 a3 10)] M1 from ⟨h.1, ?_⟩)
    replace h := h.2
    refine RN_k (callX_det _) 1 _ _ _ _ (show (¬ (mR M1 a3 10) = none → R117 sl sx d M0 P 117 [some (vR (some l0)), some (vI l1), some (vI l2), some (vI l3), none, none] [] M1) ∧ ((mR M1 a3 10) = none → R117 sl sx d M0 P 113 [some (vR (some l0)), some (vI l1), some (vI l2), some (vI l3), none, none] [] M1) from ⟨fun hc => ?_, fun hc => ?_⟩)
    · replace h := h.1 hc
      refine RN_k (callX_det _) 1 _ _ _ _ (show R117 sl sx d M0 P 118 [some (vR (some l0)), some (vI l1), some (vI l2), some (vI l3), none, none] [vI (0 : Int32)] M1 from ?_)
      exact RN_weak (K := [some (vR (some l0)), some (vI l1), some (vI l2), none, none, none]) (callX_det _) (show _ ∧ _ ∧ _ ∧ True from ⟨rfl, rfl, rfl, trivial⟩) (t117_118 hk21 l0 l1 l2 (0 : Int32) _ hM h)
    · replace h := h.2 hc
      refine RN_k (callX_det _) 2 _ _ _ _ (show R117 sl sx d M0 P 118 [some (vR (some l0)), some (vI l1), some (vI l2), some (vI l3), none, none] [vI (1 : Int32)] M1 from ?_)
      exact RN_weak (K := [some (vR (some l0)), some (vI l1), some (vI l2), none, none, none]) (callX_det _) (show _ ∧ _ ∧ _ ∧ True from ⟨rfl, rfl, rfl, trivial⟩) (t117_118 hk21 l0 l1 l2 (1 : Int32) _ hM h)
  · replace h := h.2 hc
    refine RN_k (callX_det _) 4 _ _ _ _ (show kd M l0 1 ∧ callX TBg sl sx (d + 1) 83 [vR (some l0), vI l1, vI l2] M (fun v M9 => R117 sl sx d M0 P 87 [some (vR (some l0)), some (vI l1), some (vI l2), some (vI l3), none, none] (pushO v []) M9) from ⟨h.1, ?_⟩)
    replace h := h.2
    refine callX_mono (callX_len (d := (d + 1)) rfl rfl rfl (c83 (d := d) h)) ?_
    clear h
    rintro v9 M4 ⟨hl, r5, rfl, h⟩
    replace hM := lenT hM hl
    show R117 sl sx d M0 P 87 [some (vR (some l0)), some (vI l1), some (vI l2), some (vI l3), none, none] [vR r5] M4
    obtain ⟨a6, he, h⟩ := h
    subst he
    refine RN_k (callX_det _) 1 _ _ _ _ (show kd M4 a6 7 ∧ R117 sl sx d M0 P 90 [some (vR (some l0)), some (vI l1), some (vI l2), some (vI l3), none, none] [vR (mR M4 a6 10)] M4 from ⟨h.1, ?_⟩)
    replace h := h.2
    refine RN_k (callX_det _) 1 _ _ _ _ (show ((mR M4 a6 10) = none → R117 sl sx d M0 P 97 [some (vR (some l0)), some (vI l1), some (vI l2), some (vI l3), none, none] [] M4) ∧ (¬ (mR M4 a6 10) = none → R117 sl sx d M0 P 93 [some (vR (some l0)), some (vI l1), some (vI l2), some (vI l3), none, none] [] M4) from ⟨fun hc => ?_, fun hc => ?_⟩)
    · replace h := h.1 hc
      refine RN_k (callX_det _) 2 _ _ _ _ (show R117 sl sx d M0 P 118 [some (vR (some l0)), some (vI l1), some (vI l2), some (vI l3), none, none] [vI (0 : Int32)] M4 from ?_)
      exact RN_weak (K := [some (vR (some l0)), some (vI l1), some (vI l2), none, none, none]) (callX_det _) (show _ ∧ _ ∧ _ ∧ True from ⟨rfl, rfl, rfl, trivial⟩) (t117_118 hk21 l0 l1 l2 (0 : Int32) _ hM h)
    · replace h := h.2 hc
      refine RN_k (callX_det _) 2 _ _ _ _ (show R117 sl sx d M0 P 118 [some (vR (some l0)), some (vI l1), some (vI l2), some (vI l3), none, none] [vI (1 : Int32)] M4 from ?_)
      exact RN_weak (K := [some (vR (some l0)), some (vI l1), some (vI l2), none, none, none]) (callX_det _) (show _ ∧ _ ∧ _ ∧ True from ⟨rfl, rfl, rfl, trivial⟩) (t117_118 hk21 l0 l1 l2 (1 : Int32) _ hM h)
def w117_68 (k21 : Nat → Int32 → Int32 → Int32 → MM → Prop) (l0 : Nat) (l1 : Int32) (l2 : Int32) (l3 : Int32) (M : MM) (P : MM → Prop) : Prop := (l1 ≠ 0 → (w117_77 k21 l0 l1 l2 l3 M P)) ∧ (¬ (l1 ≠ 0) → ((l2 ≠ 0 → (w117_77 k21 l0 l1 l2 l3 M P)) ∧ (¬ (l2 ≠ 0) → (P M))))
theorem t117_68 {sl : Nat} {sx : Nat → Int32} {d : Nat} {M0 : MM} {P : MM → Prop} {k21 : Nat → Int32 → Int32 → Int32 → MM → Prop} (hk21 : ∀ (l0 : Nat) (l1 : Int32) (l2 : Int32) (l3 : Int32) (M : MM), lenO M0 M → k21 l0 l1 l2 l3 M → R117 sl sx d M0 P 21 [some (vR (some l0)), some (vI l1), some (vI l2), some (vI l3), none, none] [] M) (l0 : Nat) (l1 : Int32) (l2 : Int32) (l3 : Int32) (M : MM) (hM : lenO M0 M) (h : w117_68 k21 l0 l1 l2 l3 M P) : R117 sl sx d M0 P 68 [some (vR (some l0)), some (vI l1), some (vI l2), some (vI l3), none, none] [] M := by
  refine RN_k (callX_det _) 2 _ _ _ _ (show (l1 ≠ 0 → R117 sl sx d M0 P 77 [some (vR (some l0)), some (vI l1), some (vI l2), some (vI l3), none, none] [] M) ∧ (¬ (l1 ≠ 0) → R117 sl sx d M0 P 72 [some (vR (some l0)), some (vI l1), some (vI l2), some (vI l3), none, none] [] M) from ⟨fun hc => ?_, fun hc => ?_⟩)
  · replace h := h.1 hc
    exact RN_weak (K := [some (vR (some l0)), some (vI l1), some (vI l2), some (vI l3), none, none]) (callX_det _) (show _ ∧ _ ∧ _ ∧ _ ∧ True from ⟨rfl, rfl, rfl, rfl, trivial⟩) (t117_77 hk21 l0 l1 l2 l3 _ hM h)
  · replace h := h.2 hc
    refine RN_k (callX_det _) 2 _ _ _ _ (show (l2 ≠ 0 → R117 sl sx d M0 P 77 [some (vR (some l0)), some (vI l1), some (vI l2), some (vI l3), none, none] [] M) ∧ (¬ (l2 ≠ 0) → R117 sl sx d M0 P 76 [some (vR (some l0)), some (vI l1), some (vI l2), some (vI l3), none, none] [] M) from ⟨fun hc => ?_, fun hc => ?_⟩)
    · replace h := h.1 hc
      exact RN_weak (K := [some (vR (some l0)), some (vI l1), some (vI l2), some (vI l3), none, none]) (callX_det _) (show _ ∧ _ ∧ _ ∧ _ ∧ True from ⟨rfl, rfl, rfl, rfl, trivial⟩) (t117_77 hk21 l0 l1 l2 l3 _ hM h)
    · replace h := h.2 hc
      exact RN_k (callX_det _) 1 _ _ _ _ (show rtW q117 M0 (PV P) none M from ⟨rfl, hM.1, hM.2, rfl, h⟩)
def w117_21 : Nat → Nat → Int32 → Int32 → Int32 → MM → (MM → Prop) → Prop
  | 0 => fun _ _ _ _ _ _ => False
  | n + 1 => fun l0 l1 l2 l3 M P => kd M l0 1 ∧ (((16 : Int32) ≤ (mI M l0 5) → (w117_180  M P)) ∧ (¬ ((16 : Int32) ≤ (mI M l0 5)) → ((l1 < 0 → (w117_180  M P)) ∧ (¬ (l1 < 0) → ((l2 < 0 → (w117_180  M P)) ∧ (¬ (l2 < 0) → (kd M l0 1 ∧ (kd M l0 1 ∧ (∃ a1, mR M l0 3 = some a1 ∧ (inb M a1 11 (mI M l0 5) ∧ (kd (sI M a1 (mI M l0 5).toNatClampNeg l1) l0 1 ∧ (kd (sI M a1 (mI M l0 5).toNatClampNeg l1) l0 1 ∧ (∃ a2, mR (sI M a1 (mI M l0 5).toNatClampNeg l1) l0 4 = some a2 ∧ (inb (sI M a1 (mI M l0 5).toNatClampNeg l1) a2 11 (mI (sI M a1 (mI M l0 5).toNatClampNeg l1) l0 5) ∧ (kd (sI (sI M a1 (mI M l0 5).toNatClampNeg l1) a2 (mI (sI M a1 (mI M l0 5).toNatClampNeg l1) l0 5).toNatClampNeg l2) l0 1 ∧ (kd (sI (sI M a1 (mI M l0 5).toNatClampNeg l1) a2 (mI (sI M a1 (mI M l0 5).toNatClampNeg l1) l0 5).toNatClampNeg l2) l0 1 ∧ (w117_68 (fun z0 z1 z2 z3 z4 => w117_21  n z0 z1 z2 z3 z4 P) l0 l1 l2 l3 (sI (sI (sI M a1 (mI M l0 5).toNatClampNeg l1) a2 (mI (sI M a1 (mI M l0 5).toNatClampNeg l1) l0 5).toNatClampNeg l2) l0 5 ((mI (sI (sI M a1 (mI M l0 5).toNatClampNeg l1) a2 (mI (sI M a1 (mI M l0 5).toNatClampNeg l1) l0 5).toNatClampNeg l2) l0 5) + (1 : Int32))) P)))))))))))))))))
theorem t117_21 {sl : Nat} {sx : Nat → Int32} {d : Nat} {M0 : MM} {P : MM → Prop} (n : Nat) : ∀ (l0 : Nat) (l1 : Int32) (l2 : Int32) (l3 : Int32) (M : MM) (_ : lenO M0 M) (_ : w117_21  n l0 l1 l2 l3 M P), R117 sl sx d M0 P 21 [some (vR (some l0)), some (vI l1), some (vI l2), some (vI l3), none, none] [] M := by
  induction n with
  | zero => intro l0 l1 l2 l3 M hM h; cases h
  | succ n ih =>
    intro l0 l1 l2 l3 M hM h
    refine RN_k (callX_det _) 2 _ _ _ _ (show kd M l0 1 ∧ R117 sl sx d M0 P 25 [some (vR (some l0)), some (vI l1), some (vI l2), some (vI l3), none, none] [vI (mI M l0 5)] M from ⟨h.1, ?_⟩)
    replace h := h.2
    refine RN_k (callX_det _) 2 _ _ _ _ (show ((16 : Int32) ≤ (mI M l0 5) → R117 sl sx d M0 P 180 [some (vR (some l0)), some (vI l1), some (vI l2), some (vI l3), none, none] [] M) ∧ (¬ ((16 : Int32) ≤ (mI M l0 5)) → R117 sl sx d M0 P 30 [some (vR (some l0)), some (vI l1), some (vI l2), some (vI l3), none, none] [] M) from ⟨fun hc => ?_, fun hc => ?_⟩)
    · replace h := h.1 hc
      exact RN_weak (K := [none, none, none, none, none, none]) (callX_det _) (show True from trivial) (t117_180   _ hM h)
    · replace h := h.2 hc
      refine RN_k (callX_det _) 2 _ _ _ _ (show (l1 < 0 → R117 sl sx d M0 P 180 [some (vR (some l0)), some (vI l1), some (vI l2), some (vI l3), none, none] [] M) ∧ (¬ (l1 < 0) → R117 sl sx d M0 P 34 [some (vR (some l0)), some (vI l1), some (vI l2), some (vI l3), none, none] [] M) from ⟨fun hc => ?_, fun hc => ?_⟩)
      · replace h := h.1 hc
        exact RN_weak (K := [none, none, none, none, none, none]) (callX_det _) (show True from trivial) (t117_180   _ hM h)
      · replace h := h.2 hc
        refine RN_k (callX_det _) 2 _ _ _ _ (show (l2 < 0 → R117 sl sx d M0 P 180 [some (vR (some l0)), some (vI l1), some (vI l2), some (vI l3), none, none] [] M) ∧ (¬ (l2 < 0) → R117 sl sx d M0 P 38 [some (vR (some l0)), some (vI l1), some (vI l2), some (vI l3), none, none] [] M) from ⟨fun hc => ?_, fun hc => ?_⟩)
        · replace h := h.1 hc
          exact RN_weak (K := [none, none, none, none, none, none]) (callX_det _) (show True from trivial) (t117_180   _ hM h)
        · replace h := h.2 hc
          refine RN_k (callX_det _) 2 _ _ _ _ (show kd M l0 1 ∧ R117 sl sx d M0 P 42 [some (vR (some l0)), some (vI l1), some (vI l2), some (vI l3), none, none] [vR (mR M l0 3)] M from ⟨h.1, ?_⟩)
          replace h := h.2
          refine RN_k (callX_det _) 2 _ _ _ _ (show kd M l0 1 ∧ R117 sl sx d M0 P 46 [some (vR (some l0)), some (vI l1), some (vI l2), some (vI l3), none, none] [vI (mI M l0 5), vR (mR M l0 3)] M from ⟨h.1, ?_⟩)
          replace h := h.2
          obtain ⟨a1, he, h⟩ := h
          refine RN_k (callX_det _) 1 _ _ _ _ (show R117 sl sx d M0 P 47 [some (vR (some l0)), some (vI l1), some (vI l2), some (vI l3), none, none] [vI l1, vI (mI M l0 5), vR (mR M l0 3)] M from ?_)
          rw [he]
          refine RN_k (callX_det _) 1 _ _ _ _ (show inb M a1 11 (mI M l0 5) ∧ R117 sl sx d M0 P 48 [some (vR (some l0)), some (vI l1), some (vI l2), some (vI l3), none, none] [] (sI M a1 (mI M l0 5).toNatClampNeg l1) from ⟨h.1, ?_⟩)
          replace h := h.2
          refine RN_k (callX_det _) 2 _ _ _ _ (show kd (sI M a1 (mI M l0 5).toNatClampNeg l1) l0 1 ∧ R117 sl sx d M0 P 52 [some (vR (some l0)), some (vI l1), some (vI l2), some (vI l3), none, none] [vR (mR (sI M a1 (mI M l0 5).toNatClampNeg l1) l0 4)] (sI M a1 (mI M l0 5).toNatClampNeg l1) from ⟨h.1, ?_⟩)
          replace h := h.2
          refine RN_k (callX_det _) 2 _ _ _ _ (show kd (sI M a1 (mI M l0 5).toNatClampNeg l1) l0 1 ∧ R117 sl sx d M0 P 56 [some (vR (some l0)), some (vI l1), some (vI l2), some (vI l3), none, none] [vI (mI (sI M a1 (mI M l0 5).toNatClampNeg l1) l0 5), vR (mR (sI M a1 (mI M l0 5).toNatClampNeg l1) l0 4)] (sI M a1 (mI M l0 5).toNatClampNeg l1) from ⟨h.1, ?_⟩)
          replace h := h.2
          obtain ⟨a2, he, h⟩ := h
          refine RN_k (callX_det _) 1 _ _ _ _ (show R117 sl sx d M0 P 57 [some (vR (some l0)), some (vI l1), some (vI l2), some (vI l3), none, none] [vI l2, vI (mI (sI M a1 (mI M l0 5).toNatClampNeg l1) l0 5), vR (mR (sI M a1 (mI M l0 5).toNatClampNeg l1) l0 4)] (sI M a1 (mI M l0 5).toNatClampNeg l1) from ?_)
          rw [he]
          refine RN_k (callX_det _) 1 _ _ _ _ (show inb (sI M a1 (mI M l0 5).toNatClampNeg l1) a2 11 (mI (sI M a1 (mI M l0 5).toNatClampNeg l1) l0 5) ∧ R117 sl sx d M0 P 58 [some (vR (some l0)), some (vI l1), some (vI l2), some (vI l3), none, none] [] (sI (sI M a1 (mI M l0 5).toNatClampNeg l1) a2 (mI (sI M a1 (mI M l0 5).toNatClampNeg l1) l0 5).toNatClampNeg l2) from ⟨h.1, ?_⟩)
          replace h := h.2
          refine RN_k (callX_det _) 3 _ _ _ _ (show kd (sI (sI M a1 (mI M l0 5).toNatClampNeg l1) a2 (mI (sI M a1 (mI M l0 5).toNatClampNeg l1) l0 5).toNatClampNeg l2) l0 1 ∧ R117 sl sx d M0 P 63 [some (vR (some l0)), some (vI l1), some (vI l2), some (vI l3), none, none] [vI (mI (sI (sI M a1 (mI M l0 5).toNatClampNeg l1) a2 (mI (sI M a1 (mI M l0 5).toNatClampNeg l1) l0 5).toNatClampNeg l2) l0 5), vR (some l0)] (sI (sI M a1 (mI M l0 5).toNatClampNeg l1) a2 (mI (sI M a1 (mI M l0 5).toNatClampNeg l1) l0 5).toNatClampNeg l2) from ⟨h.1, ?_⟩)
          replace h := h.2
          refine RN_k (callX_det _) 3 _ _ _ _ (show kd (sI (sI M a1 (mI M l0 5).toNatClampNeg l1) a2 (mI (sI M a1 (mI M l0 5).toNatClampNeg l1) l0 5).toNatClampNeg l2) l0 1 ∧ R117 sl sx d M0 P 68 [some (vR (some l0)), some (vI l1), some (vI l2), some (vI l3), none, none] [] (sI (sI (sI M a1 (mI M l0 5).toNatClampNeg l1) a2 (mI (sI M a1 (mI M l0 5).toNatClampNeg l1) l0 5).toNatClampNeg l2) l0 5 ((mI (sI (sI M a1 (mI M l0 5).toNatClampNeg l1) a2 (mI (sI M a1 (mI M l0 5).toNatClampNeg l1) l0 5).toNatClampNeg l2) l0 5) + (1 : Int32))) from ⟨h.1, ?_⟩)
          replace h := h.2
          exact RN_weak (K := [some (vR (some l0)), some (vI l1), some (vI l2), some (vI l3), none, none]) (callX_det _) (show _ ∧ _ ∧ _ ∧ _ ∧ True from ⟨rfl, rfl, rfl, rfl, trivial⟩) (t117_68 ih l0 l1 l2 l3 _ hM h)
def w117 (l0 : Nat) (M : MM) (P : MM → Prop) : Prop := kd M l0 1 ∧ (kd M l0 1 ∧ (kd M l0 1 ∧ (∃ n2, w117_21  n2 l0 ((mI M l0 1) - (1 : Int32)) ((mI M l0 2) - (1 : Int32)) (1 : Int32) (sI M l0 5 (0 : Int32)) P)))
theorem t117_E {sl : Nat} {sx : Nat → Int32} {d : Nat} {M0 : MM} {P : MM → Prop} (l0 : Nat) (M : MM) (hM : lenO M0 M) (h : w117  l0 M P) : R117 sl sx d M0 P 0 [some (vR (some l0)), none, none, none, none, none] [] M := by
  refine RN_k (callX_det _) 2 _ _ _ _ (show kd M l0 1 ∧ R117 sl sx d M0 P 4 [some (vR (some l0)), none, none, none, none, none] [vI (mI M l0 1)] M from ⟨h.1, ?_⟩)
  replace h := h.2
  refine RN_k (callX_det _) 5 _ _ _ _ (show kd M l0 1 ∧ R117 sl sx d M0 P 11 [some (vR (some l0)), some (vI ((mI M l0 1) - (1 : Int32))), none, none, none, none] [vI (mI M l0 2)] M from ⟨h.1, ?_⟩)
  replace h := h.2
  refine RN_k (callX_det _) 8 _ _ _ _ (show kd M l0 1 ∧ R117 sl sx d M0 P 21 [some (vR (some l0)), some (vI ((mI M l0 1) - (1 : Int32))), some (vI ((mI M l0 2) - (1 : Int32))), some (vI (1 : Int32)), none, none] [] (sI M l0 5 (0 : Int32)) from ⟨h.1, ?_⟩)
  replace h := h.2
  obtain ⟨n2, h⟩ := h
  exact RN_weak (K := [some (vR (some l0)), some (vI ((mI M l0 1) - (1 : Int32))), some (vI ((mI M l0 2) - (1 : Int32))), some (vI (1 : Int32)), none, none]) (callX_det _) (show _ ∧ _ ∧ _ ∧ _ ∧ True from ⟨rfl, rfl, rfl, rfl, trivial⟩) (t117_21  n2 l0 ((mI M l0 1) - (1 : Int32)) ((mI M l0 2) - (1 : Int32)) (1 : Int32) _ hM h)
theorem c117 {sl : Nat} {sx : Nat → Int32} {d : Nat} {l0 : Nat} {M : MM} {P : MM → Prop} (h : w117 l0 M P) : callX TBg sl sx (d + 2) 117 [vR (some l0)] M (PV P) :=
  cX (d := d + 1) q117 (false, tb117) rfl rfl rfl (t117_E l0 M lenR h)
