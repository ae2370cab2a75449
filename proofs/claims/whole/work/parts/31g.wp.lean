/-! ===== printed by program: what must hold that a call ends with what is asked ===== -/
-- TwoLeashModel.signOfRoot(JIJJ)I
abbrev q223 : MQ7 := (4, 0, 10, 10, 0, 0, 1)
abbrev R223 (sl : Nat) (sx : Nat → Int32) (d : Nat) (M0 : MM) (P : Int32 → MM → Prop) : Nat → LL → List VV → MM → Prop := RN 10 false (mS M0).length (mT M0) 0 0 sl sx (callX TBg sl sx (d + 3)) (rtW q223 M0 (PI P)) (as2 tb223)
def w223_55 (s0 : Int32) (M : MM) (P : Int32 → MM → Prop) : Prop := P s0 M
theorem t223_55 {sl : Nat} {sx : Nat → Int32} {d : Nat} {M0 : MM} {P : Int32 → MM → Prop} (s0 : Int32) (M : MM) (hM : lenO M0 M) (h : w223_55  s0 M P) : R223 sl sx d M0 P 55 [none, none, none, none, none, none, none, none, none, none] [vI s0] M := by
  exact RN_k (callX_det _) 1 _ _ _ _ (show rtW q223 M0 (PI P) (some (vI s0)) M from ⟨⟨_, rfl⟩, hM.1, hM.2, _, rfl, h⟩)
def w223_43 (l7 : Int32) (l8 : Int32) (M : MM) (P : Int32 → MM → Prop) : Prop := (l7 ≠ 0 → (w223_55  l7 M P)) ∧ (¬ (l7 ≠ 0) → (w223_55  l8 M P))
theorem t223_43 {sl : Nat} {sx : Nat → Int32} {d : Nat} {M0 : MM} {P : Int32 → MM → Prop} (l7 : Int32) (l8 : Int32) (M : MM) (hM : lenO M0 M) (h : w223_43  l7 l8 M P) : R223 sl sx d M0 P 43 [none, none, none, none, none, none, none, some (vI l7), some (vI l8), none] [] M := by
  refine RN_k (callX_det _) 2 _ _ _ _ (show (l7 ≠ 0 → R223 sl sx d M0 P 53 [none, none, none, none, none, none, none, some (vI l7), some (vI l8), none] [] M) ∧ (¬ (l7 ≠ 0) → R223 sl sx d M0 P 48 [none, none, none, none, none, none, none, some (vI l7), some (vI l8), none] [] M) from ⟨fun hc => ?_, fun hc => ?_⟩)
  · replace h := h.1 hc
    refine RN_k (callX_det _) 1 _ _ _ _ (show R223 sl sx d M0 P 55 [none, none, none, none, none, none, none, some (vI l7), some (vI l8), none] [vI l7] M from ?_)
    exact RN_weak (K := [none, none, none, none, none, none, none, none, none, none]) (callX_det _) (show True from trivial) (t223_55  l7 _ hM h)
  · replace h := h.2 hc
    refine RN_k (callX_det _) 2 _ _ _ _ (show R223 sl sx d M0 P 55 [none, none, none, none, none, none, none, some (vI l7), some (vI l8), none] [vI l8] M from ?_)
    exact RN_weak (K := [none, none, none, none, none, none, none, none, none, none]) (callX_det _) (show True from trivial) (t223_55  l8 _ hM h)
def w223_101 (s0 : Int32) (M : MM) (P : Int32 → MM → Prop) : Prop := P s0 M
theorem t223_101 {sl : Nat} {sx : Nat → Int32} {d : Nat} {M0 : MM} {P : Int32 → MM → Prop} (s0 : Int32) (M : MM) (hM : lenO M0 M) (h : w223_101  s0 M P) : R223 sl sx d M0 P 101 [none, none, none, none, none, none, none, none, none, none] [vI s0] M := by
  exact RN_k (callX_det _) 1 _ _ _ _ (show rtW q223 M0 (PI P) (some (vI s0)) M from ⟨⟨_, rfl⟩, hM.1, hM.2, _, rfl, h⟩)
def w223_24 (l0 : Int64) (l3 : Int64) (l5 : Int64) (l7 : Int32) (s0 : Int32) (M : MM) (P : Int32 → MM → Prop) : Prop := (l7 = 0 → (w223_43  l7 s0 M P)) ∧ (¬ (l7 = 0) → ((s0 = 0 → (w223_43  l7 s0 M P)) ∧ (¬ (s0 = 0) → ((l7 ≠ s0 → (w224 l0 M (fun r2 M1 => w224 l0 M1 (fun r4 M3 => w225 r2 r4 ((2 : Int64) * l3) ((2 : Int64) * l5) M3 (fun r6 M5 => (r6 ≠ 0 → ((r6 ≤ 0 → (w223_101  s0 M5 P)) ∧ (¬ (r6 ≤ 0) → (w223_101  l7 M5 P)))) ∧ (¬ (r6 ≠ 0) → (w223_101  (0 : Int32) M5 P))))))) ∧ (¬ (l7 ≠ s0) → (w223_43  l7 s0 M P))))))
theorem t223_24 {sl : Nat} {sx : Nat → Int32} {d : Nat} {M0 : MM} {P : Int32 → MM → Prop} (l0 : Int64) (l3 : Int64) (l5 : Int64) (l7 : Int32) (s0 : Int32) (M : MM) (hM : lenO M0 M) (h : w223_24  l0 l3 l5 l7 s0 M P) : R223 sl sx d M0 P 24 [some (vL l0), none, none, some (vL l3), none, some (vL l5), none, some (vI l7), none, none] [vI s0] M := by
  refine RN_k (callX_det _) 3 _ _ _ _ (show (l7 = 0 → R223 sl sx d M0 P 43 [some (vL l0), none, none, some (vL l3), none, some (vL l5), none, some (vI l7), some (vI s0), none] [] M) ∧ (¬ (l7 = 0) → R223 sl sx d M0 P 31 [some (vL l0), none, none, some (vL l3), none, some (vL l5), none, some (vI l7), some (vI s0), none] [] M) from ⟨fun hc => ?_, fun hc => ?_⟩)
  · replace h := h.1 hc
    exact RN_weak (K := [none, none, none, none, none, none, none, some (vI l7), some (vI s0), none]) (callX_det _) (show _ ∧ _ ∧ True from ⟨rfl, rfl, trivial⟩) (t223_43  l7 s0 _ hM h)
  · replace h := h.2 hc
    refine RN_k (callX_det _) 2 _ _ _ _ (show (s0 = 0 → R223 sl sx d M0 P 43 [some (vL l0), none, none, some (vL l3), none, some (vL l5), none, some (vI l7), some (vI s0), none] [] M) ∧ (¬ (s0 = 0) → R223 sl sx d M0 P 36 [some (vL l0), none, none, some (vL l3), none, some (vL l5), none, some (vI l7), some (vI s0), none] [] M) from ⟨fun hc => ?_, fun hc => ?_⟩)
    · replace h := h.1 hc
      exact RN_weak (K := [none, none, none, none, none, none, none, some (vI l7), some (vI s0), none]) (callX_det _) (show _ ∧ _ ∧ True from ⟨rfl, rfl, trivial⟩) (t223_43  l7 s0 _ hM h)
    · replace h := h.2 hc
      refine RN_k (callX_det _) 3 _ _ _ _ (show (l7 ≠ s0 → R223 sl sx d M0 P 56 [some (vL l0), none, none, some (vL l3), none, some (vL l5), none, some (vI l7), some (vI s0), none] [] M) ∧ (¬ (l7 ≠ s0) → R223 sl sx d M0 P 43 [some (vL l0), none, none, some (vL l3), none, some (vL l5), none, some (vI l7), some (vI s0), none] [] M) from ⟨fun hc => ?_, fun hc => ?_⟩)
      · replace h := h.1 hc
        refine RN_k (callX_det _) 2 _ _ _ _ (show callX TBg sl sx (d + 3) 224 [vL l0] M (fun v M9 => R223 sl sx d M0 P 60 [some (vL l0), none, none, some (vL l3), none, some (vL l5), none, some (vI l7), some (vI s0), none] (pushO v []) M9) from ?_)
        refine callX_mono (callX_len (d := (d + 3)) rfl rfl rfl (c224 (d := d + 2) h)) ?_
        clear h
        rintro v9 M1 ⟨hl, r2, rfl, h⟩
        replace hM := lenT hM hl
        show R223 sl sx d M0 P 60 [some (vL l0), none, none, some (vL l3), none, some (vL l5), none, some (vI l7), some (vI s0), none] [vL r2] M1
        refine RN_k (callX_det _) 2 _ _ _ _ (show callX TBg sl sx (d + 3) 224 [vL l0] M1 (fun v M9 => R223 sl sx d M0 P 64 [some (vL l0), none, none, some (vL l3), none, some (vL l5), none, some (vI l7), some (vI s0), none] (pushO v [vL r2]) M9) from ?_)
        refine callX_mono (callX_len (d := (d + 3)) rfl rfl rfl (c224 (d := d + 2) h)) ?_
        clear h
        rintro v9 M3 ⟨hl, r4, rfl, h⟩
        replace hM := lenT hM hl
        show R223 sl sx d M0 P 64 [some (vL l0), none, none, some (vL l3), none, some (vL l5), none, some (vI l7), some (vI s0), none] [vL r4, vL r2] M3
        refine RN_k (callX_det _) 7 _ _ _ _ (show callX TBg sl sx (d + 3) 225 [vL r2, vL r4, vL ((2 : Int64) * l3), vL ((2 : Int64) * l5)] M3 (fun v M9 => R223 sl sx d M0 P 78 [some (vL l0), none, none, some (vL l3), none, some (vL l5), none, some (vI l7), some (vI s0), none] (pushO v []) M9) from ?_)
        refine callX_mono (callX_len (d := (d + 3)) rfl rfl rfl (c225 (d := d) h)) ?_
        clear h
        rintro v9 M5 ⟨hl, r6, rfl, h⟩
        replace hM := lenT hM hl
        show R223 sl sx d M0 P 78 [some (vL l0), none, none, some (vL l3), none, some (vL l5), none, some (vI l7), some (vI s0), none] [vI r6] M5
        refine RN_k (callX_det _) 3 _ _ _ _ (show (r6 ≠ 0 → R223 sl sx d M0 P 89 [some (vL l0), none, none, some (vL l3), none, some (vL l5), none, some (vI l7), some (vI s0), some (vI r6)] [] M5) ∧ (¬ (r6 ≠ 0) → R223 sl sx d M0 P 85 [some (vL l0), none, none, some (vL l3), none, some (vL l5), none, some (vI l7), some (vI s0), some (vI r6)] [] M5) from ⟨fun hc => ?_, fun hc => ?_⟩)
        · replace h := h.1 hc
          refine RN_k (callX_det _) 2 _ _ _ _ (show (r6 ≤ 0 → R223 sl sx d M0 P 99 [some (vL l0), none, none, some (vL l3), none, some (vL l5), none, some (vI l7), some (vI s0), some (vI r6)] [] M5) ∧ (¬ (r6 ≤ 0) → R223 sl sx d M0 P 94 [some (vL l0), none, none, some (vL l3), none, some (vL l5), none, some (vI l7), some (vI s0), some (vI r6)] [] M5) from ⟨fun hc => ?_, fun hc => ?_⟩)
          · replace h := h.1 hc
            refine RN_k (callX_det _) 1 _ _ _ _ (show R223 sl sx d M0 P 101 [some (vL l0), none, none, some (vL l3), none, some (vL l5), none, some (vI l7), some (vI s0), some (vI r6)] [vI s0] M5 from ?_)
            exact RN_weak (K := [none, none, none, none, none, none, none, none, none, none]) (callX_det _) (show True from trivial) (t223_101  s0 _ hM h)
          · replace h := h.2 hc
            refine RN_k (callX_det _) 2 _ _ _ _ (show R223 sl sx d M0 P 101 [some (vL l0), none, none, some (vL l3), none, some (vL l5), none, some (vI l7), some (vI s0), some (vI r6)] [vI l7] M5 from ?_)
            exact RN_weak (K := [none, none, none, none, none, none, none, none, none, none]) (callX_det _) (show True from trivial) (t223_101  l7 _ hM h)
        · replace h := h.2 hc
          refine RN_k (callX_det _) 2 _ _ _ _ (show R223 sl sx d M0 P 101 [some (vL l0), none, none, some (vL l3), none, some (vL l5), none, some (vI l7), some (vI s0), some (vI r6)] [vI (0 : Int32)] M5 from ?_)
          exact RN_weak (K := [none, none, none, none, none, none, none, none, none, none]) (callX_det _) (show True from trivial) (t223_101  (0 : Int32) _ hM h)
      · replace h := h.2 hc
        exact RN_weak (K := [none, none, none, none, none, none, none, some (vI l7), some (vI s0), none]) (callX_det _) (show _ ∧ _ ∧ True from ⟨rfl, rfl, trivial⟩) (t223_43  l7 s0 _ hM h)
def w223_19 (l0 : Int64) (l3 : Int64) (l5 : Int64) (l7 : Int32) (M : MM) (P : Int32 → MM → Prop) : Prop := w223_24  l0 l3 l5 l7 (0 : Int32) M P
theorem t223_19 {sl : Nat} {sx : Nat → Int32} {d : Nat} {M0 : MM} {P : Int32 → MM → Prop} (l0 : Int64) (l3 : Int64) (l5 : Int64) (l7 : Int32) (M : MM) (hM : lenO M0 M) (h : w223_19  l0 l3 l5 l7 M P) : R223 sl sx d M0 P 19 [some (vL l0), none, none, some (vL l3), none, some (vL l5), none, some (vI l7), none, none] [] M := by
  refine RN_k (callX_det _) 2 _ _ _ _ (show R223 sl sx d M0 P 24 [some (vL l0), none, none, some (vL l3), none, some (vL l5), none, some (vI l7), none, none] [vI (0 : Int32)] M from ?_)
  exact RN_weak (K := [some (vL l0), none, none, some (vL l3), none, some (vL l5), none, some (vI l7), none, none]) (callX_det _) (show _ ∧ _ ∧ _ ∧ _ ∧ True from ⟨rfl, rfl, rfl, rfl, trivial⟩) (t223_24  l0 l3 l5 l7 (0 : Int32) _ hM h)
def w223 (l0 : Int64) (l2 : Int32) (l3 : Int64) (l5 : Int64) (M : MM) (P : Int32 → MM → Prop) : Prop := w222 l0 M (fun r2 M1 => ((lg_cmp l3 (0 : Int64)) = 0 → (w223_19  l0 l3 l5 r2 M1 P)) ∧ (¬ ((lg_cmp l3 (0 : Int64)) = 0) → (((lg_cmp l5 (0 : Int64)) ≠ 0 → (w223_24  l0 l3 l5 r2 l2 M1 P)) ∧ (¬ ((lg_cmp l5 (0 : Int64)) ≠ 0) → (w223_19  l0 l3 l5 r2 M1 P)))))
theorem t223_E {sl : Nat} {sx : Nat → Int32} {d : Nat} {M0 : MM} {P : Int32 → MM → Prop} (l0 : Int64) (l2 : Int32) (l3 : Int64) (l5 : Int64) (M : MM) (hM : lenO M0 M) (h : w223  l0 l2 l3 l5 M P) : R223 sl sx d M0 P 0 [some (vL l0), none, some (vI l2), some (vL l3), none, some (vL l5), none, none, none, none] [] M := by
  refine RN_k (callX_det _) 2 _ _ _ _ (show callX TBg sl sx (d + 3) 222 [vL l0] M (fun v M9 => R223 sl sx d M0 P 4 [some (vL l0), none, some (vI l2), some (vL l3), none, some (vL l5), none, none, none, none] (pushO v []) M9) from ?_)
  refine callX_mono (callX_len (d := (d + 3)) rfl rfl rfl (c222 (d := d + 2) h)) ?_
  clear h
  rintro v9 M1 ⟨hl, r2, rfl, h⟩
  replace hM := lenT hM hl
  show R223 sl sx d M0 P 4 [some (vL l0), none, some (vI l2), some (vL l3), none, some (vL l5), none, none, none, none] [vI r2] M1
  refine RN_k (callX_det _) 5 _ _ _ _ (show ((lg_cmp l3 (0 : Int64)) = 0 → R223 sl sx d M0 P 19 [some (vL l0), none, some (vI l2), some (vL l3), none, some (vL l5), none, some (vI r2), none, none] [] M1) ∧ (¬ ((lg_cmp l3 (0 : Int64)) = 0) → R223 sl sx d M0 P 12 [some (vL l0), none, some (vI l2), some (vL l3), none, some (vL l5), none, some (vI r2), none, none] [] M1) from ⟨fun hc => ?_, fun hc => ?_⟩)
  · replace h := h.1 hc
    exact RN_weak (K := [some (vL l0), none, none, some (vL l3), none, some (vL l5), none, some (vI r2), none, none]) (callX_det _) (show _ ∧ _ ∧ _ ∧ _ ∧ True from ⟨rfl, rfl, rfl, rfl, trivial⟩) (t223_19  l0 l3 l5 r2 _ hM h)
  · replace h := h.2 hc
    refine RN_k (callX_det _) 4 _ _ _ _ (show ((lg_cmp l5 (0 : Int64)) ≠ 0 → R223 sl sx d M0 P 23 [some (vL l0), none, some (vI l2), some (vL l3), none, some (vL l5), none, some (vI r2), none, none] [] M1) ∧ (¬ ((lg_cmp l5 (0 : Int64)) ≠ 0) → R223 sl sx d M0 P 19 [some (vL l0), none, some (vI l2), some (vL l3), none, some (vL l5), none, some (vI r2), none, none] [] M1) from ⟨fun hc => ?_, fun hc => ?_⟩)
    · replace h := h.1 hc
      refine RN_k (callX_det _) 1 _ _ _ _ (show R223 sl sx d M0 P 24 [some (vL l0), none, some (vI l2), some (vL l3), none, some (vL l5), none, some (vI r2), none, none] [vI l2] M1 from ?_)
      exact RN_weak (K := [some (vL l0), none, none, some (vL l3), none, some (vL l5), none, some (vI r2), none, none]) (callX_det _) (show _ ∧ _ ∧ _ ∧ _ ∧ True from ⟨rfl, rfl, rfl, rfl, trivial⟩) (t223_24  l0 l3 l5 r2 l2 _ hM h)
    · replace h := h.2 hc
      exact RN_weak (K := [some (vL l0), none, none, some (vL l3), none, some (vL l5), none, some (vI r2), none, none]) (callX_det _) (show _ ∧ _ ∧ _ ∧ _ ∧ True from ⟨rfl, rfl, rfl, rfl, trivial⟩) (t223_19  l0 l3 l5 r2 _ hM h)
theorem c223 {sl : Nat} {sx : Nat → Int32} {d : Nat} {l0 : Int64} {l2 : Int32} {l3 : Int64} {l5 : Int64} {M : MM} {P : Int32 → MM → Prop} (h : w223 l0 l2 l3 l5 M P) : callX TBg sl sx (d + 4) 223 [vL l0, vI l2, vL l3, vL l5] M (PI P) :=
  cX (d := d + 3) q223 (false, tb223) rfl rfl rfl (t223_E l0 l2 l3 l5 M lenR h)
-- TwoLeashModel.signOf(JIJIJ)I
abbrev q220 : MQ7 := (6, 1, 15, 10, 0, 0, 1)
abbrev R220 (sl : Nat) (sx : Nat → Int32) (d : Nat) (M0 : MM) (P : Int32 → MM → Prop) : Nat → LL → List VV → MM → Prop := RN 10 false (mS M0).length (mT M0) 0 0 sl sx (callX TBg sl sx (d + 4)) (rtW q220 M0 (PI P)) (as2 tb220)
def w220_105 (s0 : Int32) (M : MM) (P : Int32 → MM → Prop) : Prop := P s0 M
theorem t220_105 {sl : Nat} {sx : Nat → Int32} {d : Nat} {M0 : MM} {P : Int32 → MM → Prop} (s0 : Int32) (M : MM) (hM : lenO M0 M) (h : w220_105  s0 M P) : R220 sl sx d M0 P 105 [none, none, none, none, none, none, none, none, none, none, none, none, none, none, none] [vI s0] M := by
  exact RN_k (callX_det _) 1 _ _ _ _ (show rtW q220 M0 (PI P) (some (vI s0)) M from ⟨⟨_, rfl⟩, hM.1, hM.2, _, rfl, h⟩)
def w220_47 (s0 : Int32) (M : MM) (P : Int32 → MM → Prop) : Prop := P s0 M
theorem t220_47 {sl : Nat} {sx : Nat → Int32} {d : Nat} {M0 : MM} {P : Int32 → MM → Prop} (s0 : Int32) (M : MM) (hM : lenO M0 M) (h : w220_47  s0 M P) : R220 sl sx d M0 P 47 [none, none, none, none, none, none, none, none, none, none, none, none, none, none, none] [vI s0] M := by
  exact RN_k (callX_det _) 1 _ _ _ _ (show rtW q220 M0 (PI P) (some (vI s0)) M from ⟨⟨_, rfl⟩, hM.1, hM.2, _, rfl, h⟩)
def w220_35 (l9 : Int32) (l10 : Int32) (M : MM) (P : Int32 → MM → Prop) : Prop := (l9 ≠ 0 → (w220_47  l9 M P)) ∧ (¬ (l9 ≠ 0) → (w220_47  l10 M P))
theorem t220_35 {sl : Nat} {sx : Nat → Int32} {d : Nat} {M0 : MM} {P : Int32 → MM → Prop} (l9 : Int32) (l10 : Int32) (M : MM) (hM : lenO M0 M) (h : w220_35  l9 l10 M P) : R220 sl sx d M0 P 35 [none, none, none, none, none, none, none, none, none, some (vI l9), some (vI l10), none, none, none, none] [] M := by
  refine RN_k (callX_det _) 2 _ _ _ _ (show (l9 ≠ 0 → R220 sl sx d M0 P 45 [none, none, none, none, none, none, none, none, none, some (vI l9), some (vI l10), none, none, none, none] [] M) ∧ (¬ (l9 ≠ 0) → R220 sl sx d M0 P 40 [none, none, none, none, none, none, none, none, none, some (vI l9), some (vI l10), none, none, none, none] [] M) from ⟨fun hc => ?_, fun hc => ?_⟩)
  · replace h := h.1 hc
    refine RN_k (callX_det _) 1 _ _ _ _ (show R220 sl sx d M0 P 47 [none, none, none, none, none, none, none, none, none, some (vI l9), some (vI l10), none, none, none, none] [vI l9] M from ?_)
    exact RN_weak (K := [none, none, none, none, none, none, none, none, none, none, none, none, none, none, none]) (callX_det _) (show True from trivial) (t220_47  l9 _ hM h)
  · replace h := h.2 hc
    refine RN_k (callX_det _) 2 _ _ _ _ (show R220 sl sx d M0 P 47 [none, none, none, none, none, none, none, none, none, some (vI l9), some (vI l10), none, none, none, none] [vI l10] M from ?_)
    exact RN_weak (K := [none, none, none, none, none, none, none, none, none, none, none, none, none, none, none]) (callX_det _) (show True from trivial) (t220_47  l10 _ hM h)
def w220 (l0 : Nat) (l1 : Int64) (l3 : Int32) (l4 : Int64) (l6 : Int32) (l7 : Int64) (M : MM) (P : Int32 → MM → Prop) : Prop := w221 l3 l4 l6 l7 M (fun r2 M1 => w222 l1 M1 (fun r4 M3 => (r2 = 0 → (w220_35  r2 r4 M3 P)) ∧ (¬ (r2 = 0) → ((r4 = 0 → (w220_35  r2 r4 M3 P)) ∧ (¬ (r4 = 0) → ((r2 ≠ r4 → (kd M3 l0 10 ∧ (w223 ((l4 + l7) - ((l1 * l1) * (mL M3 l0 30))) ((-l3) * l6) l4 l7 M3 (fun r6 M5 => (r6 ≠ 0 → ((r6 ≤ 0 → (w220_105  r4 M5 P)) ∧ (¬ (r6 ≤ 0) → (w220_105  r2 M5 P)))) ∧ (¬ (r6 ≠ 0) → (w220_105  (0 : Int32) M5 P)))))) ∧ (¬ (r2 ≠ r4) → (w220_35  r2 r4 M3 P))))))))
theorem t220_E {sl : Nat} {sx : Nat → Int32} {d : Nat} {M0 : MM} {P : Int32 → MM → Prop} (l0 : Nat) (l1 : Int64) (l3 : Int32) (l4 : Int64) (l6 : Int32) (l7 : Int64) (M : MM) (hM : lenO M0 M) (h : w220  l0 l1 l3 l4 l6 l7 M P) : R220 sl sx d M0 P 0 [some (vR (some l0)), some (vL l1), none, some (vI l3), some (vL l4), none, some (vI l6), some (vL l7), none, none, none, none, none, none, none] [] M := by
  refine RN_k (callX_det _) 5 _ _ _ _ (show callX TBg sl sx (d + 4) 221 [vI l3, vL l4, vI l6, vL l7] M (fun v M9 => R220 sl sx d M0 P 10 [some (vR (some l0)), some (vL l1), none, some (vI l3), some (vL l4), none, some (vI l6), some (vL l7), none, none, none, none, none, none, none] (pushO v []) M9) from ?_)
  refine callX_mono (callX_len (d := (d + 4)) rfl rfl rfl (c221 (d := d + 3) h)) ?_
  clear h
  rintro v9 M1 ⟨hl, r2, rfl, h⟩
  replace hM := lenT hM hl
  show R220 sl sx d M0 P 10 [some (vR (some l0)), some (vL l1), none, some (vI l3), some (vL l4), none, some (vI l6), some (vL l7), none, none, none, none, none, none, none] [vI r2] M1
  refine RN_k (callX_det _) 3 _ _ _ _ (show callX TBg sl sx (d + 4) 222 [vL l1] M1 (fun v M9 => R220 sl sx d M0 P 16 [some (vR (some l0)), some (vL l1), none, some (vI l3), some (vL l4), none, some (vI l6), some (vL l7), none, some (vI r2), none, none, none, none, none] (pushO v []) M9) from ?_)
  refine callX_mono (callX_len (d := (d + 4)) rfl rfl rfl (c222 (d := d + 3) h)) ?_
  clear h
  rintro v9 M3 ⟨hl, r4, rfl, h⟩
  replace hM := lenT hM hl
  show R220 sl sx d M0 P 16 [some (vR (some l0)), some (vL l1), none, some (vI l3), some (vL l4), none, some (vI l6), some (vL l7), none, some (vI r2), none, none, none, none, none] [vI r4] M3
  refine RN_k (callX_det _) 3 _ _ _ _ (show (r2 = 0 → R220 sl sx d M0 P 35 [some (vR (some l0)), some (vL l1), none, some (vI l3), some (vL l4), none, some (vI l6), some (vL l7), none, some (vI r2), some (vI r4), none, none, none, none] [] M3) ∧ (¬ (r2 = 0) → R220 sl sx d M0 P 23 [some (vR (some l0)), some (vL l1), none, some (vI l3), some (vL l4), none, some (vI l6), some (vL l7), none, some (vI r2), some (vI r4), none, none, none, none] [] M3) from ⟨fun hc => ?_, fun hc => ?_⟩)
  · replace h := h.1 hc
    exact RN_weak (K := [none, none, none, none, none, none, none, none, none, some (vI r2), some (vI r4), none, none, none, none]) (callX_det _) (show _ ∧ _ ∧ True from ⟨rfl, rfl, trivial⟩) (t220_35  r2 r4 _ hM h)
  · replace h := h.2 hc
    refine RN_k (callX_det _) 2 _ _ _ _ (show (r4 = 0 → R220 sl sx d M0 P 35 [some (vR (some l0)), some (vL l1), none, some (vI l3), some (vL l4), none, some (vI l6), some (vL l7), none, some (vI r2), some (vI r4), none, none, none, none] [] M3) ∧ (¬ (r4 = 0) → R220 sl sx d M0 P 28 [some (vR (some l0)), some (vL l1), none, some (vI l3), some (vL l4), none, some (vI l6), some (vL l7), none, some (vI r2), some (vI r4), none, none, none, none] [] M3) from ⟨fun hc => ?_, fun hc => ?_⟩)
    · replace h := h.1 hc
      exact RN_weak (K := [none, none, none, none, none, none, none, none, none, some (vI r2), some (vI r4), none, none, none, none]) (callX_det _) (show _ ∧ _ ∧ True from ⟨rfl, rfl, trivial⟩) (t220_35  r2 r4 _ hM h)
    · replace h := h.2 hc
      refine RN_k (callX_det _) 3 _ _ _ _ (show (r2 ≠ r4 → R220 sl sx d M0 P 48 [some (vR (some l0)), some (vL l1), none, some (vI l3), some (vL l4), none, some (vI l6), some (vL l7), none, some (vI r2), some (vI r4), none, none, none, none] [] M3) ∧ (¬ (r2 ≠ r4) → R220 sl sx d M0 P 35 [some (vR (some l0)), some (vL l1), none, some (vI l3), some (vL l4), none, some (vI l6), some (vL l7), none, some (vI r2), some (vI r4), none, none, none, none] [] M3) from ⟨fun hc => ?_, fun hc => ?_⟩)
      · replace h := h.1 hc
        refine RN_k (callX_det _) 8 _ _ _ _ (show kd M3 l0 10 ∧ R220 sl sx d M0 P 60 [some (vR (some l0)), some (vL l1), none, some (vI l3), some (vL l4), none, some (vI l6), some (vL l7), none, some (vI r2), some (vI r4), none, none, none, none] [vL (mL M3 l0 30), vL (l1 * l1), vL (l4 + l7)] M3 from ⟨h.1, ?_⟩)
        replace h := h.2
        refine RN_k (callX_det _) 13 _ _ _ _ (show callX TBg sl sx (d + 4) 223 [vL ((l4 + l7) - ((l1 * l1) * (mL M3 l0 30))), vI ((-l3) * l6), vL l4, vL l7] M3 (fun v M9 => R220 sl sx d M0 P 82 [some (vR (some l0)), some (vL l1), none, some (vI l3), some (vL l4), none, some (vI l6), some (vL l7), none, some (vI r2), some (vI r4), some (vL ((l4 + l7) - ((l1 * l1) * (mL M3 l0 30)))), none, some (vI ((-l3) * l6)), none] (pushO v []) M9) from ?_)
        refine callX_mono (callX_len (d := (d + 4)) rfl rfl rfl (c223 (d := d) h)) ?_
        clear h
        rintro v9 M5 ⟨hl, r6, rfl, h⟩
        replace hM := lenT hM hl
        show R220 sl sx d M0 P 82 [some (vR (some l0)), some (vL l1), none, some (vI l3), some (vL l4), none, some (vI l6), some (vL l7), none, some (vI r2), some (vI r4), some (vL ((l4 + l7) - ((l1 * l1) * (mL M3 l0 30)))), none, some (vI ((-l3) * l6)), none] [vI r6] M5
        refine RN_k (callX_det _) 3 _ _ _ _ (show (r6 ≠ 0 → R220 sl sx d M0 P 93 [some (vR (some l0)), some (vL l1), none, some (vI l3), some (vL l4), none, some (vI l6), some (vL l7), none, some (vI r2), some (vI r4), some (vL ((l4 + l7) - ((l1 * l1) * (mL M3 l0 30)))), none, some (vI ((-l3) * l6)), some (vI r6)] [] M5) ∧ (¬ (r6 ≠ 0) → R220 sl sx d M0 P 89 [some (vR (some l0)), some (vL l1), none, some (vI l3), some (vL l4), none, some (vI l6), some (vL l7), none, some (vI r2), some (vI r4), some (vL ((l4 + l7) - ((l1 * l1) * (mL M3 l0 30)))), none, some (vI ((-l3) * l6)), some (vI r6)] [] M5) from ⟨fun hc => ?_, fun hc => ?_⟩)
        · replace h := h.1 hc
          refine RN_k (callX_det _) 2 _ _ _ _ (show (r6 ≤ 0 → R220 sl sx d M0 P 103 [some (vR (some l0)), some (vL l1), none, some (vI l3), some (vL l4), none, some (vI l6), some (vL l7), none, some (vI r2), some (vI r4), some (vL ((l4 + l7) - ((l1 * l1) * (mL M3 l0 30)))), none, some (vI ((-l3) * l6)), some (vI r6)] [] M5) ∧ (¬ (r6 ≤ 0) → R220 sl sx d M0 P 98 [some (vR (some l0)), some (vL l1), none, some (vI l3), some (vL l4), none, some (vI l6), some (vL l7), none, some (vI r2), some (vI r4), some (vL ((l4 + l7) - ((l1 * l1) * (mL M3 l0 30)))), none, some (vI ((-l3) * l6)), some (vI r6)] [] M5) from ⟨fun hc => ?_, fun hc => ?_⟩)
          · replace h := h.1 hc
            refine RN_k (callX_det _) 1 _ _ _ _ (show R220 sl sx d M0 P 105 [some (vR (some l0)), some (vL l1), none, some (vI l3), some (vL l4), none, some (vI l6), some (vL l7), none, some (vI r2), some (vI r4), some (vL ((l4 + l7) - ((l1 * l1) * (mL M3 l0 30)))), none, some (vI ((-l3) * l6)), some (vI r6)] [vI r4] M5 from ?_)
            exact RN_weak (K := [none, none, none, none, none, none, none, none, none, none, none, none, none, none, none]) (callX_det _) (show True from trivial) (t220_105  r4 _ hM h)
          · replace h := h.2 hc
            refine RN_k (callX_det _) 2 _ _ _ _ (show R220 sl sx d M0 P 105 [some (vR (some l0)), some (vL l1), none, some (vI l3), some (vL l4), none, some (vI l6), some (vL l7), none, some (vI r2), some (vI r4), some (vL ((l4 + l7) - ((l1 * l1) * (mL M3 l0 30)))), none, some (vI ((-l3) * l6)), some (vI r6)] [vI r2] M5 from ?_)
            exact RN_weak (K := [none, none, none, none, none, none, none, none, none, none, none, none, none, none, none]) (callX_det _) (show True from trivial) (t220_105  r2 _ hM h)
        · replace h := h.2 hc
          refine RN_k (callX_det _) 2 _ _ _ _ (show R220 sl sx d M0 P 105 [some (vR (some l0)), some (vL l1), none, some (vI l3), some (vL l4), none, some (vI l6), some (vL l7), none, some (vI r2), some (vI r4), some (vL ((l4 + l7) - ((l1 * l1) * (mL M3 l0 30)))), none, some (vI ((-l3) * l6)), some (vI r6)] [vI (0 : Int32)] M5 from ?_)
          exact RN_weak (K := [none, none, none, none, none, none, none, none, none, none, none, none, none, none, none]) (callX_det _) (show True from trivial) (t220_105  (0 : Int32) _ hM h)
      · replace h := h.2 hc
        exact RN_weak (K := [none, none, none, none, none, none, none, none, none, some (vI r2), some (vI r4), none, none, none, none]) (callX_det _) (show _ ∧ _ ∧ True from ⟨rfl, rfl, trivial⟩) (t220_35  r2 r4 _ hM h)
theorem c220 {sl : Nat} {sx : Nat → Int32} {d : Nat} {l0 : Nat} {l1 : Int64} {l3 : Int32} {l4 : Int64} {l6 : Int32} {l7 : Int64} {M : MM} {P : Int32 → MM → Prop} (h : w220 l0 l1 l3 l4 l6 l7 M P) : callX TBg sl sx (d + 5) 220 [vR (some l0), vL l1, vI l3, vL l4, vI l6, vL l7] M (PI P) :=
  cX (d := d + 4) q220 (false, tb220) rfl rfl rfl (t220_E l0 l1 l3 l4 l6 l7 M lenR h)
-- TwoLeashModel.frees(ZII)V
abbrev q217 : MQ7 := (4, 1, 9, 10, 0, 0, 0)
abbrev R217 (sl : Nat) (sx : Nat → Int32) (d : Nat) (M0 : MM) (P : MM → Prop) : Nat → LL → List VV → MM → Prop := RN 10 false (mS M0).length (mT M0) 0 0 sl sx (callX TBg sl sx (d + 5)) (rtW q217 M0 (PV P)) (as2 tb217)
def w217_270 (s0 : Option Nat) (s1 : Int32) (s2 : Int32) (M : MM) (P : MM → Prop) : Prop := ∃ a1, s0 = some a1 ∧ (inb M a1 14 s1 ∧ (P (sI M a1 s1.toNatClampNeg (s2 &&& 1))))
theorem t217_270 {sl : Nat} {sx : Nat → Int32} {d : Nat} {M0 : MM} {P : MM → Prop} (s0 : Option Nat) (s1 : Int32) (s2 : Int32) (M : MM) (hM : lenO M0 M) (h : w217_270  s0 s1 s2 M P) : R217 sl sx d M0 P 270 [none, none, none, none, none, none, none, none, none] [vI s2, vI s1, vR s0] M := by
  obtain ⟨a1, he, h⟩ := h
  subst he
  refine RN_k (callX_det _) 1 _ _ _ _ (show inb M a1 14 s1 ∧ R217 sl sx d M0 P 271 [none, none, none, none, none, none, none, none, none] [] (sI M a1 s1.toNatClampNeg (s2 &&& 1)) from ⟨h.1, ?_⟩)
  replace h := h.2
  exact RN_k (callX_det _) 1 _ _ _ _ (show rtW q217 M0 (PV P) none (sI M a1 s1.toNatClampNeg (s2 &&& 1)) from ⟨rfl, hM.1, hM.2, rfl, h⟩)
def w217_269 (s0 : Option Nat) (s1 : Int32) (M : MM) (P : MM → Prop) : Prop := w217_270  s0 s1 (0 : Int32) M P
theorem t217_269 {sl : Nat} {sx : Nat → Int32} {d : Nat} {M0 : MM} {P : MM → Prop} (s0 : Option Nat) (s1 : Int32) (M : MM) (hM : lenO M0 M) (h : w217_269  s0 s1 M P) : R217 sl sx d M0 P 269 [none, none, none, none, none, none, none, none, none] [vI s1, vR s0] M := by
  refine RN_k (callX_det _) 1 _ _ _ _ (show R217 sl sx d M0 P 270 [none, none, none, none, none, none, none, none, none] [vI (0 : Int32), vI s1, vR s0] M from ?_)
  exact RN_weak (K := [none, none, none, none, none, none, none, none, none]) (callX_det _) (show True from trivial) (t217_270  s0 s1 (0 : Int32) _ hM h)
def w217_248 (l0 : Nat) (l4 : Int32) (l7 : Int32) (l8 : Int32) (s0 : Option Nat) (s1 : Int32) (s2 : Int64) (M : MM) (P : MM → Prop) : Prop := ∃ a1, s0 = some a1 ∧ (inb M a1 12 s1 ∧ (kd (sL M a1 s1.toNatClampNeg s2) l0 10 ∧ ((l7 = 0 → (w217_269  (mR (sL M a1 s1.toNatClampNeg s2) l0 36) l4 (sL M a1 s1.toNatClampNeg s2) P)) ∧ (¬ (l7 = 0) → ((l8 = 0 → (w217_269  (mR (sL M a1 s1.toNatClampNeg s2) l0 36) l4 (sL M a1 s1.toNatClampNeg s2) P)) ∧ (¬ (l8 = 0) → (w217_270  (mR (sL M a1 s1.toNatClampNeg s2) l0 36) l4 (1 : Int32) (sL M a1 s1.toNatClampNeg s2) P)))))))
theorem t217_248 {sl : Nat} {sx : Nat → Int32} {d : Nat} {M0 : MM} {P : MM → Prop} (l0 : Nat) (l4 : Int32) (l7 : Int32) (l8 : Int32) (s0 : Option Nat) (s1 : Int32) (s2 : Int64) (M : MM) (hM : lenO M0 M) (h : w217_248  l0 l4 l7 l8 s0 s1 s2 M P) : R217 sl sx d M0 P 248 [some (vR (some l0)), none, none, none, some (vI l4), none, none, some (vI l7), some (vI l8)] [vL s2, vI s1, vR s0] M := by
  obtain ⟨a1, he, h⟩ := h
  subst he
  refine RN_k (callX_det _) 1 _ _ _ _ (show inb M a1 12 s1 ∧ R217 sl sx d M0 P 249 [some (vR (some l0)), none, none, none, some (vI l4), none, none, some (vI l7), some (vI l8)] [] (sL M a1 s1.toNatClampNeg s2) from ⟨h.1, ?_⟩)
  replace h := h.2
  refine RN_k (callX_det _) 2 _ _ _ _ (show kd (sL M a1 s1.toNatClampNeg s2) l0 10 ∧ R217 sl sx d M0 P 253 [some (vR (some l0)), none, none, none, some (vI l4), none, none, some (vI l7), some (vI l8)] [vR (mR (sL M a1 s1.toNatClampNeg s2) l0 36)] (sL M a1 s1.toNatClampNeg s2) from ⟨h.1, ?_⟩)
  replace h := h.2
  refine RN_k (callX_det _) 3 _ _ _ _ (show (l7 = 0 → R217 sl sx d M0 P 269 [some (vR (some l0)), none, none, none, some (vI l4), none, none, some (vI l7), some (vI l8)] [vI l4, vR (mR (sL M a1 s1.toNatClampNeg s2) l0 36)] (sL M a1 s1.toNatClampNeg s2)) ∧ (¬ (l7 = 0) → R217 sl sx d M0 P 260 [some (vR (some l0)), none, none, none, some (vI l4), none, none, some (vI l7), some (vI l8)] [vI l4, vR (mR (sL M a1 s1.toNatClampNeg s2) l0 36)] (sL M a1 s1.toNatClampNeg s2)) from ⟨fun hc => ?_, fun hc => ?_⟩)
  · replace h := h.1 hc
    exact RN_weak (K := [none, none, none, none, none, none, none, none, none]) (callX_det _) (show True from trivial) (t217_269  (mR (sL M a1 s1.toNatClampNeg s2) l0 36) l4 _ hM h)
  · replace h := h.2 hc
    refine RN_k (callX_det _) 2 _ _ _ _ (show (l8 = 0 → R217 sl sx d M0 P 269 [some (vR (some l0)), none, none, none, some (vI l4), none, none, some (vI l7), some (vI l8)] [vI l4, vR (mR (sL M a1 s1.toNatClampNeg s2) l0 36)] (sL M a1 s1.toNatClampNeg s2)) ∧ (¬ (l8 = 0) → R217 sl sx d M0 P 265 [some (vR (some l0)), none, none, none, some (vI l4), none, none, some (vI l7), some (vI l8)] [vI l4, vR (mR (sL M a1 s1.toNatClampNeg s2) l0 36)] (sL M a1 s1.toNatClampNeg s2)) from ⟨fun hc => ?_, fun hc => ?_⟩)
    · replace h := h.1 hc
      exact RN_weak (K := [none, none, none, none, none, none, none, none, none]) (callX_det _) (show True from trivial) (t217_269  (mR (sL M a1 s1.toNatClampNeg s2) l0 36) l4 _ hM h)
    · replace h := h.2 hc
      refine RN_k (callX_det _) 2 _ _ _ _ (show R217 sl sx d M0 P 270 [some (vR (some l0)), none, none, none, some (vI l4), none, none, some (vI l7), some (vI l8)] [vI (1 : Int32), vI l4, vR (mR (sL M a1 s1.toNatClampNeg s2) l0 36)] (sL M a1 s1.toNatClampNeg s2) from ?_)
      exact RN_weak (K := [none, none, none, none, none, none, none, none, none]) (callX_det _) (show True from trivial) (t217_270  (mR (sL M a1 s1.toNatClampNeg s2) l0 36) l4 (1 : Int32) _ hM h)
def w217_230 (l0 : Nat) (l4 : Int32) (l5 : Int64) (l7 : Int32) (l8 : Int32) (s0 : Option Nat) (s1 : Int32) (s2 : Int64) (M : MM) (P : MM → Prop) : Prop := ∃ a1, s0 = some a1 ∧ (inb M a1 12 s1 ∧ (kd (sL M a1 s1.toNatClampNeg s2) l0 10 ∧ ((l8 = 0 → (w217_248  l0 l4 l7 l8 (mR (sL M a1 s1.toNatClampNeg s2) l0 40) l4 l5 (sL M a1 s1.toNatClampNeg s2) P)) ∧ (¬ (l8 = 0) → (w217_248  l0 l4 l7 l8 (mR (sL M a1 s1.toNatClampNeg s2) l0 40) l4 (0 : Int64) (sL M a1 s1.toNatClampNeg s2) P)))))
theorem t217_230 {sl : Nat} {sx : Nat → Int32} {d : Nat} {M0 : MM} {P : MM → Prop} (l0 : Nat) (l4 : Int32) (l5 : Int64) (l7 : Int32) (l8 : Int32) (s0 : Option Nat) (s1 : Int32) (s2 : Int64) (M : MM) (hM : lenO M0 M) (h : w217_230  l0 l4 l5 l7 l8 s0 s1 s2 M P) : R217 sl sx d M0 P 230 [some (vR (some l0)), none, none, none, some (vI l4), some (vL l5), none, some (vI l7), some (vI l8)] [vL s2, vI s1, vR s0] M := by
  obtain ⟨a1, he, h⟩ := h
  subst he
  refine RN_k (callX_det _) 1 _ _ _ _ (show inb M a1 12 s1 ∧ R217 sl sx d M0 P 231 [some (vR (some l0)), none, none, none, some (vI l4), some (vL l5), none, some (vI l7), some (vI l8)] [] (sL M a1 s1.toNatClampNeg s2) from ⟨h.1, ?_⟩)
  replace h := h.2
  refine RN_k (callX_det _) 2 _ _ _ _ (show kd (sL M a1 s1.toNatClampNeg s2) l0 10 ∧ R217 sl sx d M0 P 235 [some (vR (some l0)), none, none, none, some (vI l4), some (vL l5), none, some (vI l7), some (vI l8)] [vR (mR (sL M a1 s1.toNatClampNeg s2) l0 40)] (sL M a1 s1.toNatClampNeg s2) from ⟨h.1, ?_⟩)
  replace h := h.2
  refine RN_k (callX_det _) 3 _ _ _ _ (show (l8 = 0 → R217 sl sx d M0 P 246 [some (vR (some l0)), none, none, none, some (vI l4), some (vL l5), none, some (vI l7), some (vI l8)] [vI l4, vR (mR (sL M a1 s1.toNatClampNeg s2) l0 40)] (sL M a1 s1.toNatClampNeg s2)) ∧ (¬ (l8 = 0) → R217 sl sx d M0 P 242 [some (vR (some l0)), none, none, none, some (vI l4), some (vL l5), none, some (vI l7), some (vI l8)] [vI l4, vR (mR (sL M a1 s1.toNatClampNeg s2) l0 40)] (sL M a1 s1.toNatClampNeg s2)) from ⟨fun hc => ?_, fun hc => ?_⟩)
  · replace h := h.1 hc
    refine RN_k (callX_det _) 1 _ _ _ _ (show R217 sl sx d M0 P 248 [some (vR (some l0)), none, none, none, some (vI l4), some (vL l5), none, some (vI l7), some (vI l8)] [vL l5, vI l4, vR (mR (sL M a1 s1.toNatClampNeg s2) l0 40)] (sL M a1 s1.toNatClampNeg s2) from ?_)
    exact RN_weak (K := [some (vR (some l0)), none, none, none, some (vI l4), none, none, some (vI l7), some (vI l8)]) (callX_det _) (show _ ∧ _ ∧ _ ∧ _ ∧ True from ⟨rfl, rfl, rfl, rfl, trivial⟩) (t217_248  l0 l4 l7 l8 (mR (sL M a1 s1.toNatClampNeg s2) l0 40) l4 l5 _ hM h)
  · replace h := h.2 hc
    refine RN_k (callX_det _) 2 _ _ _ _ (show R217 sl sx d M0 P 248 [some (vR (some l0)), none, none, none, some (vI l4), some (vL l5), none, some (vI l7), some (vI l8)] [vL (0 : Int64), vI l4, vR (mR (sL M a1 s1.toNatClampNeg s2) l0 40)] (sL M a1 s1.toNatClampNeg s2) from ?_)
    exact RN_weak (K := [some (vR (some l0)), none, none, none, some (vI l4), none, none, some (vI l7), some (vI l8)]) (callX_det _) (show _ ∧ _ ∧ _ ∧ _ ∧ True from ⟨rfl, rfl, rfl, rfl, trivial⟩) (t217_248  l0 l4 l7 l8 (mR (sL M a1 s1.toNatClampNeg s2) l0 40) l4 (0 : Int64) _ hM h)
def w217_207 (l0 : Nat) (l4 : Int32) (l5 : Int64) (l7 : Int32) (l8 : Int32) (s0 : Option Nat) (s1 : Int32) (s2 : Int64) (M : MM) (P : MM → Prop) : Prop := ∃ a1, s0 = some a1 ∧ (inb M a1 12 s1 ∧ (kd (sL M a1 s1.toNatClampNeg s2) l0 10 ∧ ((l8 = 0 → (kd (sL M a1 s1.toNatClampNeg s2) l0 10 ∧ (w217_230  l0 l4 l5 l7 l8 (mR (sL M a1 s1.toNatClampNeg s2) l0 39) l4 (mL (sL M a1 s1.toNatClampNeg s2) l0 31) (sL M a1 s1.toNatClampNeg s2) P))) ∧ (¬ (l8 = 0) → (kd (sL M a1 s1.toNatClampNeg s2) l0 10 ∧ (w217_230  l0 l4 l5 l7 l8 (mR (sL M a1 s1.toNatClampNeg s2) l0 39) l4 (mL (sL M a1 s1.toNatClampNeg s2) l0 33) (sL M a1 s1.toNatClampNeg s2) P))))))
theorem t217_207 {sl : Nat} {sx : Nat → Int32} {d : Nat} {M0 : MM} {P : MM → Prop} (l0 : Nat) (l4 : Int32) (l5 : Int64) (l7 : Int32) (l8 : Int32) (s0 : Option Nat) (s1 : Int32) (s2 : Int64) (M : MM) (hM : lenO M0 M) (h : w217_207  l0 l4 l5 l7 l8 s0 s1 s2 M P) : R217 sl sx d M0 P 207 [some (vR (some l0)), none, none, none, some (vI l4), some (vL l5), none, some (vI l7), some (vI l8)] [vL s2, vI s1, vR s0] M := by
  obtain ⟨a1, he, h⟩ := h
  subst he
  refine RN_k (callX_det _) 1 _ _ _ _ (show inb M a1 12 s1 ∧ R217 sl sx d M0 P 208 [some (vR (some l0)), none, none, none, some (vI l4), some (vL l5), none, some (vI l7), some (vI l8)] [] (sL M a1 s1.toNatClampNeg s2) from ⟨h.1, ?_⟩)
  replace h := h.2
  refine RN_k (callX_det _) 2 _ _ _ _ (show kd (sL M a1 s1.toNatClampNeg s2) l0 10 ∧ R217 sl sx d M0 P 212 [some (vR (some l0)), none, none, none, some (vI l4), some (vL l5), none, some (vI l7), some (vI l8)] [vR (mR (sL M a1 s1.toNatClampNeg s2) l0 39)] (sL M a1 s1.toNatClampNeg s2) from ⟨h.1, ?_⟩)
  replace h := h.2
  refine RN_k (callX_det _) 3 _ _ _ _ (show (l8 = 0 → R217 sl sx d M0 P 226 [some (vR (some l0)), none, none, none, some (vI l4), some (vL l5), none, some (vI l7), some (vI l8)] [vI l4, vR (mR (sL M a1 s1.toNatClampNeg s2) l0 39)] (sL M a1 s1.toNatClampNeg s2)) ∧ (¬ (l8 = 0) → R217 sl sx d M0 P 219 [some (vR (some l0)), none, none, none, some (vI l4), some (vL l5), none, some (vI l7), some (vI l8)] [vI l4, vR (mR (sL M a1 s1.toNatClampNeg s2) l0 39)] (sL M a1 s1.toNatClampNeg s2)) from ⟨fun hc => ?_, fun hc => ?_⟩)
  · replace h := h.1 hc
    refine RN_k (callX_det _) 2 _ _ _ _ (show kd (sL M a1 s1.toNatClampNeg s2) l0 10 ∧ R217 sl sx d M0 P 230 [some (vR (some l0)), none, none, none, some (vI l4), some (vL l5), none, some (vI l7), some (vI l8)] [vL (mL (sL M a1 s1.toNatClampNeg s2) l0 31), vI l4, vR (mR (sL M a1 s1.toNatClampNeg s2) l0 39)] (sL M a1 s1.toNatClampNeg s2) from ⟨h.1, ?_⟩)
    replace h := h.2
    exact RN_weak (K := [some (vR (some l0)), none, none, none, some (vI l4), some (vL l5), none, some (vI l7), some (vI l8)]) (callX_det _) (show _ ∧ _ ∧ _ ∧ _ ∧ _ ∧ True from ⟨rfl, rfl, rfl, rfl, rfl, trivial⟩) (t217_230  l0 l4 l5 l7 l8 (mR (sL M a1 s1.toNatClampNeg s2) l0 39) l4 (mL (sL M a1 s1.toNatClampNeg s2) l0 31) _ hM h)
  · replace h := h.2 hc
    refine RN_k (callX_det _) 2 _ _ _ _ (show kd (sL M a1 s1.toNatClampNeg s2) l0 10 ∧ R217 sl sx d M0 P 223 [some (vR (some l0)), none, none, none, some (vI l4), some (vL l5), none, some (vI l7), some (vI l8)] [vL (mL (sL M a1 s1.toNatClampNeg s2) l0 33), vI l4, vR (mR (sL M a1 s1.toNatClampNeg s2) l0 39)] (sL M a1 s1.toNatClampNeg s2) from ⟨h.1, ?_⟩)
    replace h := h.2
    refine RN_k (callX_det _) 1 _ _ _ _ (show R217 sl sx d M0 P 230 [some (vR (some l0)), none, none, none, some (vI l4), some (vL l5), none, some (vI l7), some (vI l8)] [vL (mL (sL M a1 s1.toNatClampNeg s2) l0 33), vI l4, vR (mR (sL M a1 s1.toNatClampNeg s2) l0 39)] (sL M a1 s1.toNatClampNeg s2) from ?_)
    exact RN_weak (K := [some (vR (some l0)), none, none, none, some (vI l4), some (vL l5), none, some (vI l7), some (vI l8)]) (callX_det _) (show _ ∧ _ ∧ _ ∧ _ ∧ _ ∧ True from ⟨rfl, rfl, rfl, rfl, rfl, trivial⟩) (t217_230  l0 l4 l5 l7 l8 (mR (sL M a1 s1.toNatClampNeg s2) l0 39) l4 (mL (sL M a1 s1.toNatClampNeg s2) l0 33) _ hM h)
def w217_189 (l0 : Nat) (l4 : Int32) (l5 : Int64) (l7 : Int32) (l8 : Int32) (s0 : Option Nat) (s1 : Int32) (s2 : Int64) (M : MM) (P : MM → Prop) : Prop := ∃ a1, s0 = some a1 ∧ (inb M a1 12 s1 ∧ (kd (sL M a1 s1.toNatClampNeg s2) l0 10 ∧ ((l7 = 0 → (w217_207  l0 l4 l5 l7 l8 (mR (sL M a1 s1.toNatClampNeg s2) l0 38) l4 l5 (sL M a1 s1.toNatClampNeg s2) P)) ∧ (¬ (l7 = 0) → (w217_207  l0 l4 l5 l7 l8 (mR (sL M a1 s1.toNatClampNeg s2) l0 38) l4 (0 : Int64) (sL M a1 s1.toNatClampNeg s2) P)))))
theorem t217_189 {sl : Nat} {sx : Nat → Int32} {d : Nat} {M0 : MM} {P : MM → Prop} (l0 : Nat) (l4 : Int32) (l5 : Int64) (l7 : Int32) (l8 : Int32) (s0 : Option Nat) (s1 : Int32) (s2 : Int64) (M : MM) (hM : lenO M0 M) (h : w217_189  l0 l4 l5 l7 l8 s0 s1 s2 M P) : R217 sl sx d M0 P 189 [some (vR (some l0)), none, none, none, some (vI l4), some (vL l5), none, some (vI l7), some (vI l8)] [vL s2, vI s1, vR s0] M := by
  obtain ⟨a1, he, h⟩ := h
  subst he
  refine RN_k (callX_det _) 1 _ _ _ _ (show inb M a1 12 s1 ∧ R217 sl sx d M0 P 190 [some (vR (some l0)), none, none, none, some (vI l4), some (vL l5), none, some (vI l7), some (vI l8)] [] (sL M a1 s1.toNatClampNeg s2) from ⟨h.1, ?_⟩)
  replace h := h.2
  refine RN_k (callX_det _) 2 _ _ _ _ (show kd (sL M a1 s1.toNatClampNeg s2) l0 10 ∧ R217 sl sx d M0 P 194 [some (vR (some l0)), none, none, none, some (vI l4), some (vL l5), none, some (vI l7), some (vI l8)] [vR (mR (sL M a1 s1.toNatClampNeg s2) l0 38)] (sL M a1 s1.toNatClampNeg s2) from ⟨h.1, ?_⟩)
  replace h := h.2
  refine RN_k (callX_det _) 3 _ _ _ _ (show (l7 = 0 → R217 sl sx d M0 P 205 [some (vR (some l0)), none, none, none, some (vI l4), some (vL l5), none, some (vI l7), some (vI l8)] [vI l4, vR (mR (sL M a1 s1.toNatClampNeg s2) l0 38)] (sL M a1 s1.toNatClampNeg s2)) ∧ (¬ (l7 = 0) → R217 sl sx d M0 P 201 [some (vR (some l0)), none, none, none, some (vI l4), some (vL l5), none, some (vI l7), some (vI l8)] [vI l4, vR (mR (sL M a1 s1.toNatClampNeg s2) l0 38)] (sL M a1 s1.toNatClampNeg s2)) from ⟨fun hc => ?_, fun hc => ?_⟩)
  · replace h := h.1 hc
    refine RN_k (callX_det _) 1 _ _ _ _ (show R217 sl sx d M0 P 207 [some (vR (some l0)), none, none, none, some (vI l4), some (vL l5), none, some (vI l7), some (vI l8)] [vL l5, vI l4, vR (mR (sL M a1 s1.toNatClampNeg s2) l0 38)] (sL M a1 s1.toNatClampNeg s2) from ?_)
    exact RN_weak (K := [some (vR (some l0)), none, none, none, some (vI l4), some (vL l5), none, some (vI l7), some (vI l8)]) (callX_det _) (show _ ∧ _ ∧ _ ∧ _ ∧ _ ∧ True from ⟨rfl, rfl, rfl, rfl, rfl, trivial⟩) (t217_207  l0 l4 l5 l7 l8 (mR (sL M a1 s1.toNatClampNeg s2) l0 38) l4 l5 _ hM h)
  · replace h := h.2 hc
    refine RN_k (callX_det _) 2 _ _ _ _ (show R217 sl sx d M0 P 207 [some (vR (some l0)), none, none, none, some (vI l4), some (vL l5), none, some (vI l7), some (vI l8)] [vL (0 : Int64), vI l4, vR (mR (sL M a1 s1.toNatClampNeg s2) l0 38)] (sL M a1 s1.toNatClampNeg s2) from ?_)
    exact RN_weak (K := [some (vR (some l0)), none, none, none, some (vI l4), some (vL l5), none, some (vI l7), some (vI l8)]) (callX_det _) (show _ ∧ _ ∧ _ ∧ _ ∧ _ ∧ True from ⟨rfl, rfl, rfl, rfl, rfl, trivial⟩) (t217_207  l0 l4 l5 l7 l8 (mR (sL M a1 s1.toNatClampNeg s2) l0 38) l4 (0 : Int64) _ hM h)
def w217_168 (l0 : Nat) (l4 : Int32) (l5 : Int64) (l7 : Int32) (s0 : Int32) (M : MM) (P : MM → Prop) : Prop := kd M l0 10 ∧ ((l7 = 0 → (kd M l0 10 ∧ (w217_189  l0 l4 l5 l7 s0 (mR M l0 37) l4 (mL M l0 31) M P))) ∧ (¬ (l7 = 0) → (w217_189  l0 l4 l5 l7 s0 (mR M l0 37) l4 (0 : Int64) M P)))
theorem t217_168 {sl : Nat} {sx : Nat → Int32} {d : Nat} {M0 : MM} {P : MM → Prop} (l0 : Nat) (l4 : Int32) (l5 : Int64) (l7 : Int32) (s0 : Int32) (M : MM) (hM : lenO M0 M) (h : w217_168  l0 l4 l5 l7 s0 M P) : R217 sl sx d M0 P 168 [some (vR (some l0)), none, none, none, some (vI l4), some (vL l5), none, some (vI l7), none] [vI s0] M := by
  refine RN_k (callX_det _) 3 _ _ _ _ (show kd M l0 10 ∧ R217 sl sx d M0 P 174 [some (vR (some l0)), none, none, none, some (vI l4), some (vL l5), none, some (vI l7), some (vI s0)] [vR (mR M l0 37)] M from ⟨h.1, ?_⟩)
  replace h := h.2
  refine RN_k (callX_det _) 3 _ _ _ _ (show (l7 = 0 → R217 sl sx d M0 P 185 [some (vR (some l0)), none, none, none, some (vI l4), some (vL l5), none, some (vI l7), some (vI s0)] [vI l4, vR (mR M l0 37)] M) ∧ (¬ (l7 = 0) → R217 sl sx d M0 P 181 [some (vR (some l0)), none, none, none, some (vI l4), some (vL l5), none, some (vI l7), some (vI s0)] [vI l4, vR (mR M l0 37)] M) from ⟨fun hc => ?_, fun hc => ?_⟩)
  · replace h := h.1 hc
    refine RN_k (callX_det _) 2 _ _ _ _ (show kd M l0 10 ∧ R217 sl sx d M0 P 189 [some (vR (some l0)), none, none, none, some (vI l4), some (vL l5), none, some (vI l7), some (vI s0)] [vL (mL M l0 31), vI l4, vR (mR M l0 37)] M from ⟨h.1, ?_⟩)
    replace h := h.2
    exact RN_weak (K := [some (vR (some l0)), none, none, none, some (vI l4), some (vL l5), none, some (vI l7), some (vI s0)]) (callX_det _) (show _ ∧ _ ∧ _ ∧ _ ∧ _ ∧ True from ⟨rfl, rfl, rfl, rfl, rfl, trivial⟩) (t217_189  l0 l4 l5 l7 s0 (mR M l0 37) l4 (mL M l0 31) _ hM h)
  · replace h := h.2 hc
    refine RN_k (callX_det _) 2 _ _ _ _ (show R217 sl sx d M0 P 189 [some (vR (some l0)), none, none, none, some (vI l4), some (vL l5), none, some (vI l7), some (vI s0)] [vL (0 : Int64), vI l4, vR (mR M l0 37)] M from ?_)
    exact RN_weak (K := [some (vR (some l0)), none, none, none, some (vI l4), some (vL l5), none, some (vI l7), some (vI s0)]) (callX_det _) (show _ ∧ _ ∧ _ ∧ _ ∧ _ ∧ True from ⟨rfl, rfl, rfl, rfl, rfl, trivial⟩) (t217_189  l0 l4 l5 l7 s0 (mR M l0 37) l4 (0 : Int64) _ hM h)
def w217_140 (l0 : Nat) (l4 : Int32) (l5 : Int64) (s0 : Int32) (M : MM) (P : MM → Prop) : Prop := kd M l0 10 ∧ (kd M l0 10 ∧ (kd M l0 10 ∧ w220 l0 ((mL M l0 31) - (mL M l0 33)) (1 : Int32) l5 (1 : Int32) (0 : Int64) M (fun r2 M1 => (r2 < 0 → (w217_168  l0 l4 l5 s0 (0 : Int32) M1 P)) ∧ (¬ (r2 < 0) → (w217_168  l0 l4 l5 s0 (1 : Int32) M1 P)))))
theorem t217_140 {sl : Nat} {sx : Nat → Int32} {d : Nat} {M0 : MM} {P : MM → Prop} (l0 : Nat) (l4 : Int32) (l5 : Int64) (s0 : Int32) (M : MM) (hM : lenO M0 M) (h : w217_140  l0 l4 l5 s0 M P) : R217 sl sx d M0 P 140 [some (vR (some l0)), none, none, none, some (vI l4), some (vL l5), none, none, none] [vI s0] M := by
  refine RN_k (callX_det _) 4 _ _ _ _ (show kd M l0 10 ∧ R217 sl sx d M0 P 147 [some (vR (some l0)), none, none, none, some (vI l4), some (vL l5), none, some (vI s0), none] [vL (mL M l0 31), vR (some l0)] M from ⟨h.1, ?_⟩)
  replace h := h.2
  refine RN_k (callX_det _) 2 _ _ _ _ (show kd M l0 10 ∧ R217 sl sx d M0 P 151 [some (vR (some l0)), none, none, none, some (vI l4), some (vL l5), none, some (vI s0), none] [vL (mL M l0 33), vL (mL M l0 31), vR (some l0)] M from ⟨h.1, ?_⟩)
  replace h := h.2
  refine RN_k (callX_det _) 6 _ _ _ _ (show kd M l0 10 ∧ callX TBg sl sx (d + 5) 220 [vR (some l0), vL ((mL M l0 31) - (mL M l0 33)), vI (1 : Int32), vL l5, vI (1 : Int32), vL (0 : Int64)] M (fun v M9 => R217 sl sx d M0 P 160 [some (vR (some l0)), none, none, none, some (vI l4), some (vL l5), none, some (vI s0), none] (pushO v []) M9) from ⟨h.1, ?_⟩)
  replace h := h.2
  refine callX_mono (callX_len (d := (d + 5)) rfl rfl rfl (c220 (d := d) h)) ?_
  clear h
  rintro v9 M1 ⟨hl, r2, rfl, h⟩
  replace hM := lenT hM hl
  show R217 sl sx d M0 P 160 [some (vR (some l0)), none, none, none, some (vI l4), some (vL l5), none, some (vI s0), none] [vI r2] M1
  refine RN_k (callX_det _) 1 _ _ _ _ (show (r2 < 0 → R217 sl sx d M0 P 167 [some (vR (some l0)), none, none, none, some (vI l4), some (vL l5), none, some (vI s0), none] [] M1) ∧ (¬ (r2 < 0) → R217 sl sx d M0 P 163 [some (vR (some l0)), none, none, none, some (vI l4), some (vL l5), none, some (vI s0), none] [] M1) from ⟨fun hc => ?_, fun hc => ?_⟩)
  · replace h := h.1 hc
    refine RN_k (callX_det _) 1 _ _ _ _ (show R217 sl sx d M0 P 168 [some (vR (some l0)), none, none, none, some (vI l4), some (vL l5), none, some (vI s0), none] [vI (0 : Int32)] M1 from ?_)
    exact RN_weak (K := [some (vR (some l0)), none, none, none, some (vI l4), some (vL l5), none, some (vI s0), none]) (callX_det _) (show _ ∧ _ ∧ _ ∧ _ ∧ True from ⟨rfl, rfl, rfl, rfl, trivial⟩) (t217_168  l0 l4 l5 s0 (0 : Int32) _ hM h)
  · replace h := h.2 hc
    refine RN_k (callX_det _) 2 _ _ _ _ (show R217 sl sx d M0 P 168 [some (vR (some l0)), none, none, none, some (vI l4), some (vL l5), none, some (vI s0), none] [vI (1 : Int32)] M1 from ?_)
    exact RN_weak (K := [some (vR (some l0)), none, none, none, some (vI l4), some (vL l5), none, some (vI s0), none]) (callX_det _) (show _ ∧ _ ∧ _ ∧ _ ∧ True from ⟨rfl, rfl, rfl, rfl, trivial⟩) (t217_168  l0 l4 l5 s0 (1 : Int32) _ hM h)
def w217_107 (l0 : Nat) (l4 : Int32) (l5 : Int64) (s0 : Option Nat) (s1 : Int32) (s2 : Int32) (M : MM) (P : MM → Prop) : Prop := ∃ a1, s0 = some a1 ∧ (inb M a1 14 s1 ∧ (kd (sI M a1 s1.toNatClampNeg (s2 &&& 1)) l0 10 ∧ (∃ a2, mR (sI M a1 s1.toNatClampNeg (s2 &&& 1)) l0 34 = some a2 ∧ (inb (sI M a1 s1.toNatClampNeg (s2 &&& 1)) a2 14 l4 ∧ (((mI (sI M a1 s1.toNatClampNeg (s2 &&& 1)) a2 l4.toNatClampNeg) ≠ 0 → (kd (sI M a1 s1.toNatClampNeg (s2 &&& 1)) l0 10 ∧ (kd (sI M a1 s1.toNatClampNeg (s2 &&& 1)) l0 10 ∧ w220 l0 (mL (sI M a1 s1.toNatClampNeg (s2 &&& 1)) l0 31) (-1 : Int32) l5 (1 : Int32) (0 : Int64) (sI M a1 s1.toNatClampNeg (s2 &&& 1)) (fun r4 M3 => (0 < r4 → (w217_140  l0 l4 l5 (0 : Int32) M3 P)) ∧ (¬ (0 < r4) → (w217_140  l0 l4 l5 (1 : Int32) M3 P)))))) ∧ (¬ ((mI (sI M a1 s1.toNatClampNeg (s2 &&& 1)) a2 l4.toNatClampNeg) ≠ 0) → (P (sI M a1 s1.toNatClampNeg (s2 &&& 1)))))))))
theorem t217_107 {sl : Nat} {sx : Nat → Int32} {d : Nat} {M0 : MM} {P : MM → Prop} (l0 : Nat) (l4 : Int32) (l5 : Int64) (s0 : Option Nat) (s1 : Int32) (s2 : Int32) (M : MM) (hM : lenO M0 M) (h : w217_107  l0 l4 l5 s0 s1 s2 M P) : R217 sl sx d M0 P 107 [some (vR (some l0)), none, none, none, some (vI l4), some (vL l5), none, none, none] [vI s2, vI s1, vR s0] M := by
  obtain ⟨a1, he, h⟩ := h
  subst he
  refine RN_k (callX_det _) 1 _ _ _ _ (show inb M a1 14 s1 ∧ R217 sl sx d M0 P 108 [some (vR (some l0)), none, none, none, some (vI l4), some (vL l5), none, none, none] [] (sI M a1 s1.toNatClampNeg (s2 &&& 1)) from ⟨h.1, ?_⟩)
  replace h := h.2
  refine RN_k (callX_det _) 2 _ _ _ _ (show kd (sI M a1 s1.toNatClampNeg (s2 &&& 1)) l0 10 ∧ R217 sl sx d M0 P 112 [some (vR (some l0)), none, none, none, some (vI l4), some (vL l5), none, none, none] [vR (mR (sI M a1 s1.toNatClampNeg (s2 &&& 1)) l0 34)] (sI M a1 s1.toNatClampNeg (s2 &&& 1)) from ⟨h.1, ?_⟩)
  replace h := h.2
  obtain ⟨a2, he, h⟩ := h
  refine RN_k (callX_det _) 1 _ _ _ _ (show R217 sl sx d M0 P 114 [some (vR (some l0)), none, none, none, some (vI l4), some (vL l5), none, none, none] [vI l4, vR (mR (sI M a1 s1.toNatClampNeg (s2 &&& 1)) l0 34)] (sI M a1 s1.toNatClampNeg (s2 &&& 1)) from ?_)
  rw [he]
  refine RN_k (callX_det _) 1 _ _ _ _ (show inb (sI M a1 s1.toNatClampNeg (s2 &&& 1)) a2 14 l4 ∧ R217 sl sx d M0 P 115 [some (vR (some l0)), none, none, none, some (vI l4), some (vL l5), none, none, none] [vI (mI (sI M a1 s1.toNatClampNeg (s2 &&& 1)) a2 l4.toNatClampNeg)] (sI M a1 s1.toNatClampNeg (s2 &&& 1)) from ⟨h.1, ?_⟩)
  replace h := h.2
  refine RN_k (callX_det _) 1 _ _ _ _ (show ((mI (sI M a1 s1.toNatClampNeg (s2 &&& 1)) a2 l4.toNatClampNeg) ≠ 0 → R217 sl sx d M0 P 119 [some (vR (some l0)), none, none, none, some (vI l4), some (vL l5), none, none, none] [] (sI M a1 s1.toNatClampNeg (s2 &&& 1))) ∧ (¬ ((mI (sI M a1 s1.toNatClampNeg (s2 &&& 1)) a2 l4.toNatClampNeg) ≠ 0) → R217 sl sx d M0 P 118 [some (vR (some l0)), none, none, none, some (vI l4), some (vL l5), none, none, none] [] (sI M a1 s1.toNatClampNeg (s2 &&& 1))) from ⟨fun hc => ?_, fun hc => ?_⟩)
  · replace h := h.1 hc
    refine RN_k (callX_det _) 3 _ _ _ _ (show kd (sI M a1 s1.toNatClampNeg (s2 &&& 1)) l0 10 ∧ R217 sl sx d M0 P 124 [some (vR (some l0)), none, none, none, some (vI l4), some (vL l5), none, none, none] [vL (mL (sI M a1 s1.toNatClampNeg (s2 &&& 1)) l0 31), vR (some l0)] (sI M a1 s1.toNatClampNeg (s2 &&& 1)) from ⟨h.1, ?_⟩)
    replace h := h.2
    refine RN_k (callX_det _) 5 _ _ _ _ (show kd (sI M a1 s1.toNatClampNeg (s2 &&& 1)) l0 10 ∧ callX TBg sl sx (d + 5) 220 [vR (some l0), vL (mL (sI M a1 s1.toNatClampNeg (s2 &&& 1)) l0 31), vI (-1 : Int32), vL l5, vI (1 : Int32), vL (0 : Int64)] (sI M a1 s1.toNatClampNeg (s2 &&& 1)) (fun v M9 => R217 sl sx d M0 P 132 [some (vR (some l0)), none, none, none, some (vI l4), some (vL l5), none, none, none] (pushO v []) M9) from ⟨h.1, ?_⟩)
    replace h := h.2
    refine callX_mono (callX_len (d := (d + 5)) rfl rfl rfl (c220 (d := d) h)) ?_
    clear h
    rintro v9 M3 ⟨hl, r4, rfl, h⟩
    replace hM := lenT hM hl
    show R217 sl sx d M0 P 132 [some (vR (some l0)), none, none, none, some (vI l4), some (vL l5), none, none, none] [vI r4] M3
    refine RN_k (callX_det _) 1 _ _ _ _ (show (0 < r4 → R217 sl sx d M0 P 139 [some (vR (some l0)), none, none, none, some (vI l4), some (vL l5), none, none, none] [] M3) ∧ (¬ (0 < r4) → R217 sl sx d M0 P 135 [some (vR (some l0)), none, none, none, some (vI l4), some (vL l5), none, none, none] [] M3) from ⟨fun hc => ?_, fun hc => ?_⟩)
    · replace h := h.1 hc
      refine RN_k (callX_det _) 1 _ _ _ _ (show R217 sl sx d M0 P 140 [some (vR (some l0)), none, none, none, some (vI l4), some (vL l5), none, none, none] [vI (0 : Int32)] M3 from ?_)
      exact RN_weak (K := [some (vR (some l0)), none, none, none, some (vI l4), some (vL l5), none, none, none]) (callX_det _) (show _ ∧ _ ∧ _ ∧ True from ⟨rfl, rfl, rfl, trivial⟩) (t217_140  l0 l4 l5 (0 : Int32) _ hM h)
    · replace h := h.2 hc
      refine RN_k (callX_det _) 2 _ _ _ _ (show R217 sl sx d M0 P 140 [some (vR (some l0)), none, none, none, some (vI l4), some (vL l5), none, none, none] [vI (1 : Int32)] M3 from ?_)
      exact RN_weak (K := [some (vR (some l0)), none, none, none, some (vI l4), some (vL l5), none, none, none]) (callX_det _) (show _ ∧ _ ∧ _ ∧ True from ⟨rfl, rfl, rfl, trivial⟩) (t217_140  l0 l4 l5 (1 : Int32) _ hM h)
  · replace h := h.2 hc
    exact RN_k (callX_det _) 1 _ _ _ _ (show rtW q217 M0 (PV P) none (sI M a1 s1.toNatClampNeg (s2 &&& 1)) from ⟨rfl, hM.1, hM.2, rfl, h⟩)
def w217_106 (l0 : Nat) (l4 : Int32) (l5 : Int64) (s0 : Option Nat) (s1 : Int32) (M : MM) (P : MM → Prop) : Prop := w217_107  l0 l4 l5 s0 s1 (0 : Int32) M P
theorem t217_106 {sl : Nat} {sx : Nat → Int32} {d : Nat} {M0 : MM} {P : MM → Prop} (l0 : Nat) (l4 : Int32) (l5 : Int64) (s0 : Option Nat) (s1 : Int32) (M : MM) (hM : lenO M0 M) (h : w217_106  l0 l4 l5 s0 s1 M P) : R217 sl sx d M0 P 106 [some (vR (some l0)), none, none, none, some (vI l4), some (vL l5), none, none, none] [vI s1, vR s0] M := by
  refine RN_k (callX_det _) 1 _ _ _ _ (show R217 sl sx d M0 P 107 [some (vR (some l0)), none, none, none, some (vI l4), some (vL l5), none, none, none] [vI (0 : Int32), vI s1, vR s0] M from ?_)
  exact RN_weak (K := [some (vR (some l0)), none, none, none, some (vI l4), some (vL l5), none, none, none]) (callX_det _) (show _ ∧ _ ∧ _ ∧ True from ⟨rfl, rfl, rfl, trivial⟩) (t217_107  l0 l4 l5 s0 s1 (0 : Int32) _ hM h)
def w217_56 (l0 : Nat) (l4 : Int32) (l5 : Int64) (s0 : Option Nat) (M : MM) (P : MM → Prop) : Prop := ((lg_cmp l5 (0 : Int64)) < 0 → (w217_106  l0 l4 l5 s0 l4 M P)) ∧ (¬ ((lg_cmp l5 (0 : Int64)) < 0) → (kd M l0 10 ∧ (kd M l0 10 ∧ w220 l0 (mL M l0 31) (1 : Int32) l5 (1 : Int32) (0 : Int64) M (fun r2 M1 => (r2 < 0 → (w217_106  l0 l4 l5 s0 l4 M1 P)) ∧ (¬ (r2 < 0) → (kd M1 l0 10 ∧ (kd M1 l0 10 ∧ (kd M1 l0 10 ∧ w220 l0 ((mL M1 l0 31) - (mL M1 l0 33)) (-1 : Int32) l5 (1 : Int32) (0 : Int64) M1 (fun r4 M3 => (0 < r4 → (w217_106  l0 l4 l5 s0 l4 M3 P)) ∧ (¬ (0 < r4) → (w217_107  l0 l4 l5 s0 l4 (1 : Int32) M3 P)))))))))))
theorem t217_56 {sl : Nat} {sx : Nat → Int32} {d : Nat} {M0 : MM} {P : MM → Prop} (l0 : Nat) (l4 : Int32) (l5 : Int64) (s0 : Option Nat) (M : MM) (hM : lenO M0 M) (h : w217_56  l0 l4 l5 s0 M P) : R217 sl sx d M0 P 56 [some (vR (some l0)), none, none, none, some (vI l4), some (vL l5), none, none, none] [vR s0] M := by
  refine RN_k (callX_det _) 5 _ _ _ _ (show ((lg_cmp l5 (0 : Int64)) < 0 → R217 sl sx d M0 P 106 [some (vR (some l0)), none, none, none, some (vI l4), some (vL l5), none, none, none] [vI l4, vR s0] M) ∧ (¬ ((lg_cmp l5 (0 : Int64)) < 0) → R217 sl sx d M0 P 65 [some (vR (some l0)), none, none, none, some (vI l4), some (vL l5), none, none, none] [vI l4, vR s0] M) from ⟨fun hc => ?_, fun hc => ?_⟩)
  · replace h := h.1 hc
    exact RN_weak (K := [some (vR (some l0)), none, none, none, some (vI l4), some (vL l5), none, none, none]) (callX_det _) (show _ ∧ _ ∧ _ ∧ True from ⟨rfl, rfl, rfl, trivial⟩) (t217_106  l0 l4 l5 s0 l4 _ hM h)
  · replace h := h.2 hc
    refine RN_k (callX_det _) 3 _ _ _ _ (show kd M l0 10 ∧ R217 sl sx d M0 P 70 [some (vR (some l0)), none, none, none, some (vI l4), some (vL l5), none, none, none] [vL (mL M l0 31), vR (some l0), vI l4, vR s0] M from ⟨h.1, ?_⟩)
    replace h := h.2
    refine RN_k (callX_det _) 5 _ _ _ _ (show kd M l0 10 ∧ callX TBg sl sx (d + 5) 220 [vR (some l0), vL (mL M l0 31), vI (1 : Int32), vL l5, vI (1 : Int32), vL (0 : Int64)] M (fun v M9 => R217 sl sx d M0 P 78 [some (vR (some l0)), none, none, none, some (vI l4), some (vL l5), none, none, none] (pushO v [vI l4, vR s0]) M9) from ⟨h.1, ?_⟩)
    replace h := h.2
    refine callX_mono (callX_len (d := (d + 5)) rfl rfl rfl (c220 (d := d) h)) ?_
    clear h
    rintro v9 M1 ⟨hl, r2, rfl, h⟩
    replace hM := lenT hM hl
    show R217 sl sx d M0 P 78 [some (vR (some l0)), none, none, none, some (vI l4), some (vL l5), none, none, none] [vI r2, vI l4, vR s0] M1
    refine RN_k (callX_det _) 1 _ _ _ _ (show (r2 < 0 → R217 sl sx d M0 P 106 [some (vR (some l0)), none, none, none, some (vI l4), some (vL l5), none, none, none] [vI l4, vR s0] M1) ∧ (¬ (r2 < 0) → R217 sl sx d M0 P 81 [some (vR (some l0)), none, none, none, some (vI l4), some (vL l5), none, none, none] [vI l4, vR s0] M1) from ⟨fun hc => ?_, fun hc => ?_⟩)
    · replace h := h.1 hc
      exact RN_weak (K := [some (vR (some l0)), none, none, none, some (vI l4), some (vL l5), none, none, none]) (callX_det _) (show _ ∧ _ ∧ _ ∧ True from ⟨rfl, rfl, rfl, trivial⟩) (t217_106  l0 l4 l5 s0 l4 _ hM h)
    · replace h := h.2 hc
      refine RN_k (callX_det _) 3 _ _ _ _ (show kd M1 l0 10 ∧ R217 sl sx d M0 P 86 [some (vR (some l0)), none, none, none, some (vI l4), some (vL l5), none, none, none] [vL (mL M1 l0 31), vR (some l0), vI l4, vR s0] M1 from ⟨h.1, ?_⟩)
      replace h := h.2
      refine RN_k (callX_det _) 2 _ _ _ _ (show kd M1 l0 10 ∧ R217 sl sx d M0 P 90 [some (vR (some l0)), none, none, none, some (vI l4), some (vL l5), none, none, none] [vL (mL M1 l0 33), vL (mL M1 l0 31), vR (some l0), vI l4, vR s0] M1 from ⟨h.1, ?_⟩)
      replace h := h.2
      refine RN_k (callX_det _) 6 _ _ _ _ (show kd M1 l0 10 ∧ callX TBg sl sx (d + 5) 220 [vR (some l0), vL ((mL M1 l0 31) - (mL M1 l0 33)), vI (-1 : Int32), vL l5, vI (1 : Int32), vL (0 : Int64)] M1 (fun v M9 => R217 sl sx d M0 P 99 [some (vR (some l0)), none, none, none, some (vI l4), some (vL l5), none, none, none] (pushO v [vI l4, vR s0]) M9) from ⟨h.1, ?_⟩)
      replace h := h.2
      refine callX_mono (callX_len (d := (d + 5)) rfl rfl rfl (c220 (d := d) h)) ?_
      clear h
      rintro v9 M3 ⟨hl, r4, rfl, h⟩
      replace hM := lenT hM hl
      show R217 sl sx d M0 P 99 [some (vR (some l0)), none, none, none, some (vI l4), some (vL l5), none, none, none] [vI r4, vI l4, vR s0] M3
      refine RN_k (callX_det _) 1 _ _ _ _ (show (0 < r4 → R217 sl sx d M0 P 106 [some (vR (some l0)), none, none, none, some (vI l4), some (vL l5), none, none, none] [vI l4, vR s0] M3) ∧ (¬ (0 < r4) → R217 sl sx d M0 P 102 [some (vR (some l0)), none, none, none, some (vI l4), some (vL l5), none, none, none] [vI l4, vR s0] M3) from ⟨fun hc => ?_, fun hc => ?_⟩)
      · replace h := h.1 hc
        exact RN_weak (K := [some (vR (some l0)), none, none, none, some (vI l4), some (vL l5), none, none, none]) (callX_det _) (show _ ∧ _ ∧ _ ∧ True from ⟨rfl, rfl, rfl, trivial⟩) (t217_106  l0 l4 l5 s0 l4 _ hM h)
      · replace h := h.2 hc
        refine RN_k (callX_det _) 2 _ _ _ _ (show R217 sl sx d M0 P 107 [some (vR (some l0)), none, none, none, some (vI l4), some (vL l5), none, none, none] [vI (1 : Int32), vI l4, vR s0] M3 from ?_)
        exact RN_weak (K := [some (vR (some l0)), none, none, none, some (vI l4), some (vL l5), none, none, none]) (callX_det _) (show _ ∧ _ ∧ _ ∧ True from ⟨rfl, rfl, rfl, trivial⟩) (t217_107  l0 l4 l5 s0 l4 (1 : Int32) _ hM h)
def w217 (l0 : Nat) (l1 : Int32) (l2 : Int32) (l3 : Int32) (M : MM) (P : MM → Prop) : Prop := w218 l1 l2 l3 M (fun r2 M1 => kd M1 l0 10 ∧ w219 l0 l1 l2 l3 M1 (fun M3 => kd M3 l0 10 ∧ (kd M3 l0 10 ∧ (∃ a4, mR M3 l0 44 = some a4 ∧ (inb M3 a4 12 r2 ∧ (kd (sL M3 a4 r2.toNatClampNeg (mL M3 l0 33)) l0 10 ∧ (kd (sL M3 a4 r2.toNatClampNeg (mL M3 l0 33)) l0 10 ∧ (kd (sL M3 a4 r2.toNatClampNeg (mL M3 l0 33)) l0 10 ∧ (kd (sL M3 a4 r2.toNatClampNeg (mL M3 l0 33)) l0 10 ∧ (kd (sL M3 a4 r2.toNatClampNeg (mL M3 l0 33)) l0 10 ∧ (kd (sL M3 a4 r2.toNatClampNeg (mL M3 l0 33)) l0 10 ∧ (w217_56  l0 r2 (((mL (sL M3 a4 r2.toNatClampNeg (mL M3 l0 33)) l0 33) * (mL (sL M3 a4 r2.toNatClampNeg (mL M3 l0 33)) l0 29)) - (((mL (sL M3 a4 r2.toNatClampNeg (mL M3 l0 33)) l0 32) * (mL (sL M3 a4 r2.toNatClampNeg (mL M3 l0 33)) l0 32)) * (mL (sL M3 a4 r2.toNatClampNeg (mL M3 l0 33)) l0 30))) (mR (sL M3 a4 r2.toNatClampNeg (mL M3 l0 33)) l0 34) (sL M3 a4 r2.toNatClampNeg (mL M3 l0 33)) P))))))))))))
theorem t217_E {sl : Nat} {sx : Nat → Int32} {d : Nat} {M0 : MM} {P : MM → Prop} (l0 : Nat) (l1 : Int32) (l2 : Int32) (l3 : Int32) (M : MM) (hM : lenO M0 M) (h : w217  l0 l1 l2 l3 M P) : R217 sl sx d M0 P 0 [some (vR (some l0)), some (vI l1), some (vI l2), some (vI l3), none, none, none, none, none] [] M := by
  refine RN_k (callX_det _) 4 _ _ _ _ (show callX TBg sl sx (d + 5) 218 [vI l1, vI l2, vI l3] M (fun v M9 => R217 sl sx d M0 P 6 [some (vR (some l0)), some (vI l1), some (vI l2), some (vI l3), none, none, none, none, none] (pushO v []) M9) from ?_)
  refine callX_mono (callX_len (d := (d + 5)) rfl rfl rfl (c218 (d := d + 4) h)) ?_
  clear h
  rintro v9 M1 ⟨hl, r2, rfl, h⟩
  replace hM := lenT hM hl
  show R217 sl sx d M0 P 6 [some (vR (some l0)), some (vI l1), some (vI l2), some (vI l3), none, none, none, none, none] [vI r2] M1
  refine RN_k (callX_det _) 6 _ _ _ _ (show kd M1 l0 10 ∧ callX TBg sl sx (d + 5) 219 [vR (some l0), vI l1, vI l2, vI l3] M1 (fun v M9 => R217 sl sx d M0 P 15 [some (vR (some l0)), some (vI l1), some (vI l2), some (vI l3), some (vI r2), none, none, none, none] (pushO v []) M9) from ⟨h.1, ?_⟩)
  replace h := h.2
  refine callX_mono (callX_len (d := (d + 5)) rfl rfl rfl (c219 (d := d + 3) h)) ?_
  clear h
  rintro v9 M3 ⟨hl, rfl, h⟩
  replace hM := lenT hM hl
  show R217 sl sx d M0 P 15 [some (vR (some l0)), some (vI l1), some (vI l2), some (vI l3), some (vI r2), none, none, none, none] [] M3
  refine RN_k (callX_det _) 2 _ _ _ _ (show kd M3 l0 10 ∧ R217 sl sx d M0 P 19 [some (vR (some l0)), some (vI l1), some (vI l2), some (vI l3), some (vI r2), none, none, none, none] [vR (mR M3 l0 44)] M3 from ⟨h.1, ?_⟩)
  replace h := h.2
  refine RN_k (callX_det _) 3 _ _ _ _ (show kd M3 l0 10 ∧ R217 sl sx d M0 P 25 [some (vR (some l0)), some (vI l1), some (vI l2), some (vI l3), some (vI r2), none, none, none, none] [vL (mL M3 l0 33), vI r2, vR (mR M3 l0 44)] M3 from ⟨h.1, ?_⟩)
  replace h := h.2
  obtain ⟨a4, he, h⟩ := h
  rw [he]
  refine RN_k (callX_det _) 1 _ _ _ _ (show inb M3 a4 12 r2 ∧ R217 sl sx d M0 P 26 [some (vR (some l0)), some (vI l1), some (vI l2), some (vI l3), some (vI r2), none, none, none, none] [] (sL M3 a4 r2.toNatClampNeg (mL M3 l0 33)) from ⟨h.1, ?_⟩)
  replace h := h.2
  refine RN_k (callX_det _) 2 _ _ _ _ (show kd (sL M3 a4 r2.toNatClampNeg (mL M3 l0 33)) l0 10 ∧ R217 sl sx d M0 P 30 [some (vR (some l0)), some (vI l1), some (vI l2), some (vI l3), some (vI r2), none, none, none, none] [vL (mL (sL M3 a4 r2.toNatClampNeg (mL M3 l0 33)) l0 33)] (sL M3 a4 r2.toNatClampNeg (mL M3 l0 33)) from ⟨h.1, ?_⟩)
  replace h := h.2
  refine RN_k (callX_det _) 2 _ _ _ _ (show kd (sL M3 a4 r2.toNatClampNeg (mL M3 l0 33)) l0 10 ∧ R217 sl sx d M0 P 34 [some (vR (some l0)), some (vI l1), some (vI l2), some (vI l3), some (vI r2), none, none, none, none] [vL (mL (sL M3 a4 r2.toNatClampNeg (mL M3 l0 33)) l0 29), vL (mL (sL M3 a4 r2.toNatClampNeg (mL M3 l0 33)) l0 33)] (sL M3 a4 r2.toNatClampNeg (mL M3 l0 33)) from ⟨h.1, ?_⟩)
  replace h := h.2
  refine RN_k (callX_det _) 3 _ _ _ _ (show kd (sL M3 a4 r2.toNatClampNeg (mL M3 l0 33)) l0 10 ∧ R217 sl sx d M0 P 39 [some (vR (some l0)), some (vI l1), some (vI l2), some (vI l3), some (vI r2), none, none, none, none] [vL (mL (sL M3 a4 r2.toNatClampNeg (mL M3 l0 33)) l0 32), vL ((mL (sL M3 a4 r2.toNatClampNeg (mL M3 l0 33)) l0 33) * (mL (sL M3 a4 r2.toNatClampNeg (mL M3 l0 33)) l0 29))] (sL M3 a4 r2.toNatClampNeg (mL M3 l0 33)) from ⟨h.1, ?_⟩)
  replace h := h.2
  refine RN_k (callX_det _) 2 _ _ _ _ (show kd (sL M3 a4 r2.toNatClampNeg (mL M3 l0 33)) l0 10 ∧ R217 sl sx d M0 P 43 [some (vR (some l0)), some (vI l1), some (vI l2), some (vI l3), some (vI r2), none, none, none, none] [vL (mL (sL M3 a4 r2.toNatClampNeg (mL M3 l0 33)) l0 32), vL (mL (sL M3 a4 r2.toNatClampNeg (mL M3 l0 33)) l0 32), vL ((mL (sL M3 a4 r2.toNatClampNeg (mL M3 l0 33)) l0 33) * (mL (sL M3 a4 r2.toNatClampNeg (mL M3 l0 33)) l0 29))] (sL M3 a4 r2.toNatClampNeg (mL M3 l0 33)) from ⟨h.1, ?_⟩)
  replace h := h.2
  refine RN_k (callX_det _) 3 _ _ _ _ (show kd (sL M3 a4 r2.toNatClampNeg (mL M3 l0 33)) l0 10 ∧ R217 sl sx d M0 P 48 [some (vR (some l0)), some (vI l1), some (vI l2), some (vI l3), some (vI r2), none, none, none, none] [vL (mL (sL M3 a4 r2.toNatClampNeg (mL M3 l0 33)) l0 30), vL ((mL (sL M3 a4 r2.toNatClampNeg (mL M3 l0 33)) l0 32) * (mL (sL M3 a4 r2.toNatClampNeg (mL M3 l0 33)) l0 32)), vL ((mL (sL M3 a4 r2.toNatClampNeg (mL M3 l0 33)) l0 33) * (mL (sL M3 a4 r2.toNatClampNeg (mL M3 l0 33)) l0 29))] (sL M3 a4 r2.toNatClampNeg (mL M3 l0 33)) from ⟨h.1, ?_⟩)
  replace h := h.2
  refine RN_k (callX_det _) 5 _ _ _ _ (show kd (sL M3 a4 r2.toNatClampNeg (mL M3 l0 33)) l0 10 ∧ R217 sl sx d M0 P 56 [some (vR (some l0)), some (vI l1), some (vI l2), some (vI l3), some (vI r2), some (vL (((mL (sL M3 a4 r2.toNatClampNeg (mL M3 l0 33)) l0 33) * (mL (sL M3 a4 r2.toNatClampNeg (mL M3 l0 33)) l0 29)) - (((mL (sL M3 a4 r2.toNatClampNeg (mL M3 l0 33)) l0 32) * (mL (sL M3 a4 r2.toNatClampNeg (mL M3 l0 33)) l0 32)) * (mL (sL M3 a4 r2.toNatClampNeg (mL M3 l0 33)) l0 30)))), none, none, none] [vR (mR (sL M3 a4 r2.toNatClampNeg (mL M3 l0 33)) l0 34)] (sL M3 a4 r2.toNatClampNeg (mL M3 l0 33)) from ⟨h.1, ?_⟩)
  replace h := h.2
  exact RN_weak (K := [some (vR (some l0)), none, none, none, some (vI r2), some (vL (((mL (sL M3 a4 r2.toNatClampNeg (mL M3 l0 33)) l0 33) * (mL (sL M3 a4 r2.toNatClampNeg (mL M3 l0 33)) l0 29)) - (((mL (sL M3 a4 r2.toNatClampNeg (mL M3 l0 33)) l0 32) * (mL (sL M3 a4 r2.toNatClampNeg (mL M3 l0 33)) l0 32)) * (mL (sL M3 a4 r2.toNatClampNeg (mL M3 l0 33)) l0 30)))), none, none, none]) (callX_det _) (show _ ∧ _ ∧ _ ∧ True from ⟨rfl, rfl, rfl, trivial⟩) (t217_56  l0 r2 (((mL (sL M3 a4 r2.toNatClampNeg (mL M3 l0 33)) l0 33) * (mL (sL M3 a4 r2.toNatClampNeg (mL M3 l0 33)) l0 29)) - (((mL (sL M3 a4 r2.toNatClampNeg (mL M3 l0 33)) l0 32) * (mL (sL M3 a4 r2.toNatClampNeg (mL M3 l0 33)) l0 32)) * (mL (sL M3 a4 r2.toNatClampNeg (mL M3 l0 33)) l0 30))) (mR (sL M3 a4 r2.toNatClampNeg (mL M3 l0 33)) l0 34) _ hM h)
theorem c217 {sl : Nat} {sx : Nat → Int32} {d : Nat} {l0 : Nat} {l1 : Int32} {l2 : Int32} {l3 : Int32} {M : MM} {P : MM → Prop} (h : w217 l0 l1 l2 l3 M P) : callX TBg sl sx (d + 6) 217 [vR (some l0), vI l1, vI l2, vI l3] M (PV P) :=
  cX (d := d + 5) q217 (false, tb217) rfl rfl rfl (t217_E l0 l1 l2 l3 M lenR h)
-- TwoLeashModel.freesAll()V
abbrev q216 : MQ7 := (1, 1, 3, 10, 0, 0, 0)
abbrev R216 (sl : Nat) (sx : Nat → Int32) (d : Nat) (M0 : MM) (P : MM → Prop) : Nat → LL → List VV → MM → Prop := RN 10 false (mS M0).length (mT M0) 0 0 sl sx (callX TBg sl sx (d + 6)) (rtW q216 M0 (PV P)) (as2 tb216)
def w216_91 (k79 : Nat → Int32 → MM → Prop) : Nat → Nat → Int32 → Int32 → MM → (MM → Prop) → Prop
  | 0 => fun _ _ _ _ _ => False
  | n + 1 => fun l0 l1 l2 M P => kd M l0 10 ∧ (((mI M l0 28) ≤ l2 → (k79 l0 (l1 + (1 : Int32)) M)) ∧ (¬ ((mI M l0 28) ≤ l2) → (kd M l0 10 ∧ w217 l0 (0 : Int32) l1 l2 M (fun M1 => w216_91 k79 n l0 l1 (l2 + (1 : Int32)) M1 P))))
theorem t216_91 {sl : Nat} {sx : Nat → Int32} {d : Nat} {M0 : MM} {P : MM → Prop} {k79 : Nat → Int32 → MM → Prop} (hk79 : ∀ (l0 : Nat) (l1 : Int32) (M : MM), lenO M0 M → k79 l0 l1 M → R216 sl sx d M0 P 79 [some (vR (some l0)), some (vI l1), none] [] M) (n : Nat) : ∀ (l0 : Nat) (l1 : Int32) (l2 : Int32) (M : MM) (_ : lenO M0 M) (_ : w216_91 k79 n l0 l1 l2 M P), R216 sl sx d M0 P 91 [some (vR (some l0)), some (vI l1), some (vI l2)] [] M := by
  induction n with
  | zero => intro l0 l1 l2 M hM h; cases h
  | succ n ih =>
    intro l0 l1 l2 M hM h
    refine RN_k (callX_det _) 3 _ _ _ _ (show kd M l0 10 ∧ R216 sl sx d M0 P 96 [some (vR (some l0)), some (vI l1), some (vI l2)] [vI (mI M l0 28), vI l2] M from ⟨h.1, ?_⟩)
    replace h := h.2
    refine RN_k (callX_det _) 1 _ _ _ _ (show ((mI M l0 28) ≤ l2 → R216 sl sx d M0 P 112 [some (vR (some l0)), some (vI l1), some (vI l2)] [] M) ∧ (¬ ((mI M l0 28) ≤ l2) → R216 sl sx d M0 P 99 [some (vR (some l0)), some (vI l1), some (vI l2)] [] M) from ⟨fun hc => ?_, fun hc => ?_⟩)
    · replace h := h.1 hc
      refine RN_k (callX_det _) 2 _ _ _ _ (show R216 sl sx d M0 P 79 [some (vR (some l0)), some (vI (l1 + (1 : Int32))), some (vI l2)] [] M from ?_)
      exact RN_weak (K := [some (vR (some l0)), some (vI (l1 + (1 : Int32))), none]) (callX_det _) (show _ ∧ _ ∧ True from ⟨rfl, rfl, trivial⟩) (hk79 l0 (l1 + (1 : Int32)) _ hM h)
    · replace h := h.2 hc
      refine RN_k (callX_det _) 5 _ _ _ _ (show kd M l0 10 ∧ callX TBg sl sx (d + 6) 217 [vR (some l0), vI (0 : Int32), vI l1, vI l2] M (fun v M9 => R216 sl sx d M0 P 106 [some (vR (some l0)), some (vI l1), some (vI l2)] (pushO v []) M9) from ⟨h.1, ?_⟩)
      replace h := h.2
      refine callX_mono (callX_len (d := (d + 6)) rfl rfl rfl (c217 (d := d) h)) ?_
      clear h
      rintro v9 M1 ⟨hl, rfl, h⟩
      replace hM := lenT hM hl
      show R216 sl sx d M0 P 106 [some (vR (some l0)), some (vI l1), some (vI l2)] [] M1
      refine RN_k (callX_det _) 2 _ _ _ _ (show R216 sl sx d M0 P 91 [some (vR (some l0)), some (vI l1), some (vI (l2 + (1 : Int32)))] [] M1 from ?_)
      exact RN_weak (K := [some (vR (some l0)), some (vI l1), some (vI (l2 + (1 : Int32)))]) (callX_det _) (show _ ∧ _ ∧ _ ∧ True from ⟨rfl, rfl, rfl, trivial⟩) (ih l0 l1 (l2 + (1 : Int32)) _ hM h)
def w216_79 : Nat → Nat → Int32 → MM → (MM → Prop) → Prop
  | 0 => fun _ _ _ _ => False
  | n + 1 => fun l0 l1 M P => kd M l0 10 ∧ ((((mI M l0 27) - (1 : Int32)) ≤ l1 → (P M)) ∧ (¬ (((mI M l0 27) - (1 : Int32)) ≤ l1) → (∃ n2, w216_91 (fun z0 z1 z2 => w216_79  n z0 z1 z2 P) n2 l0 l1 (0 : Int32) M P)))
theorem t216_79 {sl : Nat} {sx : Nat → Int32} {d : Nat} {M0 : MM} {P : MM → Prop} (n : Nat) : ∀ (l0 : Nat) (l1 : Int32) (M : MM) (_ : lenO M0 M) (_ : w216_79  n l0 l1 M P), R216 sl sx d M0 P 79 [some (vR (some l0)), some (vI l1), none] [] M := by
  induction n with
  | zero => intro l0 l1 M hM h; cases h
  | succ n ih =>
    intro l0 l1 M hM h
    refine RN_k (callX_det _) 3 _ _ _ _ (show kd M l0 10 ∧ R216 sl sx d M0 P 84 [some (vR (some l0)), some (vI l1), none] [vI (mI M l0 27), vI l1] M from ⟨h.1, ?_⟩)
    replace h := h.2
    refine RN_k (callX_det _) 3 _ _ _ _ (show (((mI M l0 27) - (1 : Int32)) ≤ l1 → R216 sl sx d M0 P 118 [some (vR (some l0)), some (vI l1), none] [] M) ∧ (¬ (((mI M l0 27) - (1 : Int32)) ≤ l1) → R216 sl sx d M0 P 89 [some (vR (some l0)), some (vI l1), none] [] M) from ⟨fun hc => ?_, fun hc => ?_⟩)
    · replace h := h.1 hc
      exact RN_k (callX_det _) 1 _ _ _ _ (show rtW q216 M0 (PV P) none M from ⟨rfl, hM.1, hM.2, rfl, h⟩)
    · replace h := h.2 hc
      refine RN_k (callX_det _) 2 _ _ _ _ (show R216 sl sx d M0 P 91 [some (vR (some l0)), some (vI l1), some (vI (0 : Int32))] [] M from ?_)
      obtain ⟨n2, h⟩ := h
      exact RN_weak (K := [some (vR (some l0)), some (vI l1), some (vI (0 : Int32))]) (callX_det _) (show _ ∧ _ ∧ _ ∧ True from ⟨rfl, rfl, rfl, trivial⟩) (t216_91 ih n2 l0 l1 (0 : Int32) _ hM h)
def w216_48 (k38 : Nat → Int32 → MM → Prop) : Nat → Nat → Int32 → Int32 → MM → (MM → Prop) → Prop
  | 0 => fun _ _ _ _ _ => False
  | n + 1 => fun l0 l1 l2 M P => kd M l0 10 ∧ ((((mI M l0 28) - (1 : Int32)) ≤ l2 → (k38 l0 (l1 + (1 : Int32)) M)) ∧ (¬ (((mI M l0 28) - (1 : Int32)) ≤ l2) → (kd M l0 10 ∧ w217 l0 (1 : Int32) l1 l2 M (fun M1 => w216_48 k38 n l0 l1 (l2 + (1 : Int32)) M1 P))))
theorem t216_48 {sl : Nat} {sx : Nat → Int32} {d : Nat} {M0 : MM} {P : MM → Prop} {k38 : Nat → Int32 → MM → Prop} (hk38 : ∀ (l0 : Nat) (l1 : Int32) (M : MM), lenO M0 M → k38 l0 l1 M → R216 sl sx d M0 P 38 [some (vR (some l0)), some (vI l1), none] [] M) (n : Nat) : ∀ (l0 : Nat) (l1 : Int32) (l2 : Int32) (M : MM) (_ : lenO M0 M) (_ : w216_48 k38 n l0 l1 l2 M P), R216 sl sx d M0 P 48 [some (vR (some l0)), some (vI l1), some (vI l2)] [] M := by
  induction n with
  | zero => intro l0 l1 l2 M hM h; cases h
  | succ n ih =>
    intro l0 l1 l2 M hM h
    refine RN_k (callX_det _) 3 _ _ _ _ (show kd M l0 10 ∧ R216 sl sx d M0 P 53 [some (vR (some l0)), some (vI l1), some (vI l2)] [vI (mI M l0 28), vI l2] M from ⟨h.1, ?_⟩)
    replace h := h.2
    refine RN_k (callX_det _) 3 _ _ _ _ (show (((mI M l0 28) - (1 : Int32)) ≤ l2 → R216 sl sx d M0 P 71 [some (vR (some l0)), some (vI l1), some (vI l2)] [] M) ∧ (¬ (((mI M l0 28) - (1 : Int32)) ≤ l2) → R216 sl sx d M0 P 58 [some (vR (some l0)), some (vI l1), some (vI l2)] [] M) from ⟨fun hc => ?_, fun hc => ?_⟩)
    · replace h := h.1 hc
      refine RN_k (callX_det _) 2 _ _ _ _ (show R216 sl sx d M0 P 38 [some (vR (some l0)), some (vI (l1 + (1 : Int32))), some (vI l2)] [] M from ?_)
      exact RN_weak (K := [some (vR (some l0)), some (vI (l1 + (1 : Int32))), none]) (callX_det _) (show _ ∧ _ ∧ True from ⟨rfl, rfl, trivial⟩) (hk38 l0 (l1 + (1 : Int32)) _ hM h)
    · replace h := h.2 hc
      refine RN_k (callX_det _) 5 _ _ _ _ (show kd M l0 10 ∧ callX TBg sl sx (d + 6) 217 [vR (some l0), vI (1 : Int32), vI l1, vI l2] M (fun v M9 => R216 sl sx d M0 P 65 [some (vR (some l0)), some (vI l1), some (vI l2)] (pushO v []) M9) from ⟨h.1, ?_⟩)
      replace h := h.2
      refine callX_mono (callX_len (d := (d + 6)) rfl rfl rfl (c217 (d := d) h)) ?_
      clear h
      rintro v9 M1 ⟨hl, rfl, h⟩
      replace hM := lenT hM hl
      show R216 sl sx d M0 P 65 [some (vR (some l0)), some (vI l1), some (vI l2)] [] M1
      refine RN_k (callX_det _) 2 _ _ _ _ (show R216 sl sx d M0 P 48 [some (vR (some l0)), some (vI l1), some (vI (l2 + (1 : Int32)))] [] M1 from ?_)
      exact RN_weak (K := [some (vR (some l0)), some (vI l1), some (vI (l2 + (1 : Int32)))]) (callX_det _) (show _ ∧ _ ∧ _ ∧ True from ⟨rfl, rfl, rfl, trivial⟩) (ih l0 l1 (l2 + (1 : Int32)) _ hM h)
def w216_38 : Nat → Nat → Int32 → MM → (MM → Prop) → Prop
  | 0 => fun _ _ _ _ => False
  | n + 1 => fun l0 l1 M P => kd M l0 10 ∧ (((mI M l0 27) ≤ l1 → (∃ n2, w216_79  n2 l0 (0 : Int32) M P)) ∧ (¬ ((mI M l0 27) ≤ l1) → (∃ n2, w216_48 (fun z0 z1 z2 => w216_38  n z0 z1 z2 P) n2 l0 l1 (0 : Int32) M P)))
theorem t216_38 {sl : Nat} {sx : Nat → Int32} {d : Nat} {M0 : MM} {P : MM → Prop} (n : Nat) : ∀ (l0 : Nat) (l1 : Int32) (M : MM) (_ : lenO M0 M) (_ : w216_38  n l0 l1 M P), R216 sl sx d M0 P 38 [some (vR (some l0)), some (vI l1), none] [] M := by
  induction n with
  | zero => intro l0 l1 M hM h; cases h
  | succ n ih =>
    intro l0 l1 M hM h
    refine RN_k (callX_det _) 3 _ _ _ _ (show kd M l0 10 ∧ R216 sl sx d M0 P 43 [some (vR (some l0)), some (vI l1), none] [vI (mI M l0 27), vI l1] M from ⟨h.1, ?_⟩)
    replace h := h.2
    refine RN_k (callX_det _) 1 _ _ _ _ (show ((mI M l0 27) ≤ l1 → R216 sl sx d M0 P 77 [some (vR (some l0)), some (vI l1), none] [] M) ∧ (¬ ((mI M l0 27) ≤ l1) → R216 sl sx d M0 P 46 [some (vR (some l0)), some (vI l1), none] [] M) from ⟨fun hc => ?_, fun hc => ?_⟩)
    · replace h := h.1 hc
      refine RN_k (callX_det _) 2 _ _ _ _ (show R216 sl sx d M0 P 79 [some (vR (some l0)), some (vI (0 : Int32)), none] [] M from ?_)
      obtain ⟨n2, h⟩ := h
      exact RN_weak (K := [some (vR (some l0)), some (vI (0 : Int32)), none]) (callX_det _) (show _ ∧ _ ∧ True from ⟨rfl, rfl, trivial⟩) (t216_79  n2 l0 (0 : Int32) _ hM h)
    · replace h := h.2 hc
      refine RN_k (callX_det _) 2 _ _ _ _ (show R216 sl sx d M0 P 48 [some (vR (some l0)), some (vI l1), some (vI (0 : Int32))] [] M from ?_)
      obtain ⟨n2, h⟩ := h
      exact RN_weak (K := [some (vR (some l0)), some (vI l1), some (vI (0 : Int32))]) (callX_det _) (show _ ∧ _ ∧ _ ∧ True from ⟨rfl, rfl, rfl, trivial⟩) (t216_48 ih n2 l0 l1 (0 : Int32) _ hM h)
def w216_2 : Nat → Nat → Int32 → MM → (MM → Prop) → Prop
  | 0 => fun _ _ _ _ => False
  | n + 1 => fun l0 l1 M P => ((128 : Int32) ≤ l1 → (∃ n2, w216_38  n2 l0 (0 : Int32) M P)) ∧ (¬ ((128 : Int32) ≤ l1) → (kd M l0 10 ∧ (∃ a1, mR M l0 34 = some a1 ∧ (inb M a1 14 l1 ∧ (kd (sI M a1 l1.toNatClampNeg ((0 : Int32) &&& 1)) l0 10 ∧ (∃ a2, mR (sI M a1 l1.toNatClampNeg ((0 : Int32) &&& 1)) l0 35 = some a2 ∧ (inb (sI M a1 l1.toNatClampNeg ((0 : Int32) &&& 1)) a2 14 l1 ∧ (kd (sI (sI M a1 l1.toNatClampNeg ((0 : Int32) &&& 1)) a2 l1.toNatClampNeg ((0 : Int32) &&& 1)) l0 10 ∧ (∃ a3, mR (sI (sI M a1 l1.toNatClampNeg ((0 : Int32) &&& 1)) a2 l1.toNatClampNeg ((0 : Int32) &&& 1)) l0 36 = some a3 ∧ (inb (sI (sI M a1 l1.toNatClampNeg ((0 : Int32) &&& 1)) a2 l1.toNatClampNeg ((0 : Int32) &&& 1)) a3 14 l1 ∧ (w216_2  n l0 (l1 + (1 : Int32)) (sI (sI (sI M a1 l1.toNatClampNeg ((0 : Int32) &&& 1)) a2 l1.toNatClampNeg ((0 : Int32) &&& 1)) a3 l1.toNatClampNeg ((0 : Int32) &&& 1)) P)))))))))))
theorem t216_2 {sl : Nat} {sx : Nat → Int32} {d : Nat} {M0 : MM} {P : MM → Prop} (n : Nat) : ∀ (l0 : Nat) (l1 : Int32) (M : MM) (_ : lenO M0 M) (_ : w216_2  n l0 l1 M P), R216 sl sx d M0 P 2 [some (vR (some l0)), some (vI l1), none] [] M := by
  induction n with
  | zero => intro l0 l1 M hM h; cases h
  | succ n ih =>
    intro l0 l1 M hM h
    refine RN_k (callX_det _) 3 _ _ _ _ (show ((128 : Int32) ≤ l1 → R216 sl sx d M0 P 36 [some (vR (some l0)), some (vI l1), none] [] M) ∧ (¬ ((128 : Int32) ≤ l1) → R216 sl sx d M0 P 9 [some (vR (some l0)), some (vI l1), none] [] M) from ⟨fun hc => ?_, fun hc => ?_⟩)
    · replace h := h.1 hc
      refine RN_k (callX_det _) 2 _ _ _ _ (show R216 sl sx d M0 P 38 [some (vR (some l0)), some (vI (0 : Int32)), none] [] M from ?_)
      obtain ⟨n2, h⟩ := h
      exact RN_weak (K := [some (vR (some l0)), some (vI (0 : Int32)), none]) (callX_det _) (show _ ∧ _ ∧ True from ⟨rfl, rfl, trivial⟩) (t216_38  n2 l0 (0 : Int32) _ hM h)
    · replace h := h.2 hc
      refine RN_k (callX_det _) 2 _ _ _ _ (show kd M l0 10 ∧ R216 sl sx d M0 P 13 [some (vR (some l0)), some (vI l1), none] [vR (mR M l0 34)] M from ⟨h.1, ?_⟩)
      replace h := h.2
      obtain ⟨a1, he, h⟩ := h
      refine RN_k (callX_det _) 2 _ _ _ _ (show R216 sl sx d M0 P 15 [some (vR (some l0)), some (vI l1), none] [vI (0 : Int32), vI l1, vR (mR M l0 34)] M from ?_)
      rw [he]
      refine RN_k (callX_det _) 1 _ _ _ _ (show inb M a1 14 l1 ∧ R216 sl sx d M0 P 16 [some (vR (some l0)), some (vI l1), none] [] (sI M a1 l1.toNatClampNeg ((0 : Int32) &&& 1)) from ⟨h.1, ?_⟩)
      replace h := h.2
      refine RN_k (callX_det _) 2 _ _ _ _ (show kd (sI M a1 l1.toNatClampNeg ((0 : Int32) &&& 1)) l0 10 ∧ R216 sl sx d M0 P 20 [some (vR (some l0)), some (vI l1), none] [vR (mR (sI M a1 l1.toNatClampNeg ((0 : Int32) &&& 1)) l0 35)] (sI M a1 l1.toNatClampNeg ((0 : Int32) &&& 1)) from ⟨h.1, ?_⟩)
      replace h := h.2
      obtain ⟨a2, he, h⟩ := h
      refine RN_k (callX_det _) 2 _ _ _ _ (show R216 sl sx d M0 P 22 [some (vR (some l0)), some (vI l1), none] [vI (0 : Int32), vI l1, vR (mR (sI M a1 l1.toNatClampNeg ((0 : Int32) &&& 1)) l0 35)] (sI M a1 l1.toNatClampNeg ((0 : Int32) &&& 1)) from ?_)
      rw [he]
      refine RN_k (callX_det _) 1 _ _ _ _ (show inb (sI M a1 l1.toNatClampNeg ((0 : Int32) &&& 1)) a2 14 l1 ∧ R216 sl sx d M0 P 23 [some (vR (some l0)), some (vI l1), none] [] (sI (sI M a1 l1.toNatClampNeg ((0 : Int32) &&& 1)) a2 l1.toNatClampNeg ((0 : Int32) &&& 1)) from ⟨h.1, ?_⟩)
      replace h := h.2
      refine RN_k (callX_det _) 2 _ _ _ _ (show kd (sI (sI M a1 l1.toNatClampNeg ((0 : Int32) &&& 1)) a2 l1.toNatClampNeg ((0 : Int32) &&& 1)) l0 10 ∧ R216 sl sx d M0 P 27 [some (vR (some l0)), some (vI l1), none] [vR (mR (sI (sI M a1 l1.toNatClampNeg ((0 : Int32) &&& 1)) a2 l1.toNatClampNeg ((0 : Int32) &&& 1)) l0 36)] (sI (sI M a1 l1.toNatClampNeg ((0 : Int32) &&& 1)) a2 l1.toNatClampNeg ((0 : Int32) &&& 1)) from ⟨h.1, ?_⟩)
      replace h := h.2
      obtain ⟨a3, he, h⟩ := h
      refine RN_k (callX_det _) 2 _ _ _ _ (show R216 sl sx d M0 P 29 [some (vR (some l0)), some (vI l1), none] [vI (0 : Int32), vI l1, vR (mR (sI (sI M a1 l1.toNatClampNeg ((0 : Int32) &&& 1)) a2 l1.toNatClampNeg ((0 : Int32) &&& 1)) l0 36)] (sI (sI M a1 l1.toNatClampNeg ((0 : Int32) &&& 1)) a2 l1.toNatClampNeg ((0 : Int32) &&& 1)) from ?_)
      rw [he]
      refine RN_k (callX_det _) 1 _ _ _ _ (show inb (sI (sI M a1 l1.toNatClampNeg ((0 : Int32) &&& 1)) a2 l1.toNatClampNeg ((0 : Int32) &&& 1)) a3 14 l1 ∧ R216 sl sx d M0 P 30 [some (vR (some l0)), some (vI l1), none] [] (sI (sI (sI M a1 l1.toNatClampNeg ((0 : Int32) &&& 1)) a2 l1.toNatClampNeg ((0 : Int32) &&& 1)) a3 l1.toNatClampNeg ((0 : Int32) &&& 1)) from ⟨h.1, ?_⟩)
      replace h := h.2
      refine RN_k (callX_det _) 2 _ _ _ _ (show R216 sl sx d M0 P 2 [some (vR (some l0)), some (vI (l1 + (1 : Int32))), none] [] (sI (sI (sI M a1 l1.toNatClampNeg ((0 : Int32) &&& 1)) a2 l1.toNatClampNeg ((0 : Int32) &&& 1)) a3 l1.toNatClampNeg ((0 : Int32) &&& 1)) from ?_)
      exact RN_weak (K := [some (vR (some l0)), some (vI (l1 + (1 : Int32))), none]) (callX_det _) (show _ ∧ _ ∧ True from ⟨rfl, rfl, trivial⟩) (ih l0 (l1 + (1 : Int32)) _ hM h)
def w216 (l0 : Nat) (M : MM) (P : MM → Prop) : Prop := ∃ n2, w216_2  n2 l0 (0 : Int32) M P
theorem t216_E {sl : Nat} {sx : Nat → Int32} {d : Nat} {M0 : MM} {P : MM → Prop} (l0 : Nat) (M : MM) (hM : lenO M0 M) (h : w216  l0 M P) : R216 sl sx d M0 P 0 [some (vR (some l0)), none, none] [] M := by
  refine RN_k (callX_det _) 2 _ _ _ _ (show R216 sl sx d M0 P 2 [some (vR (some l0)), some (vI (0 : Int32)), none] [] M from ?_)
  obtain ⟨n2, h⟩ := h
  exact RN_weak (K := [some (vR (some l0)), some (vI (0 : Int32)), none]) (callX_det _) (show _ ∧ _ ∧ True from ⟨rfl, rfl, trivial⟩) (t216_2  n2 l0 (0 : Int32) _ hM h)
theorem c216 {sl : Nat} {sx : Nat → Int32} {d : Nat} {l0 : Nat} {M : MM} {P : MM → Prop} (h : w216 l0 M P) : callX TBg sl sx (d + 7) 216 [vR (some l0)] M (PV P) :=
  cX (d := d + 6) q216 (false, tb216) rfl rfl rfl (t216_E l0 M lenR h)
-- TwoLeashModel.thousandths(JIJJ)I
abbrev q228 : MQ7 := (5, 1, 11, 10, 0, 0, 1)
abbrev R228 (sl : Nat) (sx : Nat → Int32) (d : Nat) (M0 : MM) (P : Int32 → MM → Prop) : Nat → LL → List VV → MM → Prop := RN 10 false (mS M0).length (mT M0) 0 0 sl sx (callX TBg sl sx (d + 5)) (rtW q228 M0 (PI P)) (as2 tb228)
def w228_67 (k8 : Nat → Int64 → Int32 → Int64 → Int64 → Int32 → Int32 → MM → Prop) (l0 : Nat) (l1 : Int64) (l3 : Int32) (l4 : Int64) (l6 : Int64) (l8 : Int32) (l9 : Int32) (M : MM) (P : Int32 → MM → Prop) : Prop := k8 l0 l1 l3 l4 l6 l8 l9 M
theorem t228_67 {sl : Nat} {sx : Nat → Int32} {d : Nat} {M0 : MM} {P : Int32 → MM → Prop} {k8 : Nat → Int64 → Int32 → Int64 → Int64 → Int32 → Int32 → MM → Prop} (hk8 : ∀ (l0 : Nat) (l1 : Int64) (l3 : Int32) (l4 : Int64) (l6 : Int64) (l8 : Int32) (l9 : Int32) (M : MM), lenO M0 M → k8 l0 l1 l3 l4 l6 l8 l9 M → R228 sl sx d M0 P 8 [some (vR (some l0)), some (vL l1), none, some (vI l3), some (vL l4), none, some (vL l6), none, some (vI l8), some (vI l9), none] [] M) (l0 : Nat) (l1 : Int64) (l3 : Int32) (l4 : Int64) (l6 : Int64) (l8 : Int32) (l9 : Int32) (M : MM) (hM : lenO M0 M) (h : w228_67 k8 l0 l1 l3 l4 l6 l8 l9 M P) : R228 sl sx d M0 P 67 [some (vR (some l0)), some (vL l1), none, some (vI l3), some (vL l4), none, some (vL l6), none, some (vI l8), some (vI l9), none] [] M := by
  refine RN_k (callX_det _) 1 _ _ _ _ (show R228 sl sx d M0 P 8 [some (vR (some l0)), some (vL l1), none, some (vI l3), some (vL l4), none, some (vL l6), none, some (vI l8), some (vI l9), none] [] M from ?_)
  exact RN_weak (K := [some (vR (some l0)), some (vL l1), none, some (vI l3), some (vL l4), none, some (vL l6), none, some (vI l8), some (vI l9), none]) (callX_det _) (show _ ∧ _ ∧ _ ∧ _ ∧ _ ∧ _ ∧ _ ∧ True from ⟨rfl, rfl, rfl, rfl, rfl, rfl, rfl, trivial⟩) (hk8 l0 l1 l3 l4 l6 l8 l9 _ hM h)
def w228_8 : Nat → Nat → Int64 → Int32 → Int64 → Int64 → Int32 → Int32 → MM → (Int32 → MM → Prop) → Prop
  | 0 => fun _ _ _ _ _ _ _ _ _ => False
  | n + 1 => fun l0 l1 l3 l4 l6 l8 l9 M P => (l9 ≤ l8 → (P l8 M)) ∧ (¬ (l9 ≤ l8) → (¬ (2 : Int32) = 0 ∧ (kd M l0 10 ∧ w220 l0 (((1000 : Int64) * l1) - (((((l8 + l9) + (1 : Int32)) / (2 : Int32)).toInt64) * l6)) l3 ((1000000 : Int64) * l4) (1 : Int32) (0 : Int64) M (fun r2 M1 => (r2 < 0 → (w228_67 (fun z0 z1 z2 z3 z4 z5 z6 z7 => w228_8  n z0 z1 z2 z3 z4 z5 z6 z7 P) l0 l1 l3 l4 l6 l8 ((((l8 + l9) + (1 : Int32)) / (2 : Int32)) - (1 : Int32)) M1 P)) ∧ (¬ (r2 < 0) → (w228_67 (fun z0 z1 z2 z3 z4 z5 z6 z7 => w228_8  n z0 z1 z2 z3 z4 z5 z6 z7 P) l0 l1 l3 l4 l6 (((l8 + l9) + (1 : Int32)) / (2 : Int32)) l9 M1 P))))))
theorem t228_8 {sl : Nat} {sx : Nat → Int32} {d : Nat} {M0 : MM} {P : Int32 → MM → Prop} (n : Nat) : ∀ (l0 : Nat) (l1 : Int64) (l3 : Int32) (l4 : Int64) (l6 : Int64) (l8 : Int32) (l9 : Int32) (M : MM) (_ : lenO M0 M) (_ : w228_8  n l0 l1 l3 l4 l6 l8 l9 M P), R228 sl sx d M0 P 8 [some (vR (some l0)), some (vL l1), none, some (vI l3), some (vL l4), none, some (vL l6), none, some (vI l8), some (vI l9), none] [] M := by
  induction n with
  | zero => intro l0 l1 l3 l4 l6 l8 l9 M hM h; cases h
  | succ n ih =>
    intro l0 l1 l3 l4 l6 l8 l9 M hM h
    refine RN_k (callX_det _) 3 _ _ _ _ (show (l9 ≤ l8 → R228 sl sx d M0 P 70 [some (vR (some l0)), some (vL l1), none, some (vI l3), some (vL l4), none, some (vL l6), none, some (vI l8), some (vI l9), none] [] M) ∧ (¬ (l9 ≤ l8) → R228 sl sx d M0 P 15 [some (vR (some l0)), some (vL l1), none, some (vI l3), some (vL l4), none, some (vL l6), none, some (vI l8), some (vI l9), none] [] M) from ⟨fun hc => ?_, fun hc => ?_⟩)
    · replace h := h.1 hc
      exact RN_k (callX_det _) 2 _ _ _ _ (show rtW q228 M0 (PI P) (some (vI l8)) M from ⟨⟨_, rfl⟩, hM.1, hM.2, _, rfl, h⟩)
    · replace h := h.2 hc
      refine RN_k (callX_det _) 7 _ _ _ _ (show ¬ (2 : Int32) = 0 ∧ R228 sl sx d M0 P 24 [some (vR (some l0)), some (vL l1), none, some (vI l3), some (vL l4), none, some (vL l6), none, some (vI l8), some (vI l9), none] [vI (((l8 + l9) + (1 : Int32)) / (2 : Int32))] M from ⟨h.1, ?_⟩)
      replace h := h.2
      refine RN_k (callX_det _) 17 _ _ _ _ (show kd M l0 10 ∧ callX TBg sl sx (d + 5) 220 [vR (some l0), vL (((1000 : Int64) * l1) - (((((l8 + l9) + (1 : Int32)) / (2 : Int32)).toInt64) * l6)), vI l3, vL ((1000000 : Int64) * l4), vI (1 : Int32), vL (0 : Int64)] M (fun v M9 => R228 sl sx d M0 P 51 [some (vR (some l0)), some (vL l1), none, some (vI l3), some (vL l4), none, some (vL l6), none, some (vI l8), some (vI l9), some (vI (((l8 + l9) + (1 : Int32)) / (2 : Int32)))] (pushO v []) M9) from ⟨h.1, ?_⟩)
      replace h := h.2
      refine callX_mono (callX_len (d := (d + 5)) rfl rfl rfl (c220 (d := d) h)) ?_
      clear h
      rintro v9 M1 ⟨hl, r2, rfl, h⟩
      replace hM := lenT hM hl
      show R228 sl sx d M0 P 51 [some (vR (some l0)), some (vL l1), none, some (vI l3), some (vL l4), none, some (vL l6), none, some (vI l8), some (vI l9), some (vI (((l8 + l9) + (1 : Int32)) / (2 : Int32)))] [vI r2] M1
      refine RN_k (callX_det _) 1 _ _ _ _ (show (r2 < 0 → R228 sl sx d M0 P 61 [some (vR (some l0)), some (vL l1), none, some (vI l3), some (vL l4), none, some (vL l6), none, some (vI l8), some (vI l9), some (vI (((l8 + l9) + (1 : Int32)) / (2 : Int32)))] [] M1) ∧ (¬ (r2 < 0) → R228 sl sx d M0 P 54 [some (vR (some l0)), some (vL l1), none, some (vI l3), some (vL l4), none, some (vL l6), none, some (vI l8), some (vI l9), some (vI (((l8 + l9) + (1 : Int32)) / (2 : Int32)))] [] M1) from ⟨fun hc => ?_, fun hc => ?_⟩)
      · replace h := h.1 hc
        refine RN_k (callX_det _) 4 _ _ _ _ (show R228 sl sx d M0 P 67 [some (vR (some l0)), some (vL l1), none, some (vI l3), some (vL l4), none, some (vL l6), none, some (vI l8), some (vI ((((l8 + l9) + (1 : Int32)) / (2 : Int32)) - (1 : Int32))), some (vI (((l8 + l9) + (1 : Int32)) / (2 : Int32)))] [] M1 from ?_)
        exact RN_weak (K := [some (vR (some l0)), some (vL l1), none, some (vI l3), some (vL l4), none, some (vL l6), none, some (vI l8), some (vI ((((l8 + l9) + (1 : Int32)) / (2 : Int32)) - (1 : Int32))), none]) (callX_det _) (show _ ∧ _ ∧ _ ∧ _ ∧ _ ∧ _ ∧ _ ∧ True from ⟨rfl, rfl, rfl, rfl, rfl, rfl, rfl, trivial⟩) (t228_67 ih l0 l1 l3 l4 l6 l8 ((((l8 + l9) + (1 : Int32)) / (2 : Int32)) - (1 : Int32)) _ hM h)
      · replace h := h.2 hc
        refine RN_k (callX_det _) 3 _ _ _ _ (show R228 sl sx d M0 P 67 [some (vR (some l0)), some (vL l1), none, some (vI l3), some (vL l4), none, some (vL l6), none, some (vI (((l8 + l9) + (1 : Int32)) / (2 : Int32))), some (vI l9), some (vI (((l8 + l9) + (1 : Int32)) / (2 : Int32)))] [] M1 from ?_)
        exact RN_weak (K := [some (vR (some l0)), some (vL l1), none, some (vI l3), some (vL l4), none, some (vL l6), none, some (vI (((l8 + l9) + (1 : Int32)) / (2 : Int32))), some (vI l9), none]) (callX_det _) (show _ ∧ _ ∧ _ ∧ _ ∧ _ ∧ _ ∧ _ ∧ True from ⟨rfl, rfl, rfl, rfl, rfl, rfl, rfl, trivial⟩) (t228_67 ih l0 l1 l3 l4 l6 (((l8 + l9) + (1 : Int32)) / (2 : Int32)) l9 _ hM h)
def w228 (l0 : Nat) (l1 : Int64) (l3 : Int32) (l4 : Int64) (l6 : Int64) (M : MM) (P : Int32 → MM → Prop) : Prop := ∃ n2, w228_8  n2 l0 l1 l3 l4 l6 (0 : Int32) (1000 : Int32) M P
theorem t228_E {sl : Nat} {sx : Nat → Int32} {d : Nat} {M0 : MM} {P : Int32 → MM → Prop} (l0 : Nat) (l1 : Int64) (l3 : Int32) (l4 : Int64) (l6 : Int64) (M : MM) (hM : lenO M0 M) (h : w228  l0 l1 l3 l4 l6 M P) : R228 sl sx d M0 P 0 [some (vR (some l0)), some (vL l1), none, some (vI l3), some (vL l4), none, some (vL l6), none, none, none, none] [] M := by
  refine RN_k (callX_det _) 4 _ _ _ _ (show R228 sl sx d M0 P 8 [some (vR (some l0)), some (vL l1), none, some (vI l3), some (vL l4), none, some (vL l6), none, some (vI (0 : Int32)), some (vI (1000 : Int32)), none] [] M from ?_)
  obtain ⟨n2, h⟩ := h
  exact RN_weak (K := [some (vR (some l0)), some (vL l1), none, some (vI l3), some (vL l4), none, some (vL l6), none, some (vI (0 : Int32)), some (vI (1000 : Int32)), none]) (callX_det _) (show _ ∧ _ ∧ _ ∧ _ ∧ _ ∧ _ ∧ _ ∧ True from ⟨rfl, rfl, rfl, rfl, rfl, rfl, rfl, trivial⟩) (t228_8  n2 l0 l1 l3 l4 l6 (0 : Int32) (1000 : Int32) _ hM h)
theorem c228 {sl : Nat} {sx : Nat → Int32} {d : Nat} {l0 : Nat} {l1 : Int64} {l3 : Int32} {l4 : Int64} {l6 : Int64} {M : MM} {P : Int32 → MM → Prop} (h : w228 l0 l1 l3 l4 l6 M P) : callX TBg sl sx (d + 6) 228 [vR (some l0), vL l1, vI l3, vL l4, vL l6] M (PI P) :=
  cX (d := d + 5) q228 (false, tb228) rfl rfl rfl (t228_E l0 l1 l3 l4 l6 M lenR h)
-- TwoLeashModel.free(IIZIIIII)I
abbrev q208 : MQ7 := (9, 1, 11, 10, 0, 0, 1)
abbrev R208 (sl : Nat) (sx : Nat → Int32) (d : Nat) (M0 : MM) (P : Int32 → MM → Prop) : Nat → LL → List VV → MM → Prop := RN 10 false (mS M0).length (mT M0) 0 0 sl sx (callX TBg sl sx (d + 7)) (rtW q208 M0 (PI P)) (as2 tb208)
def w208_156 (s0 : Option Nat) (s1 : Int32) (M : MM) (P : Int32 → MM → Prop) : Prop := ∃ a1, s0 = some a1 ∧ (kd M a1 10 ∧ w177 a1 s1 M (fun r3 M2 => P r3 M2))
theorem t208_156 {sl : Nat} {sx : Nat → Int32} {d : Nat} {M0 : MM} {P : Int32 → MM → Prop} (s0 : Option Nat) (s1 : Int32) (M : MM) (hM : lenO M0 M) (h : w208_156  s0 s1 M P) : R208 sl sx d M0 P 156 [none, none, none, none, none, none, none, none, none, none, none] [vI s1, vR s0] M := by
  obtain ⟨a1, he, h⟩ := h
  subst he
  refine RN_k (callX_det _) 1 _ _ _ _ (show kd M a1 10 ∧ callX TBg sl sx (d + 7) 177 [vR (some a1), vI s1] M (fun v M9 => R208 sl sx d M0 P 159 [none, none, none, none, none, none, none, none, none, none, none] (pushO v []) M9) from ⟨h.1, ?_⟩)
  replace h := h.2
  refine callX_mono (callX_len (d := (d + 7)) rfl rfl rfl (c177 (d := d + 6) h)) ?_
  clear h
  rintro v9 M2 ⟨hl, r3, rfl, h⟩
  replace hM := lenT hM hl
  show R208 sl sx d M0 P 159 [none, none, none, none, none, none, none, none, none, none, none] [vI r3] M2
  exact RN_k (callX_det _) 1 _ _ _ _ (show rtW q208 M0 (PI P) (some (vI r3)) M2 from ⟨⟨_, rfl⟩, hM.1, hM.2, _, rfl, h⟩)
def w208_20 (l0 : Nat) (M : MM) (P : Int32 → MM → Prop) : Prop := kd M l0 10 ∧ w167 l0 (1 : Int32) M (fun r2 M1 => P r2 M1)
theorem t208_20 {sl : Nat} {sx : Nat → Int32} {d : Nat} {M0 : MM} {P : Int32 → MM → Prop} (l0 : Nat) (M : MM) (hM : lenO M0 M) (h : w208_20  l0 M P) : R208 sl sx d M0 P 20 [some (vR (some l0)), none, none, none, none, none, none, none, none, none, none] [] M := by
  refine RN_k (callX_det _) 3 _ _ _ _ (show kd M l0 10 ∧ callX TBg sl sx (d + 7) 167 [vR (some l0), vI (1 : Int32)] M (fun v M9 => R208 sl sx d M0 P 25 [some (vR (some l0)), none, none, none, none, none, none, none, none, none, none] (pushO v []) M9) from ⟨h.1, ?_⟩)
  replace h := h.2
  refine callX_mono (callX_len (d := (d + 7)) rfl rfl rfl (c167 (d := d + 6) h)) ?_
  clear h
  rintro v9 M1 ⟨hl, r2, rfl, h⟩
  replace hM := lenT hM hl
  show R208 sl sx d M0 P 25 [some (vR (some l0)), none, none, none, none, none, none, none, none, none, none] [vI r2] M1
  exact RN_k (callX_det _) 1 _ _ _ _ (show rtW q208 M0 (PI P) (some (vI r2)) M1 from ⟨⟨_, rfl⟩, hM.1, hM.2, _, rfl, h⟩)
def w208 (l0 : Nat) (l1 : Int32) (l2 : Int32) (l3 : Int32) (l4 : Int32) (l5 : Int32) (l6 : Int32) (l7 : Int32) (l8 : Int32) (M : MM) (P : Int32 → MM → Prop) : Prop := w209 l6 l7 M (fun r2 M1 => (r2 = 0 → (w208_20  l0 M1 P)) ∧ (¬ (r2 = 0) → (w166 l8 (0 : Int32) (1 : Int32) M1 (fun r4 M3 => (r4 ≠ 0 → (kd M3 l0 10 ∧ w210 l0 l1 l2 l3 l4 l5 M3 (fun r6 M5 => (r6 ≤ 0 → (kd M5 l0 10 ∧ w211 l0 l1 l2 M5 (fun M7 => kd M7 l0 10 ∧ w215 l0 l6 l7 M7 (fun M8 => kd M8 l0 10 ∧ w216 l0 M8 (fun M9 => w218 l3 l4 l5 M9 (fun r11 M10 => kd M10 l0 10 ∧ (∃ a12, mR M10 l0 34 = some a12 ∧ (inb M10 a12 14 r11 ∧ (((mI M10 a12 r11.toNatClampNeg) ≠ 0 → ((l8 ≠ 0 → (kd M10 l0 10 ∧ (∃ a13, mR M10 l0 39 = some a13 ∧ (inb M10 a13 12 r11 ∧ (kd M10 l0 10 ∧ (∃ a14, mR M10 l0 40 = some a14 ∧ (inb M10 a14 12 r11 ∧ (kd M10 l0 10 ∧ (∃ a15, mR M10 l0 44 = some a15 ∧ (inb M10 a15 12 r11 ∧ (kd M10 l0 10 ∧ w228 l0 (mL M10 a13 r11.toNatClampNeg) (1 : Int32) (mL M10 a14 r11.toNatClampNeg) (mL M10 a15 r11.toNatClampNeg) M10 (fun r17 M16 => w208_156  (some l0) r17 M16 P)))))))))))) ∧ (¬ (l8 ≠ 0) → (kd M10 l0 10 ∧ (∃ a18, mR M10 l0 37 = some a18 ∧ (inb M10 a18 12 r11 ∧ (kd M10 l0 10 ∧ (∃ a19, mR M10 l0 38 = some a19 ∧ (inb M10 a19 12 r11 ∧ (kd M10 l0 10 ∧ (∃ a20, mR M10 l0 44 = some a20 ∧ (inb M10 a20 12 r11 ∧ (kd M10 l0 10 ∧ w228 l0 (mL M10 a18 r11.toNatClampNeg) (-1 : Int32) (mL M10 a19 r11.toNatClampNeg) (mL M10 a20 r11.toNatClampNeg) M10 (fun r22 M21 => w208_156  (some l0) r22 M21 P)))))))))))))) ∧ (¬ ((mI M10 a12 r11.toNatClampNeg) ≠ 0) → (kd M10 l0 10 ∧ w167 l0 (5 : Int32) M10 (fun r24 M23 => P r24 M23)))))))))))) ∧ (¬ (r6 ≤ 0) → (kd M5 l0 10 ∧ w167 l0 r6 M5 (fun r26 M25 => P r26 M25)))))) ∧ (¬ (r4 ≠ 0) → (w208_20  l0 M3 P))))))
theorem t208_E {sl : Nat} {sx : Nat → Int32} {d : Nat} {M0 : MM} {P : Int32 → MM → Prop} (l0 : Nat) (l1 : Int32) (l2 : Int32) (l3 : Int32) (l4 : Int32) (l5 : Int32) (l6 : Int32) (l7 : Int32) (l8 : Int32) (M : MM) (hM : lenO M0 M) (h : w208  l0 l1 l2 l3 l4 l5 l6 l7 l8 M P) : R208 sl sx d M0 P 0 [some (vR (some l0)), some (vI l1), some (vI l2), some (vI l3), some (vI l4), some (vI l5), some (vI l6), some (vI l7), some (vI l8), none, none] [] M := by
  refine RN_k (callX_det _) 3 _ _ _ _ (show callX TBg sl sx (d + 7) 209 [vI l6, vI l7] M (fun v M9 => R208 sl sx d M0 P 7 [some (vR (some l0)), some (vI l1), some (vI l2), some (vI l3), some (vI l4), some (vI l5), some (vI l6), some (vI l7), some (vI l8), none, none] (pushO v []) M9) from ?_)
  refine callX_mono (callX_len (d := (d + 7)) rfl rfl rfl (c209 (d := d + 5) h)) ?_
  clear h
  rintro v9 M1 ⟨hl, r2, rfl, h⟩
  replace hM := lenT hM hl
  show R208 sl sx d M0 P 7 [some (vR (some l0)), some (vI l1), some (vI l2), some (vI l3), some (vI l4), some (vI l5), some (vI l6), some (vI l7), some (vI l8), none, none] [vI r2] M1
  refine RN_k (callX_det _) 1 _ _ _ _ (show (r2 = 0 → R208 sl sx d M0 P 20 [some (vR (some l0)), some (vI l1), some (vI l2), some (vI l3), some (vI l4), some (vI l5), some (vI l6), some (vI l7), some (vI l8), none, none] [] M1) ∧ (¬ (r2 = 0) → R208 sl sx d M0 P 10 [some (vR (some l0)), some (vI l1), some (vI l2), some (vI l3), some (vI l4), some (vI l5), some (vI l6), some (vI l7), some (vI l8), none, none] [] M1) from ⟨fun hc => ?_, fun hc => ?_⟩)
  · replace h := h.1 hc
    exact RN_weak (K := [some (vR (some l0)), none, none, none, none, none, none, none, none, none, none]) (callX_det _) (show _ ∧ True from ⟨rfl, trivial⟩) (t208_20  l0 _ hM h)
  · replace h := h.2 hc
    refine RN_k (callX_det _) 4 _ _ _ _ (show callX TBg sl sx (d + 7) 166 [vI l8, vI (0 : Int32), vI (1 : Int32)] M1 (fun v M9 => R208 sl sx d M0 P 17 [some (vR (some l0)), some (vI l1), some (vI l2), some (vI l3), some (vI l4), some (vI l5), some (vI l6), some (vI l7), some (vI l8), none, none] (pushO v []) M9) from ?_)
    refine callX_mono (callX_len (d := (d + 7)) rfl rfl rfl (c166 (d := d + 6) h)) ?_
    clear h
    rintro v9 M3 ⟨hl, r4, rfl, h⟩
    replace hM := lenT hM hl
    show R208 sl sx d M0 P 17 [some (vR (some l0)), some (vI l1), some (vI l2), some (vI l3), some (vI l4), some (vI l5), some (vI l6), some (vI l7), some (vI l8), none, none] [vI r4] M3
    refine RN_k (callX_det _) 1 _ _ _ _ (show (r4 ≠ 0 → R208 sl sx d M0 P 26 [some (vR (some l0)), some (vI l1), some (vI l2), some (vI l3), some (vI l4), some (vI l5), some (vI l6), some (vI l7), some (vI l8), none, none] [] M3) ∧ (¬ (r4 ≠ 0) → R208 sl sx d M0 P 20 [some (vR (some l0)), some (vI l1), some (vI l2), some (vI l3), some (vI l4), some (vI l5), some (vI l6), some (vI l7), some (vI l8), none, none] [] M3) from ⟨fun hc => ?_, fun hc => ?_⟩)
    · replace h := h.1 hc
      refine RN_k (callX_det _) 7 _ _ _ _ (show kd M3 l0 10 ∧ callX TBg sl sx (d + 7) 210 [vR (some l0), vI l1, vI l2, vI l3, vI l4, vI l5] M3 (fun v M9 => R208 sl sx d M0 P 37 [some (vR (some l0)), some (vI l1), some (vI l2), some (vI l3), some (vI l4), some (vI l5), some (vI l6), some (vI l7), some (vI l8), none, none] (pushO v []) M9) from ⟨h.1, ?_⟩)
      replace h := h.2
      refine callX_mono (callX_len (d := (d + 7)) rfl rfl rfl (c210 (d := d + 4) h)) ?_
      clear h
      rintro v9 M5 ⟨hl, r6, rfl, h⟩
      replace hM := lenT hM hl
      show R208 sl sx d M0 P 37 [some (vR (some l0)), some (vI l1), some (vI l2), some (vI l3), some (vI l4), some (vI l5), some (vI l6), some (vI l7), some (vI l8), none, none] [vI r6] M5
      refine RN_k (callX_det _) 3 _ _ _ _ (show (r6 ≤ 0 → R208 sl sx d M0 P 51 [some (vR (some l0)), some (vI l1), some (vI l2), some (vI l3), some (vI l4), some (vI l5), some (vI l6), some (vI l7), some (vI l8), some (vI r6), none] [] M5) ∧ (¬ (r6 ≤ 0) → R208 sl sx d M0 P 44 [some (vR (some l0)), some (vI l1), some (vI l2), some (vI l3), some (vI l4), some (vI l5), some (vI l6), some (vI l7), some (vI l8), some (vI r6), none] [] M5) from ⟨fun hc => ?_, fun hc => ?_⟩)
      · replace h := h.1 hc
        refine RN_k (callX_det _) 4 _ _ _ _ (show kd M5 l0 10 ∧ callX TBg sl sx (d + 7) 211 [vR (some l0), vI l1, vI l2] M5 (fun v M9 => R208 sl sx d M0 P 57 [some (vR (some l0)), some (vI l1), some (vI l2), some (vI l3), some (vI l4), some (vI l5), some (vI l6), some (vI l7), some (vI l8), some (vI r6), none] (pushO v []) M9) from ⟨h.1, ?_⟩)
        replace h := h.2
        refine callX_mono (callX_len (d := (d + 7)) rfl rfl rfl (c211 (d := d + 2) h)) ?_
        clear h
        rintro v9 M7 ⟨hl, rfl, h⟩
        replace hM := lenT hM hl
        show R208 sl sx d M0 P 57 [some (vR (some l0)), some (vI l1), some (vI l2), some (vI l3), some (vI l4), some (vI l5), some (vI l6), some (vI l7), some (vI l8), some (vI r6), none] [] M7
        refine RN_k (callX_det _) 4 _ _ _ _ (show kd M7 l0 10 ∧ callX TBg sl sx (d + 7) 215 [vR (some l0), vI l6, vI l7] M7 (fun v M9 => R208 sl sx d M0 P 65 [some (vR (some l0)), some (vI l1), some (vI l2), some (vI l3), some (vI l4), some (vI l5), some (vI l6), some (vI l7), some (vI l8), some (vI r6), none] (pushO v []) M9) from ⟨h.1, ?_⟩)
        replace h := h.2
        refine callX_mono (callX_len (d := (d + 7)) rfl rfl rfl (c215 (d := d + 6) h)) ?_
        clear h
        rintro v9 M8 ⟨hl, rfl, h⟩
        replace hM := lenT hM hl
        show R208 sl sx d M0 P 65 [some (vR (some l0)), some (vI l1), some (vI l2), some (vI l3), some (vI l4), some (vI l5), some (vI l6), some (vI l7), some (vI l8), some (vI r6), none] [] M8
        refine RN_k (callX_det _) 2 _ _ _ _ (show kd M8 l0 10 ∧ callX TBg sl sx (d + 7) 216 [vR (some l0)] M8 (fun v M9 => R208 sl sx d M0 P 69 [some (vR (some l0)), some (vI l1), some (vI l2), some (vI l3), some (vI l4), some (vI l5), some (vI l6), some (vI l7), some (vI l8), some (vI r6), none] (pushO v []) M9) from ⟨h.1, ?_⟩)
        replace h := h.2
        refine callX_mono (callX_len (d := (d + 7)) rfl rfl rfl (c216 (d := d) h)) ?_
        clear h
        rintro v9 M9 ⟨hl, rfl, h⟩
        replace hM := lenT hM hl
        show R208 sl sx d M0 P 69 [some (vR (some l0)), some (vI l1), some (vI l2), some (vI l3), some (vI l4), some (vI l5), some (vI l6), some (vI l7), some (vI l8), some (vI r6), none] [] M9
        refine RN_k (callX_det _) 4 _ _ _ _ (show callX TBg sl sx (d + 7) 218 [vI l3, vI l4, vI l5] M9 (fun v M9 => R208 sl sx d M0 P 77 [some (vR (some l0)), some (vI l1), some (vI l2), some (vI l3), some (vI l4), some (vI l5), some (vI l6), some (vI l7), some (vI l8), some (vI r6), none] (pushO v []) M9) from ?_)
        refine callX_mono (callX_len (d := (d + 7)) rfl rfl rfl (c218 (d := d + 6) h)) ?_
        clear h
        rintro v9 M10 ⟨hl, r11, rfl, h⟩
        replace hM := lenT hM hl
        show R208 sl sx d M0 P 77 [some (vR (some l0)), some (vI l1), some (vI l2), some (vI l3), some (vI l4), some (vI l5), some (vI l6), some (vI l7), some (vI l8), some (vI r6), none] [vI r11] M10
        refine RN_k (callX_det _) 3 _ _ _ _ (show kd M10 l0 10 ∧ R208 sl sx d M0 P 83 [some (vR (some l0)), some (vI l1), some (vI l2), some (vI l3), some (vI l4), some (vI l5), some (vI l6), some (vI l7), some (vI l8), some (vI r6), some (vI r11)] [vR (mR M10 l0 34)] M10 from ⟨h.1, ?_⟩)
        replace h := h.2
        obtain ⟨a12, he, h⟩ := h
        refine RN_k (callX_det _) 1 _ _ _ _ (show R208 sl sx d M0 P 85 [some (vR (some l0)), some (vI l1), some (vI l2), some (vI l3), some (vI l4), some (vI l5), some (vI l6), some (vI l7), some (vI l8), some (vI r6), some (vI r11)] [vI r11, vR (mR M10 l0 34)] M10 from ?_)
        rw [he]
        refine RN_k (callX_det _) 1 _ _ _ _ (show inb M10 a12 14 r11 ∧ R208 sl sx d M0 P 86 [some (vR (some l0)), some (vI l1), some (vI l2), some (vI l3), some (vI l4), some (vI l5), some (vI l6), some (vI l7), some (vI l8), some (vI r6), some (vI r11)] [vI (mI M10 a12 r11.toNatClampNeg)] M10 from ⟨h.1, ?_⟩)
        replace h := h.2
        refine RN_k (callX_det _) 1 _ _ _ _ (show ((mI M10 a12 r11.toNatClampNeg) ≠ 0 → R208 sl sx d M0 P 95 [some (vR (some l0)), some (vI l1), some (vI l2), some (vI l3), some (vI l4), some (vI l5), some (vI l6), some (vI l7), some (vI l8), some (vI r6), some (vI r11)] [] M10) ∧ (¬ ((mI M10 a12 r11.toNatClampNeg) ≠ 0) → R208 sl sx d M0 P 89 [some (vR (some l0)), some (vI l1), some (vI l2), some (vI l3), some (vI l4), some (vI l5), some (vI l6), some (vI l7), some (vI l8), some (vI r6), some (vI r11)] [] M10) from ⟨fun hc => ?_, fun hc => ?_⟩)
        · replace h := h.1 hc
          refine RN_k (callX_det _) 3 _ _ _ _ (show (l8 ≠ 0 → R208 sl sx d M0 P 130 [some (vR (some l0)), some (vI l1), some (vI l2), some (vI l3), some (vI l4), some (vI l5), some (vI l6), some (vI l7), some (vI l8), some (vI r6), some (vI r11)] [vR (some l0)] M10) ∧ (¬ (l8 ≠ 0) → R208 sl sx d M0 P 101 [some (vR (some l0)), some (vI l1), some (vI l2), some (vI l3), some (vI l4), some (vI l5), some (vI l6), some (vI l7), some (vI l8), some (vI r6), some (vI r11)] [vR (some l0)] M10) from ⟨fun hc => ?_, fun hc => ?_⟩)
          · replace h := h.1 hc
            refine RN_k (callX_det _) 3 _ _ _ _ (show kd M10 l0 10 ∧ R208 sl sx d M0 P 135 [some (vR (some l0)), some (vI l1), some (vI l2), some (vI l3), some (vI l4), some (vI l5), some (vI l6), some (vI l7), some (vI l8), some (vI r6), some (vI r11)] [vR (mR M10 l0 39), vR (some l0), vR (some l0)] M10 from ⟨h.1, ?_⟩)
            replace h := h.2
            obtain ⟨a13, he, h⟩ := h
            refine RN_k (callX_det _) 1 _ _ _ _ (show R208 sl sx d M0 P 137 [some (vR (some l0)), some (vI l1), some (vI l2), some (vI l3), some (vI l4), some (vI l5), some (vI l6), some (vI l7), some (vI l8), some (vI r6), some (vI r11)] [vI r11, vR (mR M10 l0 39), vR (some l0), vR (some l0)] M10 from ?_)
            rw [he]
            refine RN_k (callX_det _) 1 _ _ _ _ (show inb M10 a13 12 r11 ∧ R208 sl sx d M0 P 138 [some (vR (some l0)), some (vI l1), some (vI l2), some (vI l3), some (vI l4), some (vI l5), some (vI l6), some (vI l7), some (vI l8), some (vI r6), some (vI r11)] [vL (mL M10 a13 r11.toNatClampNeg), vR (some l0), vR (some l0)] M10 from ⟨h.1, ?_⟩)
            replace h := h.2
            refine RN_k (callX_det _) 3 _ _ _ _ (show kd M10 l0 10 ∧ R208 sl sx d M0 P 143 [some (vR (some l0)), some (vI l1), some (vI l2), some (vI l3), some (vI l4), some (vI l5), some (vI l6), some (vI l7), some (vI l8), some (vI r6), some (vI r11)] [vR (mR M10 l0 40), vI (1 : Int32), vL (mL M10 a13 r11.toNatClampNeg), vR (some l0), vR (some l0)] M10 from ⟨h.1, ?_⟩)
            replace h := h.2
            obtain ⟨a14, he, h⟩ := h
            refine RN_k (callX_det _) 1 _ _ _ _ (show R208 sl sx d M0 P 145 [some (vR (some l0)), some (vI l1), some (vI l2), some (vI l3), some (vI l4), some (vI l5), some (vI l6), some (vI l7), some (vI l8), some (vI r6), some (vI r11)] [vI r11, vR (mR M10 l0 40), vI (1 : Int32), vL (mL M10 a13 r11.toNatClampNeg), vR (some l0), vR (some l0)] M10 from ?_)
            rw [he]
            refine RN_k (callX_det _) 1 _ _ _ _ (show inb M10 a14 12 r11 ∧ R208 sl sx d M0 P 146 [some (vR (some l0)), some (vI l1), some (vI l2), some (vI l3), some (vI l4), some (vI l5), some (vI l6), some (vI l7), some (vI l8), some (vI r6), some (vI r11)] [vL (mL M10 a14 r11.toNatClampNeg), vI (1 : Int32), vL (mL M10 a13 r11.toNatClampNeg), vR (some l0), vR (some l0)] M10 from ⟨h.1, ?_⟩)
            replace h := h.2
            refine RN_k (callX_det _) 2 _ _ _ _ (show kd M10 l0 10 ∧ R208 sl sx d M0 P 150 [some (vR (some l0)), some (vI l1), some (vI l2), some (vI l3), some (vI l4), some (vI l5), some (vI l6), some (vI l7), some (vI l8), some (vI r6), some (vI r11)] [vR (mR M10 l0 44), vL (mL M10 a14 r11.toNatClampNeg), vI (1 : Int32), vL (mL M10 a13 r11.toNatClampNeg), vR (some l0), vR (some l0)] M10 from ⟨h.1, ?_⟩)
            replace h := h.2
            obtain ⟨a15, he, h⟩ := h
            refine RN_k (callX_det _) 1 _ _ _ _ (show R208 sl sx d M0 P 152 [some (vR (some l0)), some (vI l1), some (vI l2), some (vI l3), some (vI l4), some (vI l5), some (vI l6), some (vI l7), some (vI l8), some (vI r6), some (vI r11)] [vI r11, vR (mR M10 l0 44), vL (mL M10 a14 r11.toNatClampNeg), vI (1 : Int32), vL (mL M10 a13 r11.toNatClampNeg), vR (some l0), vR (some l0)] M10 from ?_)
            rw [he]
            refine RN_k (callX_det _) 1 _ _ _ _ (show inb M10 a15 12 r11 ∧ R208 sl sx d M0 P 153 [some (vR (some l0)), some (vI l1), some (vI l2), some (vI l3), some (vI l4), some (vI l5), some (vI l6), some (vI l7), some (vI l8), some (vI r6), some (vI r11)] [vL (mL M10 a15 r11.toNatClampNeg), vL (mL M10 a14 r11.toNatClampNeg), vI (1 : Int32), vL (mL M10 a13 r11.toNatClampNeg), vR (some l0), vR (some l0)] M10 from ⟨h.1, ?_⟩)
            replace h := h.2
            refine RN_k (callX_det _) 1 _ _ _ _ (show kd M10 l0 10 ∧ callX TBg sl sx (d + 7) 228 [vR (some l0), vL (mL M10 a13 r11.toNatClampNeg), vI (1 : Int32), vL (mL M10 a14 r11.toNatClampNeg), vL (mL M10 a15 r11.toNatClampNeg)] M10 (fun v M9 => R208 sl sx d M0 P 156 [some (vR (some l0)), some (vI l1), some (vI l2), some (vI l3), some (vI l4), some (vI l5), some (vI l6), some (vI l7), some (vI l8), some (vI r6), some (vI r11)] (pushO v [vR (some l0)]) M9) from ⟨h.1, ?_⟩)
            replace h := h.2
            refine callX_mono (callX_len (d := (d + 7)) rfl rfl rfl (c228 (d := d + 1) h)) ?_
            clear h
            rintro v9 M16 ⟨hl, r17, rfl, h⟩
            replace hM := lenT hM hl
            show R208 sl sx d M0 P 156 [some (vR (some l0)), some (vI l1), some (vI l2), some (vI l3), some (vI l4), some (vI l5), some (vI l6), some (vI l7), some (vI l8), some (vI r6), some (vI r11)] [vI r17, vR (some l0)] M16
            exact RN_weak (K := [none, none, none, none, none, none, none, none, none, none, none]) (callX_det _) (show True from trivial) (t208_156  (some l0) r17 _ hM h)
          · replace h := h.2 hc
            refine RN_k (callX_det _) 3 _ _ _ _ (show kd M10 l0 10 ∧ R208 sl sx d M0 P 106 [some (vR (some l0)), some (vI l1), some (vI l2), some (vI l3), some (vI l4), some (vI l5), some (vI l6), some (vI l7), some (vI l8), some (vI r6), some (vI r11)] [vR (mR M10 l0 37), vR (some l0), vR (some l0)] M10 from ⟨h.1, ?_⟩)
            replace h := h.2
            obtain ⟨a18, he, h⟩ := h
            refine RN_k (callX_det _) 1 _ _ _ _ (show R208 sl sx d M0 P 108 [some (vR (some l0)), some (vI l1), some (vI l2), some (vI l3), some (vI l4), some (vI l5), some (vI l6), some (vI l7), some (vI l8), some (vI r6), some (vI r11)] [vI r11, vR (mR M10 l0 37), vR (some l0), vR (some l0)] M10 from ?_)
            rw [he]
            refine RN_k (callX_det _) 1 _ _ _ _ (show inb M10 a18 12 r11 ∧ R208 sl sx d M0 P 109 [some (vR (some l0)), some (vI l1), some (vI l2), some (vI l3), some (vI l4), some (vI l5), some (vI l6), some (vI l7), some (vI l8), some (vI r6), some (vI r11)] [vL (mL M10 a18 r11.toNatClampNeg), vR (some l0), vR (some l0)] M10 from ⟨h.1, ?_⟩)
            replace h := h.2
            refine RN_k (callX_det _) 3 _ _ _ _ (show kd M10 l0 10 ∧ R208 sl sx d M0 P 114 [some (vR (some l0)), some (vI l1), some (vI l2), some (vI l3), some (vI l4), some (vI l5), some (vI l6), some (vI l7), some (vI l8), some (vI r6), some (vI r11)] [vR (mR M10 l0 38), vI (-1 : Int32), vL (mL M10 a18 r11.toNatClampNeg), vR (some l0), vR (some l0)] M10 from ⟨h.1, ?_⟩)
            replace h := h.2
            obtain ⟨a19, he, h⟩ := h
            refine RN_k (callX_det _) 1 _ _ _ _ (show R208 sl sx d M0 P 116 [some (vR (some l0)), some (vI l1), some (vI l2), some (vI l3), some (vI l4), some (vI l5), some (vI l6), some (vI l7), some (vI l8), some (vI r6), some (vI r11)] [vI r11, vR (mR M10 l0 38), vI (-1 : Int32), vL (mL M10 a18 r11.toNatClampNeg), vR (some l0), vR (some l0)] M10 from ?_)
            rw [he]
            refine RN_k (callX_det _) 1 _ _ _ _ (show inb M10 a19 12 r11 ∧ R208 sl sx d M0 P 117 [some (vR (some l0)), some (vI l1), some (vI l2), some (vI l3), some (vI l4), some (vI l5), some (vI l6), some (vI l7), some (vI l8), some (vI r6), some (vI r11)] [vL (mL M10 a19 r11.toNatClampNeg), vI (-1 : Int32), vL (mL M10 a18 r11.toNatClampNeg), vR (some l0), vR (some l0)] M10 from ⟨h.1, ?_⟩)
            replace h := h.2
            refine RN_k (callX_det _) 2 _ _ _ _ (show kd M10 l0 10 ∧ R208 sl sx d M0 P 121 [some (vR (some l0)), some (vI l1), some (vI l2), some (vI l3), some (vI l4), some (vI l5), some (vI l6), some (vI l7), some (vI l8), some (vI r6), some (vI r11)] [vR (mR M10 l0 44), vL (mL M10 a19 r11.toNatClampNeg), vI (-1 : Int32), vL (mL M10 a18 r11.toNatClampNeg), vR (some l0), vR (some l0)] M10 from ⟨h.1, ?_⟩)
            replace h := h.2
            obtain ⟨a20, he, h⟩ := h
            refine RN_k (callX_det _) 1 _ _ _ _ (show R208 sl sx d M0 P 123 [some (vR (some l0)), some (vI l1), some (vI l2), some (vI l3), some (vI l4), some (vI l5), some (vI l6), some (vI l7), some (vI l8), some (vI r6), some (vI r11)] [vI r11, vR (mR M10 l0 44), vL (mL M10 a19 r11.toNatClampNeg), vI (-1 : Int32), vL (mL M10 a18 r11.toNatClampNeg), vR (some l0), vR (some l0)] M10 from ?_)
            rw [he]
            refine RN_k (callX_det _) 1 _ _ _ _ (show inb M10 a20 12 r11 ∧ R208 sl sx d M0 P 124 [some (vR (some l0)), some (vI l1), some (vI l2), some (vI l3), some (vI l4), some (vI l5), some (vI l6), some (vI l7), some (vI l8), some (vI r6), some (vI r11)] [vL (mL M10 a20 r11.toNatClampNeg), vL (mL M10 a19 r11.toNatClampNeg), vI (-1 : Int32), vL (mL M10 a18 r11.toNatClampNeg), vR (some l0), vR (some l0)] M10 from ⟨h.1, ?_⟩)
            replace h := h.2
            refine RN_k (callX_det _) 1 _ _ _ _ (show kd M10 l0 10 ∧ callX TBg sl sx (d + 7) 228 [vR (some l0), vL (mL M10 a18 r11.toNatClampNeg), vI (-1 : Int32), vL (mL M10 a19 r11.toNatClampNeg), vL (mL M10 a20 r11.toNatClampNeg)] M10 (fun v M9 => R208 sl sx d M0 P 127 [some (vR (some l0)), some (vI l1), some (vI l2), some (vI l3), some (vI l4), some (vI l5), some (vI l6), some (vI l7), some (vI l8), some (vI r6), some (vI r11)] (pushO v [vR (some l0)]) M9) from ⟨h.1, ?_⟩)
            replace h := h.2
            refine callX_mono (callX_len (d := (d + 7)) rfl rfl rfl (c228 (d := d + 1) h)) ?_
            clear h
            rintro v9 M21 ⟨hl, r22, rfl, h⟩
            replace hM := lenT hM hl
            show R208 sl sx d M0 P 127 [some (vR (some l0)), some (vI l1), some (vI l2), some (vI l3), some (vI l4), some (vI l5), some (vI l6), some (vI l7), some (vI l8), some (vI r6), some (vI r11)] [vI r22, vR (some l0)] M21
            refine RN_k (callX_det _) 1 _ _ _ _ (show R208 sl sx d M0 P 156 [some (vR (some l0)), some (vI l1), some (vI l2), some (vI l3), some (vI l4), some (vI l5), some (vI l6), some (vI l7), some (vI l8), some (vI r6), some (vI r11)] [vI r22, vR (some l0)] M21 from ?_)
            exact RN_weak (K := [none, none, none, none, none, none, none, none, none, none, none]) (callX_det _) (show True from trivial) (t208_156  (some l0) r22 _ hM h)
        · replace h := h.2 hc
          refine RN_k (callX_det _) 3 _ _ _ _ (show kd M10 l0 10 ∧ callX TBg sl sx (d + 7) 167 [vR (some l0), vI (5 : Int32)] M10 (fun v M9 => R208 sl sx d M0 P 94 [some (vR (some l0)), some (vI l1), some (vI l2), some (vI l3), some (vI l4), some (vI l5), some (vI l6), some (vI l7), some (vI l8), some (vI r6), some (vI r11)] (pushO v []) M9) from ⟨h.1, ?_⟩)
          replace h := h.2
          refine callX_mono (callX_len (d := (d + 7)) rfl rfl rfl (c167 (d := d + 6) h)) ?_
          clear h
          rintro v9 M23 ⟨hl, r24, rfl, h⟩
          replace hM := lenT hM hl
          show R208 sl sx d M0 P 94 [some (vR (some l0)), some (vI l1), some (vI l2), some (vI l3), some (vI l4), some (vI l5), some (vI l6), some (vI l7), some (vI l8), some (vI r6), some (vI r11)] [vI r24] M23
          exact RN_k (callX_det _) 1 _ _ _ _ (show rtW q208 M0 (PI P) (some (vI r24)) M23 from ⟨⟨_, rfl⟩, hM.1, hM.2, _, rfl, h⟩)
      · replace h := h.2 hc
        refine RN_k (callX_det _) 3 _ _ _ _ (show kd M5 l0 10 ∧ callX TBg sl sx (d + 7) 167 [vR (some l0), vI r6] M5 (fun v M9 => R208 sl sx d M0 P 50 [some (vR (some l0)), some (vI l1), some (vI l2), some (vI l3), some (vI l4), some (vI l5), some (vI l6), some (vI l7), some (vI l8), some (vI r6), none] (pushO v []) M9) from ⟨h.1, ?_⟩)
        replace h := h.2
        refine callX_mono (callX_len (d := (d + 7)) rfl rfl rfl (c167 (d := d + 6) h)) ?_
        clear h
        rintro v9 M25 ⟨hl, r26, rfl, h⟩
        replace hM := lenT hM hl
        show R208 sl sx d M0 P 50 [some (vR (some l0)), some (vI l1), some (vI l2), some (vI l3), some (vI l4), some (vI l5), some (vI l6), some (vI l7), some (vI l8), some (vI r6), none] [vI r26] M25
        exact RN_k (callX_det _) 1 _ _ _ _ (show rtW q208 M0 (PI P) (some (vI r26)) M25 from ⟨⟨_, rfl⟩, hM.1, hM.2, _, rfl, h⟩)
    · replace h := h.2 hc
      exact RN_weak (K := [some (vR (some l0)), none, none, none, none, none, none, none, none, none, none]) (callX_det _) (show _ ∧ True from ⟨rfl, trivial⟩) (t208_20  l0 _ hM h)
theorem c208 {sl : Nat} {sx : Nat → Int32} {d : Nat} {l0 : Nat} {l1 : Int32} {l2 : Int32} {l3 : Int32} {l4 : Int32} {l5 : Int32} {l6 : Int32} {l7 : Int32} {l8 : Int32} {M : MM} {P : Int32 → MM → Prop} (h : w208 l0 l1 l2 l3 l4 l5 l6 l7 l8 M P) : callX TBg sl sx (d + 8) 208 [vR (some l0), vI l1, vI l2, vI l3, vI l4, vI l5, vI l6, vI l7, vI l8] M (PI P) :=
  cX (d := d + 7) q208 (false, tb208) rfl rfl rfl (t208_E l0 l1 l2 l3 l4 l5 l6 l7 l8 M lenR h)
-- TwoLeashModel.square(II)I
abbrev q231 : MQ7 := (3, 1, 3, 10, 0, 0, 1)
abbrev R231 (sl : Nat) (sx : Nat → Int32) (d : Nat) (M0 : MM) (P : Int32 → MM → Prop) : Nat → LL → List VV → MM → Prop := RN 10 false (mS M0).length (mT M0) 0 0 sl sx (callX TBg sl sx (d + 1)) (rtW q231 M0 (PI P)) (as2 tb231)
def w231 (l0 : Nat) (l1 : Int32) (l2 : Int32) (M : MM) (P : Int32 → MM → Prop) : Prop := kd M l0 10 ∧ (∃ a1, mR M l0 23 = some a1 ∧ (inb M a1 11 l1 ∧ (kd M l0 10 ∧ (∃ a2, mR M l0 24 = some a2 ∧ (inb M a2 11 l1 ∧ (kd M l0 10 ∧ (∃ a3, mR M l0 25 = some a3 ∧ (inb M a3 11 l2 ∧ (kd M l0 10 ∧ (∃ a4, mR M l0 26 = some a4 ∧ (inb M a4 11 l2 ∧ (w187 (mI M a1 l1.toNatClampNeg) (mI M a2 l1.toNatClampNeg) (mI M a3 l2.toNatClampNeg) (mI M a4 l2.toNatClampNeg) M (fun r6 M5 => P r6 M5)))))))))))))
theorem t231_E {sl : Nat} {sx : Nat → Int32} {d : Nat} {M0 : MM} {P : Int32 → MM → Prop} (l0 : Nat) (l1 : Int32) (l2 : Int32) (M : MM) (hM : lenO M0 M) (h : w231  l0 l1 l2 M P) : R231 sl sx d M0 P 0 [some (vR (some l0)), some (vI l1), some (vI l2)] [] M := by
  refine RN_k (callX_det _) 2 _ _ _ _ (show kd M l0 10 ∧ R231 sl sx d M0 P 4 [some (vR (some l0)), some (vI l1), some (vI l2)] [vR (mR M l0 23)] M from ⟨h.1, ?_⟩)
  replace h := h.2
  obtain ⟨a1, he, h⟩ := h
  refine RN_k (callX_det _) 1 _ _ _ _ (show R231 sl sx d M0 P 5 [some (vR (some l0)), some (vI l1), some (vI l2)] [vI l1, vR (mR M l0 23)] M from ?_)
  rw [he]
  refine RN_k (callX_det _) 1 _ _ _ _ (show inb M a1 11 l1 ∧ R231 sl sx d M0 P 6 [some (vR (some l0)), some (vI l1), some (vI l2)] [vI (mI M a1 l1.toNatClampNeg)] M from ⟨h.1, ?_⟩)
  replace h := h.2
  refine RN_k (callX_det _) 2 _ _ _ _ (show kd M l0 10 ∧ R231 sl sx d M0 P 10 [some (vR (some l0)), some (vI l1), some (vI l2)] [vR (mR M l0 24), vI (mI M a1 l1.toNatClampNeg)] M from ⟨h.1, ?_⟩)
  replace h := h.2
  obtain ⟨a2, he, h⟩ := h
  refine RN_k (callX_det _) 1 _ _ _ _ (show R231 sl sx d M0 P 11 [some (vR (some l0)), some (vI l1), some (vI l2)] [vI l1, vR (mR M l0 24), vI (mI M a1 l1.toNatClampNeg)] M from ?_)
  rw [he]
  refine RN_k (callX_det _) 1 _ _ _ _ (show inb M a2 11 l1 ∧ R231 sl sx d M0 P 12 [some (vR (some l0)), some (vI l1), some (vI l2)] [vI (mI M a2 l1.toNatClampNeg), vI (mI M a1 l1.toNatClampNeg)] M from ⟨h.1, ?_⟩)
  replace h := h.2
  refine RN_k (callX_det _) 2 _ _ _ _ (show kd M l0 10 ∧ R231 sl sx d M0 P 16 [some (vR (some l0)), some (vI l1), some (vI l2)] [vR (mR M l0 25), vI (mI M a2 l1.toNatClampNeg), vI (mI M a1 l1.toNatClampNeg)] M from ⟨h.1, ?_⟩)
  replace h := h.2
  obtain ⟨a3, he, h⟩ := h
  refine RN_k (callX_det _) 1 _ _ _ _ (show R231 sl sx d M0 P 17 [some (vR (some l0)), some (vI l1), some (vI l2)] [vI l2, vR (mR M l0 25), vI (mI M a2 l1.toNatClampNeg), vI (mI M a1 l1.toNatClampNeg)] M from ?_)
  rw [he]
  refine RN_k (callX_det _) 1 _ _ _ _ (show inb M a3 11 l2 ∧ R231 sl sx d M0 P 18 [some (vR (some l0)), some (vI l1), some (vI l2)] [vI (mI M a3 l2.toNatClampNeg), vI (mI M a2 l1.toNatClampNeg), vI (mI M a1 l1.toNatClampNeg)] M from ⟨h.1, ?_⟩)
  replace h := h.2
  refine RN_k (callX_det _) 2 _ _ _ _ (show kd M l0 10 ∧ R231 sl sx d M0 P 22 [some (vR (some l0)), some (vI l1), some (vI l2)] [vR (mR M l0 26), vI (mI M a3 l2.toNatClampNeg), vI (mI M a2 l1.toNatClampNeg), vI (mI M a1 l1.toNatClampNeg)] M from ⟨h.1, ?_⟩)
  replace h := h.2
  obtain ⟨a4, he, h⟩ := h
  refine RN_k (callX_det _) 1 _ _ _ _ (show R231 sl sx d M0 P 23 [some (vR (some l0)), some (vI l1), some (vI l2)] [vI l2, vR (mR M l0 26), vI (mI M a3 l2.toNatClampNeg), vI (mI M a2 l1.toNatClampNeg), vI (mI M a1 l1.toNatClampNeg)] M from ?_)
  rw [he]
  refine RN_k (callX_det _) 1 _ _ _ _ (show inb M a4 11 l2 ∧ R231 sl sx d M0 P 24 [some (vR (some l0)), some (vI l1), some (vI l2)] [vI (mI M a4 l2.toNatClampNeg), vI (mI M a3 l2.toNatClampNeg), vI (mI M a2 l1.toNatClampNeg), vI (mI M a1 l1.toNatClampNeg)] M from ⟨h.1, ?_⟩)
  replace h := h.2
  refine RN_k (callX_det _) 1 _ _ _ _ (show callX TBg sl sx (d + 1) 187 [vI (mI M a1 l1.toNatClampNeg), vI (mI M a2 l1.toNatClampNeg), vI (mI M a3 l2.toNatClampNeg), vI (mI M a4 l2.toNatClampNeg)] M (fun v M9 => R231 sl sx d M0 P 27 [some (vR (some l0)), some (vI l1), some (vI l2)] (pushO v []) M9) from ?_)
  refine callX_mono (callX_len (d := (d + 1)) rfl rfl rfl (c187 (d := d) h)) ?_
  clear h
  rintro v9 M5 ⟨hl, r6, rfl, h⟩
  replace hM := lenT hM hl
  show R231 sl sx d M0 P 27 [some (vR (some l0)), some (vI l1), some (vI l2)] [vI r6] M5
  exact RN_k (callX_det _) 1 _ _ _ _ (show rtW q231 M0 (PI P) (some (vI r6)) M5 from ⟨⟨_, rfl⟩, hM.1, hM.2, _, rfl, h⟩)
theorem c231 {sl : Nat} {sx : Nat → Int32} {d : Nat} {l0 : Nat} {l1 : Int32} {l2 : Int32} {M : MM} {P : Int32 → MM → Prop} (h : w231 l0 l1 l2 M P) : callX TBg sl sx (d + 2) 231 [vR (some l0), vI l1, vI l2] M (PI P) :=
  cX (d := d + 1) q231 (false, tb231) rfl rfl rfl (t231_E l0 l1 l2 M lenR h)
-- TwoLeashModel.isNear(I)Z
abbrev q232 : MQ7 := (2, 1, 2, 10, 0, 0, 4)
abbrev R232 (sl : Nat) (sx : Nat → Int32) (d : Nat) (M0 : MM) (P : Int32 → MM → Prop) : Nat → LL → List VV → MM → Prop := RN 10 false (mS M0).length (mT M0) 0 0 sl sx (callX TBg sl sx (d + 0)) (rtW q232 M0 (PI P)) (as2 tb232)
def w232_20 (s0 : Int32) (M : MM) (P : Int32 → MM → Prop) : Prop := (s0 = 0 ∨ s0 = 1) ∧ P s0 M
theorem t232_20 {sl : Nat} {sx : Nat → Int32} {d : Nat} {M0 : MM} {P : Int32 → MM → Prop} (s0 : Int32) (M : MM) (hM : lenO M0 M) (h : w232_20  s0 M P) : R232 sl sx d M0 P 20 [none, none] [vI s0] M := by
  exact RN_k (callX_det _) 1 _ _ _ _ (show rtW q232 M0 (PI P) (some (vI s0)) M from ⟨⟨_, rfl, h.1⟩, hM.1, hM.2, _, rfl, h.2⟩)
def w232 (l0 : Nat) (l1 : Int32) (M : MM) (P : Int32 → MM → Prop) : Prop := kd M l0 10 ∧ (kd M l0 10 ∧ ((0 < (lg_cmp (l1.toInt64 * (mL M l0 30)) (mL M l0 29)) → (w232_20  (0 : Int32) M P)) ∧ (¬ (0 < (lg_cmp (l1.toInt64 * (mL M l0 30)) (mL M l0 29))) → (w232_20  (1 : Int32) M P))))
theorem t232_E {sl : Nat} {sx : Nat → Int32} {d : Nat} {M0 : MM} {P : Int32 → MM → Prop} (l0 : Nat) (l1 : Int32) (M : MM) (hM : lenO M0 M) (h : w232  l0 l1 M P) : R232 sl sx d M0 P 0 [some (vR (some l0)), some (vI l1)] [] M := by
  refine RN_k (callX_det _) 4 _ _ _ _ (show kd M l0 10 ∧ R232 sl sx d M0 P 6 [some (vR (some l0)), some (vI l1)] [vL (mL M l0 30), vL l1.toInt64] M from ⟨h.1, ?_⟩)
  replace h := h.2
  refine RN_k (callX_det _) 3 _ _ _ _ (show kd M l0 10 ∧ R232 sl sx d M0 P 11 [some (vR (some l0)), some (vI l1)] [vL (mL M l0 29), vL (l1.toInt64 * (mL M l0 30))] M from ⟨h.1, ?_⟩)
  replace h := h.2
  refine RN_k (callX_det _) 2 _ _ _ _ (show (0 < (lg_cmp (l1.toInt64 * (mL M l0 30)) (mL M l0 29)) → R232 sl sx d M0 P 19 [some (vR (some l0)), some (vI l1)] [] M) ∧ (¬ (0 < (lg_cmp (l1.toInt64 * (mL M l0 30)) (mL M l0 29))) → R232 sl sx d M0 P 15 [some (vR (some l0)), some (vI l1)] [] M) from ⟨fun hc => ?_, fun hc => ?_⟩)
  · replace h := h.1 hc
    refine RN_k (callX_det _) 1 _ _ _ _ (show R232 sl sx d M0 P 20 [some (vR (some l0)), some (vI l1)] [vI (0 : Int32)] M from ?_)
    exact RN_weak (K := [none, none]) (callX_det _) (show True from trivial) (t232_20  (0 : Int32) _ hM h)
  · replace h := h.2 hc
    refine RN_k (callX_det _) 2 _ _ _ _ (show R232 sl sx d M0 P 20 [some (vR (some l0)), some (vI l1)] [vI (1 : Int32)] M from ?_)
    exact RN_weak (K := [none, none]) (callX_det _) (show True from trivial) (t232_20  (1 : Int32) _ hM h)
theorem c232 {sl : Nat} {sx : Nat → Int32} {d : Nat} {l0 : Nat} {l1 : Int32} {M : MM} {P : Int32 → MM → Prop} (h : w232 l0 l1 M P) : callX TBg sl sx (d + 1) 232 [vR (some l0), vI l1] M (PI P) :=
  cX (d := d + 0) q232 (false, tb232) rfl rfl rfl (t232_E l0 l1 M lenR h)
-- TwoLeashModel.reaches(IJIJ)V
abbrev q233 : MQ7 := (5, 1, 7, 10, 0, 0, 0)
abbrev R233 (sl : Nat) (sx : Nat → Int32) (d : Nat) (M0 : MM) (P : MM → Prop) : Nat → LL → List VV → MM → Prop := RN 10 false (mS M0).length (mT M0) 0 0 sl sx (callX TBg sl sx (d + 0)) (rtW q233 M0 (PV P)) (as2 tb233)
def w233 (l0 : Nat) (l1 : Int32) (l2 : Int64) (l4 : Int32) (l5 : Int64) (M : MM) (P : MM → Prop) : Prop := kd M l0 10 ∧ (∃ a1, mR M l0 35 = some a1 ∧ (inb M a1 14 l1 ∧ (kd (sI M a1 l1.toNatClampNeg ((1 : Int32) &&& 1)) l0 10 ∧ (∃ a2, mR (sI M a1 l1.toNatClampNeg ((1 : Int32) &&& 1)) l0 41 = some a2 ∧ (inb (sI M a1 l1.toNatClampNeg ((1 : Int32) &&& 1)) a2 12 l1 ∧ (kd (sL (sI M a1 l1.toNatClampNeg ((1 : Int32) &&& 1)) a2 l1.toNatClampNeg l2) l0 10 ∧ (∃ a3, mR (sL (sI M a1 l1.toNatClampNeg ((1 : Int32) &&& 1)) a2 l1.toNatClampNeg l2) l0 43 = some a3 ∧ (inb (sL (sI M a1 l1.toNatClampNeg ((1 : Int32) &&& 1)) a2 l1.toNatClampNeg l2) a3 11 l1 ∧ (kd (sI (sL (sI M a1 l1.toNatClampNeg ((1 : Int32) &&& 1)) a2 l1.toNatClampNeg l2) a3 l1.toNatClampNeg l4) l0 10 ∧ (∃ a4, mR (sI (sL (sI M a1 l1.toNatClampNeg ((1 : Int32) &&& 1)) a2 l1.toNatClampNeg l2) a3 l1.toNatClampNeg l4) l0 42 = some a4 ∧ (inb (sI (sL (sI M a1 l1.toNatClampNeg ((1 : Int32) &&& 1)) a2 l1.toNatClampNeg l2) a3 l1.toNatClampNeg l4) a4 12 l1 ∧ (P (sL (sI (sL (sI M a1 l1.toNatClampNeg ((1 : Int32) &&& 1)) a2 l1.toNatClampNeg l2) a3 l1.toNatClampNeg l4) a4 l1.toNatClampNeg l5)))))))))))))
theorem t233_E {sl : Nat} {sx : Nat → Int32} {d : Nat} {M0 : MM} {P : MM → Prop} (l0 : Nat) (l1 : Int32) (l2 : Int64) (l4 : Int32) (l5 : Int64) (M : MM) (hM : lenO M0 M) (h : w233  l0 l1 l2 l4 l5 M P) : R233 sl sx d M0 P 0 [some (vR (some l0)), some (vI l1), some (vL l2), none, some (vI l4), some (vL l5), none] [] M := by
  refine RN_k (callX_det _) 2 _ _ _ _ (show kd M l0 10 ∧ R233 sl sx d M0 P 4 [some (vR (some l0)), some (vI l1), some (vL l2), none, some (vI l4), some (vL l5), none] [vR (mR M l0 35)] M from ⟨h.1, ?_⟩)
  replace h := h.2
  obtain ⟨a1, he, h⟩ := h
  refine RN_k (callX_det _) 2 _ _ _ _ (show R233 sl sx d M0 P 6 [some (vR (some l0)), some (vI l1), some (vL l2), none, some (vI l4), some (vL l5), none] [vI (1 : Int32), vI l1, vR (mR M l0 35)] M from ?_)
  rw [he]
  refine RN_k (callX_det _) 1 _ _ _ _ (show inb M a1 14 l1 ∧ R233 sl sx d M0 P 7 [some (vR (some l0)), some (vI l1), some (vL l2), none, some (vI l4), some (vL l5), none] [] (sI M a1 l1.toNatClampNeg ((1 : Int32) &&& 1)) from ⟨h.1, ?_⟩)
  replace h := h.2
  refine RN_k (callX_det _) 2 _ _ _ _ (show kd (sI M a1 l1.toNatClampNeg ((1 : Int32) &&& 1)) l0 10 ∧ R233 sl sx d M0 P 11 [some (vR (some l0)), some (vI l1), some (vL l2), none, some (vI l4), some (vL l5), none] [vR (mR (sI M a1 l1.toNatClampNeg ((1 : Int32) &&& 1)) l0 41)] (sI M a1 l1.toNatClampNeg ((1 : Int32) &&& 1)) from ⟨h.1, ?_⟩)
  replace h := h.2
  obtain ⟨a2, he, h⟩ := h
  refine RN_k (callX_det _) 2 _ _ _ _ (show R233 sl sx d M0 P 13 [some (vR (some l0)), some (vI l1), some (vL l2), none, some (vI l4), some (vL l5), none] [vL l2, vI l1, vR (mR (sI M a1 l1.toNatClampNeg ((1 : Int32) &&& 1)) l0 41)] (sI M a1 l1.toNatClampNeg ((1 : Int32) &&& 1)) from ?_)
  rw [he]
  refine RN_k (callX_det _) 1 _ _ _ _ (show inb (sI M a1 l1.toNatClampNeg ((1 : Int32) &&& 1)) a2 12 l1 ∧ R233 sl sx d M0 P 14 [some (vR (some l0)), some (vI l1), some (vL l2), none, some (vI l4), some (vL l5), none] [] (sL (sI M a1 l1.toNatClampNeg ((1 : Int32) &&& 1)) a2 l1.toNatClampNeg l2) from ⟨h.1, ?_⟩)
  replace h := h.2
  refine RN_k (callX_det _) 2 _ _ _ _ (show kd (sL (sI M a1 l1.toNatClampNeg ((1 : Int32) &&& 1)) a2 l1.toNatClampNeg l2) l0 10 ∧ R233 sl sx d M0 P 18 [some (vR (some l0)), some (vI l1), some (vL l2), none, some (vI l4), some (vL l5), none] [vR (mR (sL (sI M a1 l1.toNatClampNeg ((1 : Int32) &&& 1)) a2 l1.toNatClampNeg l2) l0 43)] (sL (sI M a1 l1.toNatClampNeg ((1 : Int32) &&& 1)) a2 l1.toNatClampNeg l2) from ⟨h.1, ?_⟩)
  replace h := h.2
  obtain ⟨a3, he, h⟩ := h
  refine RN_k (callX_det _) 2 _ _ _ _ (show R233 sl sx d M0 P 21 [some (vR (some l0)), some (vI l1), some (vL l2), none, some (vI l4), some (vL l5), none] [vI l4, vI l1, vR (mR (sL (sI M a1 l1.toNatClampNeg ((1 : Int32) &&& 1)) a2 l1.toNatClampNeg l2) l0 43)] (sL (sI M a1 l1.toNatClampNeg ((1 : Int32) &&& 1)) a2 l1.toNatClampNeg l2) from ?_)
  rw [he]
  refine RN_k (callX_det _) 1 _ _ _ _ (show inb (sL (sI M a1 l1.toNatClampNeg ((1 : Int32) &&& 1)) a2 l1.toNatClampNeg l2) a3 11 l1 ∧ R233 sl sx d M0 P 22 [some (vR (some l0)), some (vI l1), some (vL l2), none, some (vI l4), some (vL l5), none] [] (sI (sL (sI M a1 l1.toNatClampNeg ((1 : Int32) &&& 1)) a2 l1.toNatClampNeg l2) a3 l1.toNatClampNeg l4) from ⟨h.1, ?_⟩)
  replace h := h.2
  refine RN_k (callX_det _) 2 _ _ _ _ (show kd (sI (sL (sI M a1 l1.toNatClampNeg ((1 : Int32) &&& 1)) a2 l1.toNatClampNeg l2) a3 l1.toNatClampNeg l4) l0 10 ∧ R233 sl sx d M0 P 26 [some (vR (some l0)), some (vI l1), some (vL l2), none, some (vI l4), some (vL l5), none] [vR (mR (sI (sL (sI M a1 l1.toNatClampNeg ((1 : Int32) &&& 1)) a2 l1.toNatClampNeg l2) a3 l1.toNatClampNeg l4) l0 42)] (sI (sL (sI M a1 l1.toNatClampNeg ((1 : Int32) &&& 1)) a2 l1.toNatClampNeg l2) a3 l1.toNatClampNeg l4) from ⟨h.1, ?_⟩)
  replace h := h.2
  obtain ⟨a4, he, h⟩ := h
  refine RN_k (callX_det _) 2 _ _ _ _ (show R233 sl sx d M0 P 29 [some (vR (some l0)), some (vI l1), some (vL l2), none, some (vI l4), some (vL l5), none] [vL l5, vI l1, vR (mR (sI (sL (sI M a1 l1.toNatClampNeg ((1 : Int32) &&& 1)) a2 l1.toNatClampNeg l2) a3 l1.toNatClampNeg l4) l0 42)] (sI (sL (sI M a1 l1.toNatClampNeg ((1 : Int32) &&& 1)) a2 l1.toNatClampNeg l2) a3 l1.toNatClampNeg l4) from ?_)
  rw [he]
  refine RN_k (callX_det _) 1 _ _ _ _ (show inb (sI (sL (sI M a1 l1.toNatClampNeg ((1 : Int32) &&& 1)) a2 l1.toNatClampNeg l2) a3 l1.toNatClampNeg l4) a4 12 l1 ∧ R233 sl sx d M0 P 30 [some (vR (some l0)), some (vI l1), some (vL l2), none, some (vI l4), some (vL l5), none] [] (sL (sI (sL (sI M a1 l1.toNatClampNeg ((1 : Int32) &&& 1)) a2 l1.toNatClampNeg l2) a3 l1.toNatClampNeg l4) a4 l1.toNatClampNeg l5) from ⟨h.1, ?_⟩)
  replace h := h.2
  exact RN_k (callX_det _) 1 _ _ _ _ (show rtW q233 M0 (PV P) none (sL (sI (sL (sI M a1 l1.toNatClampNeg ((1 : Int32) &&& 1)) a2 l1.toNatClampNeg l2) a3 l1.toNatClampNeg l4) a4 l1.toNatClampNeg l5) from ⟨rfl, hM.1, hM.2, rfl, h⟩)
theorem c233 {sl : Nat} {sx : Nat → Int32} {d : Nat} {l0 : Nat} {l1 : Int32} {l2 : Int64} {l4 : Int32} {l5 : Int64} {M : MM} {P : MM → Prop} (h : w233 l0 l1 l2 l4 l5 M P) : callX TBg sl sx (d + 1) 233 [vR (some l0), vI l1, vL l2, vI l4, vL l5] M (PV P) :=
  cX (d := d + 0) q233 (false, tb233) rfl rfl rfl (t233_E l0 l1 l2 l4 l5 M lenR h)
-- TwoLeashModel.reachesFirst(I)V
abbrev q235 : MQ7 := (2, 1, 2, 10, 0, 0, 0)
abbrev R235 (sl : Nat) (sx : Nat → Int32) (d : Nat) (M0 : MM) (P : MM → Prop) : Nat → LL → List VV → MM → Prop := RN 10 false (mS M0).length (mT M0) 0 0 sl sx (callX TBg sl sx (d + 1)) (rtW q235 M0 (PV P)) (as2 tb235)
def w235 (l0 : Nat) (l1 : Int32) (M : MM) (P : MM → Prop) : Prop := kd M l0 10 ∧ (∃ a1, mR M l0 37 = some a1 ∧ (inb M a1 12 l1 ∧ (kd M l0 10 ∧ (∃ a2, mR M l0 38 = some a2 ∧ (inb M a2 12 l1 ∧ (kd M l0 10 ∧ w233 l0 l1 (mL M a1 l1.toNatClampNeg) (-1 : Int32) (mL M a2 l1.toNatClampNeg) M (fun M3 => P M3)))))))
theorem t235_E {sl : Nat} {sx : Nat → Int32} {d : Nat} {M0 : MM} {P : MM → Prop} (l0 : Nat) (l1 : Int32) (M : MM) (hM : lenO M0 M) (h : w235  l0 l1 M P) : R235 sl sx d M0 P 0 [some (vR (some l0)), some (vI l1)] [] M := by
  refine RN_k (callX_det _) 4 _ _ _ _ (show kd M l0 10 ∧ R235 sl sx d M0 P 6 [some (vR (some l0)), some (vI l1)] [vR (mR M l0 37), vI l1, vR (some l0)] M from ⟨h.1, ?_⟩)
  replace h := h.2
  obtain ⟨a1, he, h⟩ := h
  refine RN_k (callX_det _) 1 _ _ _ _ (show R235 sl sx d M0 P 7 [some (vR (some l0)), some (vI l1)] [vI l1, vR (mR M l0 37), vI l1, vR (some l0)] M from ?_)
  rw [he]
  refine RN_k (callX_det _) 1 _ _ _ _ (show inb M a1 12 l1 ∧ R235 sl sx d M0 P 8 [some (vR (some l0)), some (vI l1)] [vL (mL M a1 l1.toNatClampNeg), vI l1, vR (some l0)] M from ⟨h.1, ?_⟩)
  replace h := h.2
  refine RN_k (callX_det _) 3 _ _ _ _ (show kd M l0 10 ∧ R235 sl sx d M0 P 13 [some (vR (some l0)), some (vI l1)] [vR (mR M l0 38), vI (-1 : Int32), vL (mL M a1 l1.toNatClampNeg), vI l1, vR (some l0)] M from ⟨h.1, ?_⟩)
  replace h := h.2
  obtain ⟨a2, he, h⟩ := h
  refine RN_k (callX_det _) 1 _ _ _ _ (show R235 sl sx d M0 P 14 [some (vR (some l0)), some (vI l1)] [vI l1, vR (mR M l0 38), vI (-1 : Int32), vL (mL M a1 l1.toNatClampNeg), vI l1, vR (some l0)] M from ?_)
  rw [he]
  refine RN_k (callX_det _) 1 _ _ _ _ (show inb M a2 12 l1 ∧ R235 sl sx d M0 P 15 [some (vR (some l0)), some (vI l1)] [vL (mL M a2 l1.toNatClampNeg), vI (-1 : Int32), vL (mL M a1 l1.toNatClampNeg), vI l1, vR (some l0)] M from ⟨h.1, ?_⟩)
  replace h := h.2
  refine RN_k (callX_det _) 1 _ _ _ _ (show kd M l0 10 ∧ callX TBg sl sx (d + 1) 233 [vR (some l0), vI l1, vL (mL M a1 l1.toNatClampNeg), vI (-1 : Int32), vL (mL M a2 l1.toNatClampNeg)] M (fun v M9 => R235 sl sx d M0 P 18 [some (vR (some l0)), some (vI l1)] (pushO v []) M9) from ⟨h.1, ?_⟩)
  replace h := h.2
  refine callX_mono (callX_len (d := (d + 1)) rfl rfl rfl (c233 (d := d) h)) ?_
  clear h
  rintro v9 M3 ⟨hl, rfl, h⟩
  replace hM := lenT hM hl
  show R235 sl sx d M0 P 18 [some (vR (some l0)), some (vI l1)] [] M3
  exact RN_k (callX_det _) 1 _ _ _ _ (show rtW q235 M0 (PV P) none M3 from ⟨rfl, hM.1, hM.2, rfl, h⟩)
theorem c235 {sl : Nat} {sx : Nat → Int32} {d : Nat} {l0 : Nat} {l1 : Int32} {M : MM} {P : MM → Prop} (h : w235 l0 l1 M P) : callX TBg sl sx (d + 2) 235 [vR (some l0), vI l1] M (PV P) :=
  cX (d := d + 1) q235 (false, tb235) rfl rfl rfl (t235_E l0 l1 M lenR h)
-- TwoLeashModel.comesTo(III)V
abbrev q234 : MQ7 := (4, 1, 4, 10, 0, 0, 0)
abbrev R234 (sl : Nat) (sx : Nat → Int32) (d : Nat) (M0 : MM) (P : MM → Prop) : Nat → LL → List VV → MM → Prop := RN 10 false (mS M0).length (mT M0) 0 0 sl sx (callX TBg sl sx (d + 5)) (rtW q234 M0 (PV P)) (as2 tb234)
def w234_142 (M : MM) (P : MM → Prop) : Prop := P M
theorem t234_142 {sl : Nat} {sx : Nat → Int32} {d : Nat} {M0 : MM} {P : MM → Prop}  (M : MM) (hM : lenO M0 M) (h : w234_142   M P) : R234 sl sx d M0 P 142 [none, none, none, none] [] M := by
  exact RN_k (callX_det _) 1 _ _ _ _ (show rtW q234 M0 (PV P) none M from ⟨rfl, hM.1, hM.2, rfl, h⟩)
def w234 (l0 : Nat) (l1 : Int32) (l2 : Int32) (l3 : Int32) (M : MM) (P : MM → Prop) : Prop := kd M l0 10 ∧ (∃ a1, mR M l0 34 = some a1 ∧ (inb M a1 14 l1 ∧ (((mI M a1 l1.toNatClampNeg) ≠ 0 → (kd M l0 10 ∧ (∃ a2, mR M l0 35 = some a2 ∧ (inb M a2 14 l2 ∧ (((mI M a2 l2.toNatClampNeg) = 0 → (kd M l0 10 ∧ (∃ a3, mR M l0 35 = some a3 ∧ (inb M a3 14 l3 ∧ (((mI M a3 l3.toNatClampNeg) ≠ 0 → (kd M l0 10 ∧ (∃ a4, mR M l0 41 = some a4 ∧ (inb M a4 12 l3 ∧ (kd M l0 10 ∧ (∃ a5, mR M l0 37 = some a5 ∧ (inb M a5 12 l1 ∧ (kd M l0 10 ∧ (∃ a6, mR M l0 43 = some a6 ∧ (inb M a6 11 l3 ∧ (kd M l0 10 ∧ (∃ a7, mR M l0 42 = some a7 ∧ (inb M a7 12 l3 ∧ (kd M l0 10 ∧ (∃ a8, mR M l0 38 = some a8 ∧ (inb M a8 12 l1 ∧ (kd M l0 10 ∧ w220 l0 ((mL M a4 l3.toNatClampNeg) - (mL M a5 l1.toNatClampNeg)) (mI M a6 l3.toNatClampNeg) (mL M a7 l3.toNatClampNeg) (-1 : Int32) (mL M a8 l1.toNatClampNeg) M (fun r10 M9 => (0 < r10 → (kd M9 l0 10 ∧ (∃ a11, mR M9 l0 41 = some a11 ∧ (inb M9 a11 12 l3 ∧ (kd M9 l0 10 ∧ (∃ a12, mR M9 l0 39 = some a12 ∧ (inb M9 a12 12 l1 ∧ (kd M9 l0 10 ∧ (∃ a13, mR M9 l0 43 = some a13 ∧ (inb M9 a13 11 l3 ∧ (kd M9 l0 10 ∧ (∃ a14, mR M9 l0 42 = some a14 ∧ (inb M9 a14 12 l3 ∧ (kd M9 l0 10 ∧ (∃ a15, mR M9 l0 40 = some a15 ∧ (inb M9 a15 12 l1 ∧ (kd M9 l0 10 ∧ w220 l0 ((mL M9 a11 l3.toNatClampNeg) - (mL M9 a12 l1.toNatClampNeg)) (mI M9 a13 l3.toNatClampNeg) (mL M9 a14 l3.toNatClampNeg) (1 : Int32) (mL M9 a15 l1.toNatClampNeg) M9 (fun r17 M16 => (0 < r17 → (w234_142  M16 P)) ∧ (¬ (0 < r17) → (kd M16 l0 10 ∧ (∃ a18, mR M16 l0 41 = some a18 ∧ (inb M16 a18 12 l3 ∧ (kd M16 l0 10 ∧ (∃ a19, mR M16 l0 43 = some a19 ∧ (inb M16 a19 11 l3 ∧ (kd M16 l0 10 ∧ (∃ a20, mR M16 l0 42 = some a20 ∧ (inb M16 a20 12 l3 ∧ (kd M16 l0 10 ∧ w233 l0 l1 (mL M16 a18 l3.toNatClampNeg) (mI M16 a19 l3.toNatClampNeg) (mL M16 a20 l3.toNatClampNeg) M16 (fun M21 => w234_142  M21 P)))))))))))))))))))))))))))))) ∧ (¬ (0 < r10) → (kd M9 l0 10 ∧ w235 l0 l1 M9 (fun M22 => P M22))))))))))))))))))))) ∧ (¬ ((mI M a3 l3.toNatClampNeg) ≠ 0) → (P M))))))) ∧ (¬ ((mI M a2 l2.toNatClampNeg) = 0) → (kd M l0 10 ∧ w235 l0 l1 M (fun M23 => P M23)))))))) ∧ (¬ ((mI M a1 l1.toNatClampNeg) ≠ 0) → (P M)))))
theorem t234_E {sl : Nat} {sx : Nat → Int32} {d : Nat} {M0 : MM} {P : MM → Prop} (l0 : Nat) (l1 : Int32) (l2 : Int32) (l3 : Int32) (M : MM) (hM : lenO M0 M) (h : w234  l0 l1 l2 l3 M P) : R234 sl sx d M0 P 0 [some (vR (some l0)), some (vI l1), some (vI l2), some (vI l3)] [] M := by
  refine RN_k (callX_det _) 2 _ _ _ _ (show kd M l0 10 ∧ R234 sl sx d M0 P 4 [some (vR (some l0)), some (vI l1), some (vI l2), some (vI l3)] [vR (mR M l0 34)] M from ⟨h.1, ?_⟩)
  replace h := h.2
  obtain ⟨a1, he, h⟩ := h
  refine RN_k (callX_det _) 1 _ _ _ _ (show R234 sl sx d M0 P 5 [some (vR (some l0)), some (vI l1), some (vI l2), some (vI l3)] [vI l1, vR (mR M l0 34)] M from ?_)
  rw [he]
  refine RN_k (callX_det _) 1 _ _ _ _ (show inb M a1 14 l1 ∧ R234 sl sx d M0 P 6 [some (vR (some l0)), some (vI l1), some (vI l2), some (vI l3)] [vI (mI M a1 l1.toNatClampNeg)] M from ⟨h.1, ?_⟩)
  replace h := h.2
  refine RN_k (callX_det _) 1 _ _ _ _ (show ((mI M a1 l1.toNatClampNeg) ≠ 0 → R234 sl sx d M0 P 10 [some (vR (some l0)), some (vI l1), some (vI l2), some (vI l3)] [] M) ∧ (¬ ((mI M a1 l1.toNatClampNeg) ≠ 0) → R234 sl sx d M0 P 9 [some (vR (some l0)), some (vI l1), some (vI l2), some (vI l3)] [] M) from ⟨fun hc => ?_, fun hc => ?_⟩)
  · replace h := h.1 hc
    refine RN_k (callX_det _) 2 _ _ _ _ (show kd M l0 10 ∧ R234 sl sx d M0 P 14 [some (vR (some l0)), some (vI l1), some (vI l2), some (vI l3)] [vR (mR M l0 35)] M from ⟨h.1, ?_⟩)
    replace h := h.2
    obtain ⟨a2, he, h⟩ := h
    refine RN_k (callX_det _) 1 _ _ _ _ (show R234 sl sx d M0 P 15 [some (vR (some l0)), some (vI l1), some (vI l2), some (vI l3)] [vI l2, vR (mR M l0 35)] M from ?_)
    rw [he]
    refine RN_k (callX_det _) 1 _ _ _ _ (show inb M a2 14 l2 ∧ R234 sl sx d M0 P 16 [some (vR (some l0)), some (vI l1), some (vI l2), some (vI l3)] [vI (mI M a2 l2.toNatClampNeg)] M from ⟨h.1, ?_⟩)
    replace h := h.2
    refine RN_k (callX_det _) 1 _ _ _ _ (show ((mI M a2 l2.toNatClampNeg) = 0 → R234 sl sx d M0 P 25 [some (vR (some l0)), some (vI l1), some (vI l2), some (vI l3)] [] M) ∧ (¬ ((mI M a2 l2.toNatClampNeg) = 0) → R234 sl sx d M0 P 19 [some (vR (some l0)), some (vI l1), some (vI l2), some (vI l3)] [] M) from ⟨fun hc => ?_, fun hc => ?_⟩)
    · replace h := h.1 hc
      refine RN_k (callX_det _) 2 _ _ _ _ (show kd M l0 10 ∧ R234 sl sx d M0 P 29 [some (vR (some l0)), some (vI l1), some (vI l2), some (vI l3)] [vR (mR M l0 35)] M from ⟨h.1, ?_⟩)
      replace h := h.2
      obtain ⟨a3, he, h⟩ := h
      refine RN_k (callX_det _) 1 _ _ _ _ (show R234 sl sx d M0 P 30 [some (vR (some l0)), some (vI l1), some (vI l2), some (vI l3)] [vI l3, vR (mR M l0 35)] M from ?_)
      rw [he]
      refine RN_k (callX_det _) 1 _ _ _ _ (show inb M a3 14 l3 ∧ R234 sl sx d M0 P 31 [some (vR (some l0)), some (vI l1), some (vI l2), some (vI l3)] [vI (mI M a3 l3.toNatClampNeg)] M from ⟨h.1, ?_⟩)
      replace h := h.2
      refine RN_k (callX_det _) 1 _ _ _ _ (show ((mI M a3 l3.toNatClampNeg) ≠ 0 → R234 sl sx d M0 P 35 [some (vR (some l0)), some (vI l1), some (vI l2), some (vI l3)] [] M) ∧ (¬ ((mI M a3 l3.toNatClampNeg) ≠ 0) → R234 sl sx d M0 P 34 [some (vR (some l0)), some (vI l1), some (vI l2), some (vI l3)] [] M) from ⟨fun hc => ?_, fun hc => ?_⟩)
      · replace h := h.1 hc
        refine RN_k (callX_det _) 3 _ _ _ _ (show kd M l0 10 ∧ R234 sl sx d M0 P 40 [some (vR (some l0)), some (vI l1), some (vI l2), some (vI l3)] [vR (mR M l0 41), vR (some l0)] M from ⟨h.1, ?_⟩)
        replace h := h.2
        obtain ⟨a4, he, h⟩ := h
        refine RN_k (callX_det _) 1 _ _ _ _ (show R234 sl sx d M0 P 41 [some (vR (some l0)), some (vI l1), some (vI l2), some (vI l3)] [vI l3, vR (mR M l0 41), vR (some l0)] M from ?_)
        rw [he]
        refine RN_k (callX_det _) 1 _ _ _ _ (show inb M a4 12 l3 ∧ R234 sl sx d M0 P 42 [some (vR (some l0)), some (vI l1), some (vI l2), some (vI l3)] [vL (mL M a4 l3.toNatClampNeg), vR (some l0)] M from ⟨h.1, ?_⟩)
        replace h := h.2
        refine RN_k (callX_det _) 2 _ _ _ _ (show kd M l0 10 ∧ R234 sl sx d M0 P 46 [some (vR (some l0)), some (vI l1), some (vI l2), some (vI l3)] [vR (mR M l0 37), vL (mL M a4 l3.toNatClampNeg), vR (some l0)] M from ⟨h.1, ?_⟩)
        replace h := h.2
        obtain ⟨a5, he, h⟩ := h
        refine RN_k (callX_det _) 1 _ _ _ _ (show R234 sl sx d M0 P 47 [some (vR (some l0)), some (vI l1), some (vI l2), some (vI l3)] [vI l1, vR (mR M l0 37), vL (mL M a4 l3.toNatClampNeg), vR (some l0)] M from ?_)
        rw [he]
        refine RN_k (callX_det _) 1 _ _ _ _ (show inb M a5 12 l1 ∧ R234 sl sx d M0 P 48 [some (vR (some l0)), some (vI l1), some (vI l2), some (vI l3)] [vL (mL M a5 l1.toNatClampNeg), vL (mL M a4 l3.toNatClampNeg), vR (some l0)] M from ⟨h.1, ?_⟩)
        replace h := h.2
        refine RN_k (callX_det _) 3 _ _ _ _ (show kd M l0 10 ∧ R234 sl sx d M0 P 53 [some (vR (some l0)), some (vI l1), some (vI l2), some (vI l3)] [vR (mR M l0 43), vL ((mL M a4 l3.toNatClampNeg) - (mL M a5 l1.toNatClampNeg)), vR (some l0)] M from ⟨h.1, ?_⟩)
        replace h := h.2
        obtain ⟨a6, he, h⟩ := h
        refine RN_k (callX_det _) 1 _ _ _ _ (show R234 sl sx d M0 P 54 [some (vR (some l0)), some (vI l1), some (vI l2), some (vI l3)] [vI l3, vR (mR M l0 43), vL ((mL M a4 l3.toNatClampNeg) - (mL M a5 l1.toNatClampNeg)), vR (some l0)] M from ?_)
        rw [he]
        refine RN_k (callX_det _) 1 _ _ _ _ (show inb M a6 11 l3 ∧ R234 sl sx d M0 P 55 [some (vR (some l0)), some (vI l1), some (vI l2), some (vI l3)] [vI (mI M a6 l3.toNatClampNeg), vL ((mL M a4 l3.toNatClampNeg) - (mL M a5 l1.toNatClampNeg)), vR (some l0)] M from ⟨h.1, ?_⟩)
        replace h := h.2
        refine RN_k (callX_det _) 2 _ _ _ _ (show kd M l0 10 ∧ R234 sl sx d M0 P 59 [some (vR (some l0)), some (vI l1), some (vI l2), some (vI l3)] [vR (mR M l0 42), vI (mI M a6 l3.toNatClampNeg), vL ((mL M a4 l3.toNatClampNeg) - (mL M a5 l1.toNatClampNeg)), vR (some l0)] M from ⟨h.1, ?_⟩)
        replace h := h.2
        obtain ⟨a7, he, h⟩ := h
        refine RN_k (callX_det _) 1 _ _ _ _ (show R234 sl sx d M0 P 60 [some (vR (some l0)), some (vI l1), some (vI l2), some (vI l3)] [vI l3, vR (mR M l0 42), vI (mI M a6 l3.toNatClampNeg), vL ((mL M a4 l3.toNatClampNeg) - (mL M a5 l1.toNatClampNeg)), vR (some l0)] M from ?_)
        rw [he]
        refine RN_k (callX_det _) 1 _ _ _ _ (show inb M a7 12 l3 ∧ R234 sl sx d M0 P 61 [some (vR (some l0)), some (vI l1), some (vI l2), some (vI l3)] [vL (mL M a7 l3.toNatClampNeg), vI (mI M a6 l3.toNatClampNeg), vL ((mL M a4 l3.toNatClampNeg) - (mL M a5 l1.toNatClampNeg)), vR (some l0)] M from ⟨h.1, ?_⟩)
        replace h := h.2
        refine RN_k (callX_det _) 3 _ _ _ _ (show kd M l0 10 ∧ R234 sl sx d M0 P 66 [some (vR (some l0)), some (vI l1), some (vI l2), some (vI l3)] [vR (mR M l0 38), vI (-1 : Int32), vL (mL M a7 l3.toNatClampNeg), vI (mI M a6 l3.toNatClampNeg), vL ((mL M a4 l3.toNatClampNeg) - (mL M a5 l1.toNatClampNeg)), vR (some l0)] M from ⟨h.1, ?_⟩)
        replace h := h.2
        obtain ⟨a8, he, h⟩ := h
        refine RN_k (callX_det _) 1 _ _ _ _ (show R234 sl sx d M0 P 67 [some (vR (some l0)), some (vI l1), some (vI l2), some (vI l3)] [vI l1, vR (mR M l0 38), vI (-1 : Int32), vL (mL M a7 l3.toNatClampNeg), vI (mI M a6 l3.toNatClampNeg), vL ((mL M a4 l3.toNatClampNeg) - (mL M a5 l1.toNatClampNeg)), vR (some l0)] M from ?_)
        rw [he]
        refine RN_k (callX_det _) 1 _ _ _ _ (show inb M a8 12 l1 ∧ R234 sl sx d M0 P 68 [some (vR (some l0)), some (vI l1), some (vI l2), some (vI l3)] [vL (mL M a8 l1.toNatClampNeg), vI (-1 : Int32), vL (mL M a7 l3.toNatClampNeg), vI (mI M a6 l3.toNatClampNeg), vL ((mL M a4 l3.toNatClampNeg) - (mL M a5 l1.toNatClampNeg)), vR (some l0)] M from ⟨h.1, ?_⟩)
        replace h := h.2
        refine RN_k (callX_det _) 1 _ _ _ _ (show kd M l0 10 ∧ callX TBg sl sx (d + 5) 220 [vR (some l0), vL ((mL M a4 l3.toNatClampNeg) - (mL M a5 l1.toNatClampNeg)), vI (mI M a6 l3.toNatClampNeg), vL (mL M a7 l3.toNatClampNeg), vI (-1 : Int32), vL (mL M a8 l1.toNatClampNeg)] M (fun v M9 => R234 sl sx d M0 P 71 [some (vR (some l0)), some (vI l1), some (vI l2), some (vI l3)] (pushO v []) M9) from ⟨h.1, ?_⟩)
        replace h := h.2
        refine callX_mono (callX_len (d := (d + 5)) rfl rfl rfl (c220 (d := d) h)) ?_
        clear h
        rintro v9 M9 ⟨hl, r10, rfl, h⟩
        replace hM := lenT hM hl
        show R234 sl sx d M0 P 71 [some (vR (some l0)), some (vI l1), some (vI l2), some (vI l3)] [vI r10] M9
        refine RN_k (callX_det _) 1 _ _ _ _ (show (0 < r10 → R234 sl sx d M0 P 80 [some (vR (some l0)), some (vI l1), some (vI l2), some (vI l3)] [] M9) ∧ (¬ (0 < r10) → R234 sl sx d M0 P 74 [some (vR (some l0)), some (vI l1), some (vI l2), some (vI l3)] [] M9) from ⟨fun hc => ?_, fun hc => ?_⟩)
        · replace h := h.1 hc
          refine RN_k (callX_det _) 3 _ _ _ _ (show kd M9 l0 10 ∧ R234 sl sx d M0 P 85 [some (vR (some l0)), some (vI l1), some (vI l2), some (vI l3)] [vR (mR M9 l0 41), vR (some l0)] M9 from ⟨h.1, ?_⟩)
          replace h := h.2
          obtain ⟨a11, he, h⟩ := h
          refine RN_k (callX_det _) 1 _ _ _ _ (show R234 sl sx d M0 P 86 [some (vR (some l0)), some (vI l1), some (vI l2), some (vI l3)] [vI l3, vR (mR M9 l0 41), vR (some l0)] M9 from ?_)
          rw [he]
          refine RN_k (callX_det _) 1 _ _ _ _ (show inb M9 a11 12 l3 ∧ R234 sl sx d M0 P 87 [some (vR (some l0)), some (vI l1), some (vI l2), some (vI l3)] [vL (mL M9 a11 l3.toNatClampNeg), vR (some l0)] M9 from ⟨h.1, ?_⟩)
          replace h := h.2
          refine RN_k (callX_det _) 2 _ _ _ _ (show kd M9 l0 10 ∧ R234 sl sx d M0 P 91 [some (vR (some l0)), some (vI l1), some (vI l2), some (vI l3)] [vR (mR M9 l0 39), vL (mL M9 a11 l3.toNatClampNeg), vR (some l0)] M9 from ⟨h.1, ?_⟩)
          replace h := h.2
          obtain ⟨a12, he, h⟩ := h
          refine RN_k (callX_det _) 1 _ _ _ _ (show R234 sl sx d M0 P 92 [some (vR (some l0)), some (vI l1), some (vI l2), some (vI l3)] [vI l1, vR (mR M9 l0 39), vL (mL M9 a11 l3.toNatClampNeg), vR (some l0)] M9 from ?_)
          rw [he]
          refine RN_k (callX_det _) 1 _ _ _ _ (show inb M9 a12 12 l1 ∧ R234 sl sx d M0 P 93 [some (vR (some l0)), some (vI l1), some (vI l2), some (vI l3)] [vL (mL M9 a12 l1.toNatClampNeg), vL (mL M9 a11 l3.toNatClampNeg), vR (some l0)] M9 from ⟨h.1, ?_⟩)
          replace h := h.2
          refine RN_k (callX_det _) 3 _ _ _ _ (show kd M9 l0 10 ∧ R234 sl sx d M0 P 98 [some (vR (some l0)), some (vI l1), some (vI l2), some (vI l3)] [vR (mR M9 l0 43), vL ((mL M9 a11 l3.toNatClampNeg) - (mL M9 a12 l1.toNatClampNeg)), vR (some l0)] M9 from ⟨h.1, ?_⟩)
          replace h := h.2
          obtain ⟨a13, he, h⟩ := h
          refine RN_k (callX_det _) 1 _ _ _ _ (show R234 sl sx d M0 P 99 [some (vR (some l0)), some (vI l1), some (vI l2), some (vI l3)] [vI l3, vR (mR M9 l0 43), vL ((mL M9 a11 l3.toNatClampNeg) - (mL M9 a12 l1.toNatClampNeg)), vR (some l0)] M9 from ?_)
          rw [he]
          refine RN_k (callX_det _) 1 _ _ _ _ (show inb M9 a13 11 l3 ∧ R234 sl sx d M0 P 100 [some (vR (some l0)), some (vI l1), some (vI l2), some (vI l3)] [vI (mI M9 a13 l3.toNatClampNeg), vL ((mL M9 a11 l3.toNatClampNeg) - (mL M9 a12 l1.toNatClampNeg)), vR (some l0)] M9 from ⟨h.1, ?_⟩)
          replace h := h.2
          refine RN_k (callX_det _) 2 _ _ _ _ (show kd M9 l0 10 ∧ R234 sl sx d M0 P 104 [some (vR (some l0)), some (vI l1), some (vI l2), some (vI l3)] [vR (mR M9 l0 42), vI (mI M9 a13 l3.toNatClampNeg), vL ((mL M9 a11 l3.toNatClampNeg) - (mL M9 a12 l1.toNatClampNeg)), vR (some l0)] M9 from ⟨h.1, ?_⟩)
          replace h := h.2
          obtain ⟨a14, he, h⟩ := h
          refine RN_k (callX_det _) 1 _ _ _ _ (show R234 sl sx d M0 P 105 [some (vR (some l0)), some (vI l1), some (vI l2), some (vI l3)] [vI l3, vR (mR M9 l0 42), vI (mI M9 a13 l3.toNatClampNeg), vL ((mL M9 a11 l3.toNatClampNeg) - (mL M9 a12 l1.toNatClampNeg)), vR (some l0)] M9 from ?_)
          rw [he]
          refine RN_k (callX_det _) 1 _ _ _ _ (show inb M9 a14 12 l3 ∧ R234 sl sx d M0 P 106 [some (vR (some l0)), some (vI l1), some (vI l2), some (vI l3)] [vL (mL M9 a14 l3.toNatClampNeg), vI (mI M9 a13 l3.toNatClampNeg), vL ((mL M9 a11 l3.toNatClampNeg) - (mL M9 a12 l1.toNatClampNeg)), vR (some l0)] M9 from ⟨h.1, ?_⟩)
          replace h := h.2
          refine RN_k (callX_det _) 3 _ _ _ _ (show kd M9 l0 10 ∧ R234 sl sx d M0 P 111 [some (vR (some l0)), some (vI l1), some (vI l2), some (vI l3)] [vR (mR M9 l0 40), vI (1 : Int32), vL (mL M9 a14 l3.toNatClampNeg), vI (mI M9 a13 l3.toNatClampNeg), vL ((mL M9 a11 l3.toNatClampNeg) - (mL M9 a12 l1.toNatClampNeg)), vR (some l0)] M9 from ⟨h.1, ?_⟩)
          replace h := h.2
          obtain ⟨a15, he, h⟩ := h
          refine RN_k (callX_det _) 1 _ _ _ _ (show R234 sl sx d M0 P 112 [some (vR (some l0)), some (vI l1), some (vI l2), some (vI l3)] [vI l1, vR (mR M9 l0 40), vI (1 : Int32), vL (mL M9 a14 l3.toNatClampNeg), vI (mI M9 a13 l3.toNatClampNeg), vL ((mL M9 a11 l3.toNatClampNeg) - (mL M9 a12 l1.toNatClampNeg)), vR (some l0)] M9 from ?_)
          rw [he]
          refine RN_k (callX_det _) 1 _ _ _ _ (show inb M9 a15 12 l1 ∧ R234 sl sx d M0 P 113 [some (vR (some l0)), some (vI l1), some (vI l2), some (vI l3)] [vL (mL M9 a15 l1.toNatClampNeg), vI (1 : Int32), vL (mL M9 a14 l3.toNatClampNeg), vI (mI M9 a13 l3.toNatClampNeg), vL ((mL M9 a11 l3.toNatClampNeg) - (mL M9 a12 l1.toNatClampNeg)), vR (some l0)] M9 from ⟨h.1, ?_⟩)
          replace h := h.2
          refine RN_k (callX_det _) 1 _ _ _ _ (show kd M9 l0 10 ∧ callX TBg sl sx (d + 5) 220 [vR (some l0), vL ((mL M9 a11 l3.toNatClampNeg) - (mL M9 a12 l1.toNatClampNeg)), vI (mI M9 a13 l3.toNatClampNeg), vL (mL M9 a14 l3.toNatClampNeg), vI (1 : Int32), vL (mL M9 a15 l1.toNatClampNeg)] M9 (fun v M9 => R234 sl sx d M0 P 116 [some (vR (some l0)), some (vI l1), some (vI l2), some (vI l3)] (pushO v []) M9) from ⟨h.1, ?_⟩)
          replace h := h.2
          refine callX_mono (callX_len (d := (d + 5)) rfl rfl rfl (c220 (d := d) h)) ?_
          clear h
          rintro v9 M16 ⟨hl, r17, rfl, h⟩
          replace hM := lenT hM hl
          show R234 sl sx d M0 P 116 [some (vR (some l0)), some (vI l1), some (vI l2), some (vI l3)] [vI r17] M16
          refine RN_k (callX_det _) 1 _ _ _ _ (show (0 < r17 → R234 sl sx d M0 P 142 [some (vR (some l0)), some (vI l1), some (vI l2), some (vI l3)] [] M16) ∧ (¬ (0 < r17) → R234 sl sx d M0 P 119 [some (vR (some l0)), some (vI l1), some (vI l2), some (vI l3)] [] M16) from ⟨fun hc => ?_, fun hc => ?_⟩)
          · replace h := h.1 hc
            exact RN_weak (K := [none, none, none, none]) (callX_det _) (show True from trivial) (t234_142   _ hM h)
          · replace h := h.2 hc
            refine RN_k (callX_det _) 4 _ _ _ _ (show kd M16 l0 10 ∧ R234 sl sx d M0 P 125 [some (vR (some l0)), some (vI l1), some (vI l2), some (vI l3)] [vR (mR M16 l0 41), vI l1, vR (some l0)] M16 from ⟨h.1, ?_⟩)
            replace h := h.2
            obtain ⟨a18, he, h⟩ := h
            refine RN_k (callX_det _) 1 _ _ _ _ (show R234 sl sx d M0 P 126 [some (vR (some l0)), some (vI l1), some (vI l2), some (vI l3)] [vI l3, vR (mR M16 l0 41), vI l1, vR (some l0)] M16 from ?_)
            rw [he]
            refine RN_k (callX_det _) 1 _ _ _ _ (show inb M16 a18 12 l3 ∧ R234 sl sx d M0 P 127 [some (vR (some l0)), some (vI l1), some (vI l2), some (vI l3)] [vL (mL M16 a18 l3.toNatClampNeg), vI l1, vR (some l0)] M16 from ⟨h.1, ?_⟩)
            replace h := h.2
            refine RN_k (callX_det _) 2 _ _ _ _ (show kd M16 l0 10 ∧ R234 sl sx d M0 P 131 [some (vR (some l0)), some (vI l1), some (vI l2), some (vI l3)] [vR (mR M16 l0 43), vL (mL M16 a18 l3.toNatClampNeg), vI l1, vR (some l0)] M16 from ⟨h.1, ?_⟩)
            replace h := h.2
            obtain ⟨a19, he, h⟩ := h
            refine RN_k (callX_det _) 1 _ _ _ _ (show R234 sl sx d M0 P 132 [some (vR (some l0)), some (vI l1), some (vI l2), some (vI l3)] [vI l3, vR (mR M16 l0 43), vL (mL M16 a18 l3.toNatClampNeg), vI l1, vR (some l0)] M16 from ?_)
            rw [he]
            refine RN_k (callX_det _) 1 _ _ _ _ (show inb M16 a19 11 l3 ∧ R234 sl sx d M0 P 133 [some (vR (some l0)), some (vI l1), some (vI l2), some (vI l3)] [vI (mI M16 a19 l3.toNatClampNeg), vL (mL M16 a18 l3.toNatClampNeg), vI l1, vR (some l0)] M16 from ⟨h.1, ?_⟩)
            replace h := h.2
            refine RN_k (callX_det _) 2 _ _ _ _ (show kd M16 l0 10 ∧ R234 sl sx d M0 P 137 [some (vR (some l0)), some (vI l1), some (vI l2), some (vI l3)] [vR (mR M16 l0 42), vI (mI M16 a19 l3.toNatClampNeg), vL (mL M16 a18 l3.toNatClampNeg), vI l1, vR (some l0)] M16 from ⟨h.1, ?_⟩)
            replace h := h.2
            obtain ⟨a20, he, h⟩ := h
            refine RN_k (callX_det _) 1 _ _ _ _ (show R234 sl sx d M0 P 138 [some (vR (some l0)), some (vI l1), some (vI l2), some (vI l3)] [vI l3, vR (mR M16 l0 42), vI (mI M16 a19 l3.toNatClampNeg), vL (mL M16 a18 l3.toNatClampNeg), vI l1, vR (some l0)] M16 from ?_)
            rw [he]
            refine RN_k (callX_det _) 1 _ _ _ _ (show inb M16 a20 12 l3 ∧ R234 sl sx d M0 P 139 [some (vR (some l0)), some (vI l1), some (vI l2), some (vI l3)] [vL (mL M16 a20 l3.toNatClampNeg), vI (mI M16 a19 l3.toNatClampNeg), vL (mL M16 a18 l3.toNatClampNeg), vI l1, vR (some l0)] M16 from ⟨h.1, ?_⟩)
            replace h := h.2
            refine RN_k (callX_det _) 1 _ _ _ _ (show kd M16 l0 10 ∧ callX TBg sl sx (d + 5) 233 [vR (some l0), vI l1, vL (mL M16 a18 l3.toNatClampNeg), vI (mI M16 a19 l3.toNatClampNeg), vL (mL M16 a20 l3.toNatClampNeg)] M16 (fun v M9 => R234 sl sx d M0 P 142 [some (vR (some l0)), some (vI l1), some (vI l2), some (vI l3)] (pushO v []) M9) from ⟨h.1, ?_⟩)
            replace h := h.2
            refine callX_mono (callX_len (d := (d + 5)) rfl rfl rfl (c233 (d := d + 4) h)) ?_
            clear h
            rintro v9 M21 ⟨hl, rfl, h⟩
            replace hM := lenT hM hl
            show R234 sl sx d M0 P 142 [some (vR (some l0)), some (vI l1), some (vI l2), some (vI l3)] [] M21
            exact RN_weak (K := [none, none, none, none]) (callX_det _) (show True from trivial) (t234_142   _ hM h)
        · replace h := h.2 hc
          refine RN_k (callX_det _) 3 _ _ _ _ (show kd M9 l0 10 ∧ callX TBg sl sx (d + 5) 235 [vR (some l0), vI l1] M9 (fun v M9 => R234 sl sx d M0 P 79 [some (vR (some l0)), some (vI l1), some (vI l2), some (vI l3)] (pushO v []) M9) from ⟨h.1, ?_⟩)
          replace h := h.2
          refine callX_mono (callX_len (d := (d + 5)) rfl rfl rfl (c235 (d := d + 3) h)) ?_
          clear h
          rintro v9 M22 ⟨hl, rfl, h⟩
          replace hM := lenT hM hl
          show R234 sl sx d M0 P 79 [some (vR (some l0)), some (vI l1), some (vI l2), some (vI l3)] [] M22
          exact RN_k (callX_det _) 1 _ _ _ _ (show rtW q234 M0 (PV P) none M22 from ⟨rfl, hM.1, hM.2, rfl, h⟩)
      · replace h := h.2 hc
        exact RN_k (callX_det _) 1 _ _ _ _ (show rtW q234 M0 (PV P) none M from ⟨rfl, hM.1, hM.2, rfl, h⟩)
    · replace h := h.2 hc
      refine RN_k (callX_det _) 3 _ _ _ _ (show kd M l0 10 ∧ callX TBg sl sx (d + 5) 235 [vR (some l0), vI l1] M (fun v M9 => R234 sl sx d M0 P 24 [some (vR (some l0)), some (vI l1), some (vI l2), some (vI l3)] (pushO v []) M9) from ⟨h.1, ?_⟩)
      replace h := h.2
      refine callX_mono (callX_len (d := (d + 5)) rfl rfl rfl (c235 (d := d + 3) h)) ?_
      clear h
      rintro v9 M23 ⟨hl, rfl, h⟩
      replace hM := lenT hM hl
      show R234 sl sx d M0 P 24 [some (vR (some l0)), some (vI l1), some (vI l2), some (vI l3)] [] M23
      exact RN_k (callX_det _) 1 _ _ _ _ (show rtW q234 M0 (PV P) none M23 from ⟨rfl, hM.1, hM.2, rfl, h⟩)
  · replace h := h.2 hc
    exact RN_k (callX_det _) 1 _ _ _ _ (show rtW q234 M0 (PV P) none M from ⟨rfl, hM.1, hM.2, rfl, h⟩)
theorem c234 {sl : Nat} {sx : Nat → Int32} {d : Nat} {l0 : Nat} {l1 : Int32} {l2 : Int32} {l3 : Int32} {M : MM} {P : MM → Prop} (h : w234 l0 l1 l2 l3 M P) : callX TBg sl sx (d + 6) 234 [vR (some l0), vI l1, vI l2, vI l3] M (PV P) :=
  cX (d := d + 5) q234 (false, tb234) rfl rfl rfl (t234_E l0 l1 l2 l3 M lenR h)
-- TwoLeashModel.reachesAll()V
abbrev q230 : MQ7 := (1, 1, 6, 10, 0, 0, 0)
abbrev R230 (sl : Nat) (sx : Nat → Int32) (d : Nat) (M0 : MM) (P : MM → Prop) : Nat → LL → List VV → MM → Prop := RN 10 false (mS M0).length (mT M0) 0 0 sl sx (callX TBg sl sx (d + 7)) (rtW q230 M0 (PV P)) (as2 tb230)
def w230_152 (k140 : Nat → Int32 → MM → Prop) : Nat → Nat → Int32 → Int32 → MM → (MM → Prop) → Prop
  | 0 => fun _ _ _ _ _ => False
  | n + 1 => fun l0 l2 l3 M P => kd M l0 10 ∧ ((((mI M l0 28) - (1 : Int32)) ≤ l3 → (k140 l0 (l2 + (1 : Int32)) M)) ∧ (¬ (((mI M l0 28) - (1 : Int32)) ≤ l3) → (w218 (1 : Int32) l2 l3 M (fun r2 M1 => w218 (0 : Int32) l2 l3 M1 (fun r4 M3 => w218 (1 : Int32) (l2 + (1 : Int32)) l3 M3 (fun r6 M5 => kd M5 l0 10 ∧ w234 l0 r6 r4 r2 M5 (fun M7 => w218 (0 : Int32) l2 (l3 + (1 : Int32)) M7 (fun r9 M8 => kd M8 l0 10 ∧ w234 l0 r9 r2 r4 M8 (fun M10 => w230_152 k140 n l0 l2 (l3 + (1 : Int32)) M10 P)))))))))
theorem t230_152 {sl : Nat} {sx : Nat → Int32} {d : Nat} {M0 : MM} {P : MM → Prop} {k140 : Nat → Int32 → MM → Prop} (hk140 : ∀ (l0 : Nat) (l2 : Int32) (M : MM), lenO M0 M → k140 l0 l2 M → R230 sl sx d M0 P 140 [some (vR (some l0)), none, some (vI l2), none, none, none] [] M) (n : Nat) : ∀ (l0 : Nat) (l2 : Int32) (l3 : Int32) (M : MM) (_ : lenO M0 M) (_ : w230_152 k140 n l0 l2 l3 M P), R230 sl sx d M0 P 152 [some (vR (some l0)), none, some (vI l2), some (vI l3), none, none] [] M := by
  induction n with
  | zero => intro l0 l2 l3 M hM h; cases h
  | succ n ih =>
    intro l0 l2 l3 M hM h
    refine RN_k (callX_det _) 3 _ _ _ _ (show kd M l0 10 ∧ R230 sl sx d M0 P 157 [some (vR (some l0)), none, some (vI l2), some (vI l3), none, none] [vI (mI M l0 28), vI l3] M from ⟨h.1, ?_⟩)
    replace h := h.2
    refine RN_k (callX_det _) 3 _ _ _ _ (show (((mI M l0 28) - (1 : Int32)) ≤ l3 → R230 sl sx d M0 P 216 [some (vR (some l0)), none, some (vI l2), some (vI l3), none, none] [] M) ∧ (¬ (((mI M l0 28) - (1 : Int32)) ≤ l3) → R230 sl sx d M0 P 162 [some (vR (some l0)), none, some (vI l2), some (vI l3), none, none] [] M) from ⟨fun hc => ?_, fun hc => ?_⟩)
    · replace h := h.1 hc
      refine RN_k (callX_det _) 2 _ _ _ _ (show R230 sl sx d M0 P 140 [some (vR (some l0)), none, some (vI (l2 + (1 : Int32))), some (vI l3), none, none] [] M from ?_)
      exact RN_weak (K := [some (vR (some l0)), none, some (vI (l2 + (1 : Int32))), none, none, none]) (callX_det _) (show _ ∧ _ ∧ True from ⟨rfl, rfl, trivial⟩) (hk140 l0 (l2 + (1 : Int32)) _ hM h)
    · replace h := h.2 hc
      refine RN_k (callX_det _) 4 _ _ _ _ (show callX TBg sl sx (d + 7) 218 [vI (1 : Int32), vI l2, vI l3] M (fun v M9 => R230 sl sx d M0 P 168 [some (vR (some l0)), none, some (vI l2), some (vI l3), none, none] (pushO v []) M9) from ?_)
      refine callX_mono (callX_len (d := (d + 7)) rfl rfl rfl (c218 (d := d + 6) h)) ?_
      clear h
      rintro v9 M1 ⟨hl, r2, rfl, h⟩
      replace hM := lenT hM hl
      show R230 sl sx d M0 P 168 [some (vR (some l0)), none, some (vI l2), some (vI l3), none, none] [vI r2] M1
      refine RN_k (callX_det _) 5 _ _ _ _ (show callX TBg sl sx (d + 7) 218 [vI (0 : Int32), vI l2, vI l3] M1 (fun v M9 => R230 sl sx d M0 P 176 [some (vR (some l0)), none, some (vI l2), some (vI l3), some (vI r2), none] (pushO v []) M9) from ?_)
      refine callX_mono (callX_len (d := (d + 7)) rfl rfl rfl (c218 (d := d + 6) h)) ?_
      clear h
      rintro v9 M3 ⟨hl, r4, rfl, h⟩
      replace hM := lenT hM hl
      show R230 sl sx d M0 P 176 [some (vR (some l0)), none, some (vI l2), some (vI l3), some (vI r2), none] [vI r4] M3
      refine RN_k (callX_det _) 8 _ _ _ _ (show callX TBg sl sx (d + 7) 218 [vI (1 : Int32), vI (l2 + (1 : Int32)), vI l3] M3 (fun v M9 => R230 sl sx d M0 P 187 [some (vR (some l0)), none, some (vI l2), some (vI l3), some (vI r2), some (vI r4)] (pushO v [vR (some l0)]) M9) from ?_)
      refine callX_mono (callX_len (d := (d + 7)) rfl rfl rfl (c218 (d := d + 6) h)) ?_
      clear h
      rintro v9 M5 ⟨hl, r6, rfl, h⟩
      replace hM := lenT hM hl
      show R230 sl sx d M0 P 187 [some (vR (some l0)), none, some (vI l2), some (vI l3), some (vI r2), some (vI r4)] [vI r6, vR (some l0)] M5
      refine RN_k (callX_det _) 3 _ _ _ _ (show kd M5 l0 10 ∧ callX TBg sl sx (d + 7) 234 [vR (some l0), vI r6, vI r4, vI r2] M5 (fun v M9 => R230 sl sx d M0 P 194 [some (vR (some l0)), none, some (vI l2), some (vI l3), some (vI r2), some (vI r4)] (pushO v []) M9) from ⟨h.1, ?_⟩)
      replace h := h.2
      refine callX_mono (callX_len (d := (d + 7)) rfl rfl rfl (c234 (d := d + 1) h)) ?_
      clear h
      rintro v9 M7 ⟨hl, rfl, h⟩
      replace hM := lenT hM hl
      show R230 sl sx d M0 P 194 [some (vR (some l0)), none, some (vI l2), some (vI l3), some (vI r2), some (vI r4)] [] M7
      refine RN_k (callX_det _) 7 _ _ _ _ (show callX TBg sl sx (d + 7) 218 [vI (0 : Int32), vI l2, vI (l3 + (1 : Int32))] M7 (fun v M9 => R230 sl sx d M0 P 203 [some (vR (some l0)), none, some (vI l2), some (vI l3), some (vI r2), some (vI r4)] (pushO v [vR (some l0)]) M9) from ?_)
      refine callX_mono (callX_len (d := (d + 7)) rfl rfl rfl (c218 (d := d + 6) h)) ?_
      clear h
      rintro v9 M8 ⟨hl, r9, rfl, h⟩
      replace hM := lenT hM hl
      show R230 sl sx d M0 P 203 [some (vR (some l0)), none, some (vI l2), some (vI l3), some (vI r2), some (vI r4)] [vI r9, vR (some l0)] M8
      refine RN_k (callX_det _) 3 _ _ _ _ (show kd M8 l0 10 ∧ callX TBg sl sx (d + 7) 234 [vR (some l0), vI r9, vI r2, vI r4] M8 (fun v M9 => R230 sl sx d M0 P 210 [some (vR (some l0)), none, some (vI l2), some (vI l3), some (vI r2), some (vI r4)] (pushO v []) M9) from ⟨h.1, ?_⟩)
      replace h := h.2
      refine callX_mono (callX_len (d := (d + 7)) rfl rfl rfl (c234 (d := d + 1) h)) ?_
      clear h
      rintro v9 M10 ⟨hl, rfl, h⟩
      replace hM := lenT hM hl
      show R230 sl sx d M0 P 210 [some (vR (some l0)), none, some (vI l2), some (vI l3), some (vI r2), some (vI r4)] [] M10
      refine RN_k (callX_det _) 2 _ _ _ _ (show R230 sl sx d M0 P 152 [some (vR (some l0)), none, some (vI l2), some (vI (l3 + (1 : Int32))), some (vI r2), some (vI r4)] [] M10 from ?_)
      exact RN_weak (K := [some (vR (some l0)), none, some (vI l2), some (vI (l3 + (1 : Int32))), none, none]) (callX_det _) (show _ ∧ _ ∧ _ ∧ True from ⟨rfl, rfl, rfl, trivial⟩) (ih l0 l2 (l3 + (1 : Int32)) _ hM h)
def w230_140 : Nat → Nat → Int32 → MM → (MM → Prop) → Prop
  | 0 => fun _ _ _ _ => False
  | n + 1 => fun l0 l2 M P => kd M l0 10 ∧ ((((mI M l0 27) - (1 : Int32)) ≤ l2 → (P M)) ∧ (¬ (((mI M l0 27) - (1 : Int32)) ≤ l2) → (∃ n2, w230_152 (fun z0 z1 z2 => w230_140  n z0 z1 z2 P) n2 l0 l2 (0 : Int32) M P)))
theorem t230_140 {sl : Nat} {sx : Nat → Int32} {d : Nat} {M0 : MM} {P : MM → Prop} (n : Nat) : ∀ (l0 : Nat) (l2 : Int32) (M : MM) (_ : lenO M0 M) (_ : w230_140  n l0 l2 M P), R230 sl sx d M0 P 140 [some (vR (some l0)), none, some (vI l2), none, none, none] [] M := by
  induction n with
  | zero => intro l0 l2 M hM h; cases h
  | succ n ih =>
    intro l0 l2 M hM h
    refine RN_k (callX_det _) 3 _ _ _ _ (show kd M l0 10 ∧ R230 sl sx d M0 P 145 [some (vR (some l0)), none, some (vI l2), none, none, none] [vI (mI M l0 27), vI l2] M from ⟨h.1, ?_⟩)
    replace h := h.2
    refine RN_k (callX_det _) 3 _ _ _ _ (show (((mI M l0 27) - (1 : Int32)) ≤ l2 → R230 sl sx d M0 P 222 [some (vR (some l0)), none, some (vI l2), none, none, none] [] M) ∧ (¬ (((mI M l0 27) - (1 : Int32)) ≤ l2) → R230 sl sx d M0 P 150 [some (vR (some l0)), none, some (vI l2), none, none, none] [] M) from ⟨fun hc => ?_, fun hc => ?_⟩)
    · replace h := h.1 hc
      exact RN_k (callX_det _) 1 _ _ _ _ (show rtW q230 M0 (PV P) none M from ⟨rfl, hM.1, hM.2, rfl, h⟩)
    · replace h := h.2 hc
      refine RN_k (callX_det _) 2 _ _ _ _ (show R230 sl sx d M0 P 152 [some (vR (some l0)), none, some (vI l2), some (vI (0 : Int32)), none, none] [] M from ?_)
      obtain ⟨n2, h⟩ := h
      exact RN_weak (K := [some (vR (some l0)), none, some (vI l2), some (vI (0 : Int32)), none, none]) (callX_det _) (show _ ∧ _ ∧ _ ∧ True from ⟨rfl, rfl, rfl, trivial⟩) (t230_152 ih n2 l0 l2 (0 : Int32) _ hM h)
def w230_132 (k82 : Nat → Int32 → Int32 → MM → Prop) (l0 : Nat) (l1 : Int32) (l2 : Int32) (M : MM) (P : MM → Prop) : Prop := k82 l0 l1 (l2 + (1 : Int32)) M
theorem t230_132 {sl : Nat} {sx : Nat → Int32} {d : Nat} {M0 : MM} {P : MM → Prop} {k82 : Nat → Int32 → Int32 → MM → Prop} (hk82 : ∀ (l0 : Nat) (l1 : Int32) (l2 : Int32) (M : MM), lenO M0 M → k82 l0 l1 l2 M → R230 sl sx d M0 P 82 [some (vR (some l0)), some (vI l1), some (vI l2), none, none, none] [] M) (l0 : Nat) (l1 : Int32) (l2 : Int32) (M : MM) (hM : lenO M0 M) (h : w230_132 k82 l0 l1 l2 M P) : R230 sl sx d M0 P 132 [some (vR (some l0)), some (vI l1), some (vI l2), none, none, none] [] M := by
  refine RN_k (callX_det _) 2 _ _ _ _ (show R230 sl sx d M0 P 82 [some (vR (some l0)), some (vI l1), some (vI (l2 + (1 : Int32))), none, none, none] [] M from ?_)
  exact RN_weak (K := [some (vR (some l0)), some (vI l1), some (vI (l2 + (1 : Int32))), none, none, none]) (callX_det _) (show _ ∧ _ ∧ _ ∧ True from ⟨rfl, rfl, rfl, trivial⟩) (hk82 l0 l1 (l2 + (1 : Int32)) _ hM h)
def w230_114 (k82 : Nat → Int32 → Int32 → MM → Prop) (l0 : Nat) (l2 : Int32) (s0 : Int32) (M : MM) (P : MM → Prop) : Prop := (s0 = 0 → (w230_132 k82 l0 s0 l2 M P)) ∧ (¬ (s0 = 0) → (w218 (1 : Int32) (0 : Int32) l2 M (fun r2 M1 => kd M1 l0 10 ∧ w233 l0 r2 (0 : Int64) (1 : Int32) (0 : Int64) M1 (fun M3 => w230_132 k82 l0 s0 l2 M3 P))))
theorem t230_114 {sl : Nat} {sx : Nat → Int32} {d : Nat} {M0 : MM} {P : MM → Prop} {k82 : Nat → Int32 → Int32 → MM → Prop} (hk82 : ∀ (l0 : Nat) (l1 : Int32) (l2 : Int32) (M : MM), lenO M0 M → k82 l0 l1 l2 M → R230 sl sx d M0 P 82 [some (vR (some l0)), some (vI l1), some (vI l2), none, none, none] [] M) (l0 : Nat) (l2 : Int32) (s0 : Int32) (M : MM) (hM : lenO M0 M) (h : w230_114 k82 l0 l2 s0 M P) : R230 sl sx d M0 P 114 [some (vR (some l0)), none, some (vI l2), none, none, none] [vI s0] M := by
  refine RN_k (callX_det _) 3 _ _ _ _ (show (s0 = 0 → R230 sl sx d M0 P 132 [some (vR (some l0)), some (vI s0), some (vI l2), none, none, none] [] M) ∧ (¬ (s0 = 0) → R230 sl sx d M0 P 119 [some (vR (some l0)), some (vI s0), some (vI l2), none, none, none] [] M) from ⟨fun hc => ?_, fun hc => ?_⟩)
  · replace h := h.1 hc
    exact RN_weak (K := [some (vR (some l0)), some (vI s0), some (vI l2), none, none, none]) (callX_det _) (show _ ∧ _ ∧ _ ∧ True from ⟨rfl, rfl, rfl, trivial⟩) (t230_132 hk82 l0 s0 l2 _ hM h)
  · replace h := h.2 hc
    refine RN_k (callX_det _) 5 _ _ _ _ (show callX TBg sl sx (d + 7) 218 [vI (1 : Int32), vI (0 : Int32), vI l2] M (fun v M9 => R230 sl sx d M0 P 126 [some (vR (some l0)), some (vI s0), some (vI l2), none, none, none] (pushO v [vR (some l0)]) M9) from ?_)
    refine callX_mono (callX_len (d := (d + 7)) rfl rfl rfl (c218 (d := d + 6) h)) ?_
    clear h
    rintro v9 M1 ⟨hl, r2, rfl, h⟩
    replace hM := lenT hM hl
    show R230 sl sx d M0 P 126 [some (vR (some l0)), some (vI s0), some (vI l2), none, none, none] [vI r2, vR (some l0)] M1
    refine RN_k (callX_det _) 4 _ _ _ _ (show kd M1 l0 10 ∧ callX TBg sl sx (d + 7) 233 [vR (some l0), vI r2, vL (0 : Int64), vI (1 : Int32), vL (0 : Int64)] M1 (fun v M9 => R230 sl sx d M0 P 132 [some (vR (some l0)), some (vI s0), some (vI l2), none, none, none] (pushO v []) M9) from ⟨h.1, ?_⟩)
    replace h := h.2
    refine callX_mono (callX_len (d := (d + 7)) rfl rfl rfl (c233 (d := d + 6) h)) ?_
    clear h
    rintro v9 M3 ⟨hl, rfl, h⟩
    replace hM := lenT hM hl
    show R230 sl sx d M0 P 132 [some (vR (some l0)), some (vI s0), some (vI l2), none, none, none] [] M3
    exact RN_weak (K := [some (vR (some l0)), some (vI s0), some (vI l2), none, none, none]) (callX_det _) (show _ ∧ _ ∧ _ ∧ True from ⟨rfl, rfl, rfl, trivial⟩) (t230_132 hk82 l0 s0 l2 _ hM h)
def w230_113 (k82 : Nat → Int32 → Int32 → MM → Prop) (l0 : Nat) (l2 : Int32) (M : MM) (P : MM → Prop) : Prop := w230_114 k82 l0 l2 (0 : Int32) M P
theorem t230_113 {sl : Nat} {sx : Nat → Int32} {d : Nat} {M0 : MM} {P : MM → Prop} {k82 : Nat → Int32 → Int32 → MM → Prop} (hk82 : ∀ (l0 : Nat) (l1 : Int32) (l2 : Int32) (M : MM), lenO M0 M → k82 l0 l1 l2 M → R230 sl sx d M0 P 82 [some (vR (some l0)), some (vI l1), some (vI l2), none, none, none] [] M) (l0 : Nat) (l2 : Int32) (M : MM) (hM : lenO M0 M) (h : w230_113 k82 l0 l2 M P) : R230 sl sx d M0 P 113 [some (vR (some l0)), none, some (vI l2), none, none, none] [] M := by
  refine RN_k (callX_det _) 1 _ _ _ _ (show R230 sl sx d M0 P 114 [some (vR (some l0)), none, some (vI l2), none, none, none] [vI (0 : Int32)] M from ?_)
  exact RN_weak (K := [some (vR (some l0)), none, some (vI l2), none, none, none]) (callX_det _) (show _ ∧ _ ∧ True from ⟨rfl, rfl, trivial⟩) (t230_114 hk82 l0 l2 (0 : Int32) _ hM h)
def w230_82 : Nat → Nat → Int32 → Int32 → MM → (MM → Prop) → Prop
  | 0 => fun _ _ _ _ _ => False
  | n + 1 => fun l0 l1 l2 M P => kd M l0 10 ∧ ((((mI M l0 28) - (1 : Int32)) ≤ l2 → (∃ n2, w230_140  n2 l0 (0 : Int32) M P)) ∧ (¬ (((mI M l0 28) - (1 : Int32)) ≤ l2) → ((l1 = 0 → (w230_113 (fun z0 z1 z2 z3 => w230_82  n z0 z1 z2 z3 P) l0 l2 M P)) ∧ (¬ (l1 = 0) → (kd M l0 10 ∧ w231 l0 (0 : Int32) l2 M (fun r2 M1 => kd M1 l0 10 ∧ w232 l0 r2 M1 (fun r4 M3 => (r4 = 0 → (w230_113 (fun z0 z1 z2 z3 => w230_82  n z0 z1 z2 z3 P) l0 l2 M3 P)) ∧ (¬ (r4 = 0) → (w230_114 (fun z0 z1 z2 z3 => w230_82  n z0 z1 z2 z3 P) l0 l2 (1 : Int32) M3 P)))))))))
theorem t230_82 {sl : Nat} {sx : Nat → Int32} {d : Nat} {M0 : MM} {P : MM → Prop} (n : Nat) : ∀ (l0 : Nat) (l1 : Int32) (l2 : Int32) (M : MM) (_ : lenO M0 M) (_ : w230_82  n l0 l1 l2 M P), R230 sl sx d M0 P 82 [some (vR (some l0)), some (vI l1), some (vI l2), none, none, none] [] M := by
  induction n with
  | zero => intro l0 l1 l2 M hM h; cases h
  | succ n ih =>
    intro l0 l1 l2 M hM h
    refine RN_k (callX_det _) 3 _ _ _ _ (show kd M l0 10 ∧ R230 sl sx d M0 P 87 [some (vR (some l0)), some (vI l1), some (vI l2), none, none, none] [vI (mI M l0 28), vI l2] M from ⟨h.1, ?_⟩)
    replace h := h.2
    refine RN_k (callX_det _) 3 _ _ _ _ (show (((mI M l0 28) - (1 : Int32)) ≤ l2 → R230 sl sx d M0 P 138 [some (vR (some l0)), some (vI l1), some (vI l2), none, none, none] [] M) ∧ (¬ (((mI M l0 28) - (1 : Int32)) ≤ l2) → R230 sl sx d M0 P 92 [some (vR (some l0)), some (vI l1), some (vI l2), none, none, none] [] M) from ⟨fun hc => ?_, fun hc => ?_⟩)
    · replace h := h.1 hc
      refine RN_k (callX_det _) 2 _ _ _ _ (show R230 sl sx d M0 P 140 [some (vR (some l0)), some (vI l1), some (vI (0 : Int32)), none, none, none] [] M from ?_)
      obtain ⟨n2, h⟩ := h
      exact RN_weak (K := [some (vR (some l0)), none, some (vI (0 : Int32)), none, none, none]) (callX_det _) (show _ ∧ _ ∧ True from ⟨rfl, rfl, trivial⟩) (t230_140  n2 l0 (0 : Int32) _ hM h)
    · replace h := h.2 hc
      refine RN_k (callX_det _) 2 _ _ _ _ (show (l1 = 0 → R230 sl sx d M0 P 113 [some (vR (some l0)), some (vI l1), some (vI l2), none, none, none] [] M) ∧ (¬ (l1 = 0) → R230 sl sx d M0 P 96 [some (vR (some l0)), some (vI l1), some (vI l2), none, none, none] [] M) from ⟨fun hc => ?_, fun hc => ?_⟩)
      · replace h := h.1 hc
        exact RN_weak (K := [some (vR (some l0)), none, some (vI l2), none, none, none]) (callX_det _) (show _ ∧ _ ∧ True from ⟨rfl, rfl, trivial⟩) (t230_113 ih l0 l2 _ hM h)
      · replace h := h.2 hc
        refine RN_k (callX_det _) 5 _ _ _ _ (show kd M l0 10 ∧ callX TBg sl sx (d + 7) 231 [vR (some l0), vI (0 : Int32), vI l2] M (fun v M9 => R230 sl sx d M0 P 103 [some (vR (some l0)), some (vI l1), some (vI l2), none, none, none] (pushO v [vR (some l0)]) M9) from ⟨h.1, ?_⟩)
        replace h := h.2
        refine callX_mono (callX_len (d := (d + 7)) rfl rfl rfl (c231 (d := d + 5) h)) ?_
        clear h
        rintro v9 M1 ⟨hl, r2, rfl, h⟩
        replace hM := lenT hM hl
        show R230 sl sx d M0 P 103 [some (vR (some l0)), some (vI l1), some (vI l2), none, none, none] [vI r2, vR (some l0)] M1
        refine RN_k (callX_det _) 1 _ _ _ _ (show kd M1 l0 10 ∧ callX TBg sl sx (d + 7) 232 [vR (some l0), vI r2] M1 (fun v M9 => R230 sl sx d M0 P 106 [some (vR (some l0)), some (vI l1), some (vI l2), none, none, none] (pushO v []) M9) from ⟨h.1, ?_⟩)
        replace h := h.2
        refine callX_mono (callX_len (d := (d + 7)) rfl rfl rfl (c232 (d := d + 6) h)) ?_
        clear h
        rintro v9 M3 ⟨hl, r4, rfl, h⟩
        replace hM := lenT hM hl
        show R230 sl sx d M0 P 106 [some (vR (some l0)), some (vI l1), some (vI l2), none, none, none] [vI r4] M3
        refine RN_k (callX_det _) 1 _ _ _ _ (show (r4 = 0 → R230 sl sx d M0 P 113 [some (vR (some l0)), some (vI l1), some (vI l2), none, none, none] [] M3) ∧ (¬ (r4 = 0) → R230 sl sx d M0 P 109 [some (vR (some l0)), some (vI l1), some (vI l2), none, none, none] [] M3) from ⟨fun hc => ?_, fun hc => ?_⟩)
        · replace h := h.1 hc
          exact RN_weak (K := [some (vR (some l0)), none, some (vI l2), none, none, none]) (callX_det _) (show _ ∧ _ ∧ True from ⟨rfl, rfl, trivial⟩) (t230_113 ih l0 l2 _ hM h)
        · replace h := h.2 hc
          refine RN_k (callX_det _) 2 _ _ _ _ (show R230 sl sx d M0 P 114 [some (vR (some l0)), some (vI l1), some (vI l2), none, none, none] [vI (1 : Int32)] M3 from ?_)
          exact RN_weak (K := [some (vR (some l0)), none, some (vI l2), none, none, none]) (callX_det _) (show _ ∧ _ ∧ True from ⟨rfl, rfl, trivial⟩) (t230_114 ih l0 l2 (1 : Int32) _ hM h)
def w230_72 (k22 : Nat → Int32 → Int32 → MM → Prop) (l0 : Nat) (l1 : Int32) (l2 : Int32) (M : MM) (P : MM → Prop) : Prop := k22 l0 l1 (l2 + (1 : Int32)) M
theorem t230_72 {sl : Nat} {sx : Nat → Int32} {d : Nat} {M0 : MM} {P : MM → Prop} {k22 : Nat → Int32 → Int32 → MM → Prop} (hk22 : ∀ (l0 : Nat) (l1 : Int32) (l2 : Int32) (M : MM), lenO M0 M → k22 l0 l1 l2 M → R230 sl sx d M0 P 22 [some (vR (some l0)), some (vI l1), some (vI l2), none, none, none] [] M) (l0 : Nat) (l1 : Int32) (l2 : Int32) (M : MM) (hM : lenO M0 M) (h : w230_72 k22 l0 l1 l2 M P) : R230 sl sx d M0 P 72 [some (vR (some l0)), some (vI l1), some (vI l2), none, none, none] [] M := by
  refine RN_k (callX_det _) 2 _ _ _ _ (show R230 sl sx d M0 P 22 [some (vR (some l0)), some (vI l1), some (vI (l2 + (1 : Int32))), none, none, none] [] M from ?_)
  exact RN_weak (K := [some (vR (some l0)), some (vI l1), some (vI (l2 + (1 : Int32))), none, none, none]) (callX_det _) (show _ ∧ _ ∧ _ ∧ True from ⟨rfl, rfl, rfl, trivial⟩) (hk22 l0 l1 (l2 + (1 : Int32)) _ hM h)
def w230_54 (k22 : Nat → Int32 → Int32 → MM → Prop) (l0 : Nat) (l2 : Int32) (s0 : Int32) (M : MM) (P : MM → Prop) : Prop := (s0 = 0 → (w230_72 k22 l0 s0 l2 M P)) ∧ (¬ (s0 = 0) → (w218 (0 : Int32) l2 (0 : Int32) M (fun r2 M1 => kd M1 l0 10 ∧ w233 l0 r2 (0 : Int64) (1 : Int32) (0 : Int64) M1 (fun M3 => w230_72 k22 l0 s0 l2 M3 P))))
theorem t230_54 {sl : Nat} {sx : Nat → Int32} {d : Nat} {M0 : MM} {P : MM → Prop} {k22 : Nat → Int32 → Int32 → MM → Prop} (hk22 : ∀ (l0 : Nat) (l1 : Int32) (l2 : Int32) (M : MM), lenO M0 M → k22 l0 l1 l2 M → R230 sl sx d M0 P 22 [some (vR (some l0)), some (vI l1), some (vI l2), none, none, none] [] M) (l0 : Nat) (l2 : Int32) (s0 : Int32) (M : MM) (hM : lenO M0 M) (h : w230_54 k22 l0 l2 s0 M P) : R230 sl sx d M0 P 54 [some (vR (some l0)), none, some (vI l2), none, none, none] [vI s0] M := by
  refine RN_k (callX_det _) 3 _ _ _ _ (show (s0 = 0 → R230 sl sx d M0 P 72 [some (vR (some l0)), some (vI s0), some (vI l2), none, none, none] [] M) ∧ (¬ (s0 = 0) → R230 sl sx d M0 P 59 [some (vR (some l0)), some (vI s0), some (vI l2), none, none, none] [] M) from ⟨fun hc => ?_, fun hc => ?_⟩)
  · replace h := h.1 hc
    exact RN_weak (K := [some (vR (some l0)), some (vI s0), some (vI l2), none, none, none]) (callX_det _) (show _ ∧ _ ∧ _ ∧ True from ⟨rfl, rfl, rfl, trivial⟩) (t230_72 hk22 l0 s0 l2 _ hM h)
  · replace h := h.2 hc
    refine RN_k (callX_det _) 5 _ _ _ _ (show callX TBg sl sx (d + 7) 218 [vI (0 : Int32), vI l2, vI (0 : Int32)] M (fun v M9 => R230 sl sx d M0 P 66 [some (vR (some l0)), some (vI s0), some (vI l2), none, none, none] (pushO v [vR (some l0)]) M9) from ?_)
    refine callX_mono (callX_len (d := (d + 7)) rfl rfl rfl (c218 (d := d + 6) h)) ?_
    clear h
    rintro v9 M1 ⟨hl, r2, rfl, h⟩
    replace hM := lenT hM hl
    show R230 sl sx d M0 P 66 [some (vR (some l0)), some (vI s0), some (vI l2), none, none, none] [vI r2, vR (some l0)] M1
    refine RN_k (callX_det _) 4 _ _ _ _ (show kd M1 l0 10 ∧ callX TBg sl sx (d + 7) 233 [vR (some l0), vI r2, vL (0 : Int64), vI (1 : Int32), vL (0 : Int64)] M1 (fun v M9 => R230 sl sx d M0 P 72 [some (vR (some l0)), some (vI s0), some (vI l2), none, none, none] (pushO v []) M9) from ⟨h.1, ?_⟩)
    replace h := h.2
    refine callX_mono (callX_len (d := (d + 7)) rfl rfl rfl (c233 (d := d + 6) h)) ?_
    clear h
    rintro v9 M3 ⟨hl, rfl, h⟩
    replace hM := lenT hM hl
    show R230 sl sx d M0 P 72 [some (vR (some l0)), some (vI s0), some (vI l2), none, none, none] [] M3
    exact RN_weak (K := [some (vR (some l0)), some (vI s0), some (vI l2), none, none, none]) (callX_det _) (show _ ∧ _ ∧ _ ∧ True from ⟨rfl, rfl, rfl, trivial⟩) (t230_72 hk22 l0 s0 l2 _ hM h)
def w230_53 (k22 : Nat → Int32 → Int32 → MM → Prop) (l0 : Nat) (l2 : Int32) (M : MM) (P : MM → Prop) : Prop := w230_54 k22 l0 l2 (0 : Int32) M P
theorem t230_53 {sl : Nat} {sx : Nat → Int32} {d : Nat} {M0 : MM} {P : MM → Prop} {k22 : Nat → Int32 → Int32 → MM → Prop} (hk22 : ∀ (l0 : Nat) (l1 : Int32) (l2 : Int32) (M : MM), lenO M0 M → k22 l0 l1 l2 M → R230 sl sx d M0 P 22 [some (vR (some l0)), some (vI l1), some (vI l2), none, none, none] [] M) (l0 : Nat) (l2 : Int32) (M : MM) (hM : lenO M0 M) (h : w230_53 k22 l0 l2 M P) : R230 sl sx d M0 P 53 [some (vR (some l0)), none, some (vI l2), none, none, none] [] M := by
  refine RN_k (callX_det _) 1 _ _ _ _ (show R230 sl sx d M0 P 54 [some (vR (some l0)), none, some (vI l2), none, none, none] [vI (0 : Int32)] M from ?_)
  exact RN_weak (K := [some (vR (some l0)), none, some (vI l2), none, none, none]) (callX_det _) (show _ ∧ _ ∧ True from ⟨rfl, rfl, trivial⟩) (t230_54 hk22 l0 l2 (0 : Int32) _ hM h)
def w230_22 : Nat → Nat → Int32 → Int32 → MM → (MM → Prop) → Prop
  | 0 => fun _ _ _ _ _ => False
  | n + 1 => fun l0 l1 l2 M P => kd M l0 10 ∧ ((((mI M l0 27) - (1 : Int32)) ≤ l2 → (∃ n2, w230_82  n2 l0 (1 : Int32) (0 : Int32) M P)) ∧ (¬ (((mI M l0 27) - (1 : Int32)) ≤ l2) → ((l1 = 0 → (w230_53 (fun z0 z1 z2 z3 => w230_22  n z0 z1 z2 z3 P) l0 l2 M P)) ∧ (¬ (l1 = 0) → (kd M l0 10 ∧ w231 l0 l2 (0 : Int32) M (fun r2 M1 => kd M1 l0 10 ∧ w232 l0 r2 M1 (fun r4 M3 => (r4 = 0 → (w230_53 (fun z0 z1 z2 z3 => w230_22  n z0 z1 z2 z3 P) l0 l2 M3 P)) ∧ (¬ (r4 = 0) → (w230_54 (fun z0 z1 z2 z3 => w230_22  n z0 z1 z2 z3 P) l0 l2 (1 : Int32) M3 P)))))))))
theorem t230_22 {sl : Nat} {sx : Nat → Int32} {d : Nat} {M0 : MM} {P : MM → Prop} (n : Nat) : ∀ (l0 : Nat) (l1 : Int32) (l2 : Int32) (M : MM) (_ : lenO M0 M) (_ : w230_22  n l0 l1 l2 M P), R230 sl sx d M0 P 22 [some (vR (some l0)), some (vI l1), some (vI l2), none, none, none] [] M := by
  induction n with
  | zero => intro l0 l1 l2 M hM h; cases h
  | succ n ih =>
    intro l0 l1 l2 M hM h
    refine RN_k (callX_det _) 3 _ _ _ _ (show kd M l0 10 ∧ R230 sl sx d M0 P 27 [some (vR (some l0)), some (vI l1), some (vI l2), none, none, none] [vI (mI M l0 27), vI l2] M from ⟨h.1, ?_⟩)
    replace h := h.2
    refine RN_k (callX_det _) 3 _ _ _ _ (show (((mI M l0 27) - (1 : Int32)) ≤ l2 → R230 sl sx d M0 P 78 [some (vR (some l0)), some (vI l1), some (vI l2), none, none, none] [] M) ∧ (¬ (((mI M l0 27) - (1 : Int32)) ≤ l2) → R230 sl sx d M0 P 32 [some (vR (some l0)), some (vI l1), some (vI l2), none, none, none] [] M) from ⟨fun hc => ?_, fun hc => ?_⟩)
    · replace h := h.1 hc
      refine RN_k (callX_det _) 4 _ _ _ _ (show R230 sl sx d M0 P 82 [some (vR (some l0)), some (vI (1 : Int32)), some (vI (0 : Int32)), none, none, none] [] M from ?_)
      obtain ⟨n2, h⟩ := h
      exact RN_weak (K := [some (vR (some l0)), some (vI (1 : Int32)), some (vI (0 : Int32)), none, none, none]) (callX_det _) (show _ ∧ _ ∧ _ ∧ True from ⟨rfl, rfl, rfl, trivial⟩) (t230_82  n2 l0 (1 : Int32) (0 : Int32) _ hM h)
    · replace h := h.2 hc
      refine RN_k (callX_det _) 2 _ _ _ _ (show (l1 = 0 → R230 sl sx d M0 P 53 [some (vR (some l0)), some (vI l1), some (vI l2), none, none, none] [] M) ∧ (¬ (l1 = 0) → R230 sl sx d M0 P 36 [some (vR (some l0)), some (vI l1), some (vI l2), none, none, none] [] M) from ⟨fun hc => ?_, fun hc => ?_⟩)
      · replace h := h.1 hc
        exact RN_weak (K := [some (vR (some l0)), none, some (vI l2), none, none, none]) (callX_det _) (show _ ∧ _ ∧ True from ⟨rfl, rfl, trivial⟩) (t230_53 ih l0 l2 _ hM h)
      · replace h := h.2 hc
        refine RN_k (callX_det _) 5 _ _ _ _ (show kd M l0 10 ∧ callX TBg sl sx (d + 7) 231 [vR (some l0), vI l2, vI (0 : Int32)] M (fun v M9 => R230 sl sx d M0 P 43 [some (vR (some l0)), some (vI l1), some (vI l2), none, none, none] (pushO v [vR (some l0)]) M9) from ⟨h.1, ?_⟩)
        replace h := h.2
        refine callX_mono (callX_len (d := (d + 7)) rfl rfl rfl (c231 (d := d + 5) h)) ?_
        clear h
        rintro v9 M1 ⟨hl, r2, rfl, h⟩
        replace hM := lenT hM hl
        show R230 sl sx d M0 P 43 [some (vR (some l0)), some (vI l1), some (vI l2), none, none, none] [vI r2, vR (some l0)] M1
        refine RN_k (callX_det _) 1 _ _ _ _ (show kd M1 l0 10 ∧ callX TBg sl sx (d + 7) 232 [vR (some l0), vI r2] M1 (fun v M9 => R230 sl sx d M0 P 46 [some (vR (some l0)), some (vI l1), some (vI l2), none, none, none] (pushO v []) M9) from ⟨h.1, ?_⟩)
        replace h := h.2
        refine callX_mono (callX_len (d := (d + 7)) rfl rfl rfl (c232 (d := d + 6) h)) ?_
        clear h
        rintro v9 M3 ⟨hl, r4, rfl, h⟩
        replace hM := lenT hM hl
        show R230 sl sx d M0 P 46 [some (vR (some l0)), some (vI l1), some (vI l2), none, none, none] [vI r4] M3
        refine RN_k (callX_det _) 1 _ _ _ _ (show (r4 = 0 → R230 sl sx d M0 P 53 [some (vR (some l0)), some (vI l1), some (vI l2), none, none, none] [] M3) ∧ (¬ (r4 = 0) → R230 sl sx d M0 P 49 [some (vR (some l0)), some (vI l1), some (vI l2), none, none, none] [] M3) from ⟨fun hc => ?_, fun hc => ?_⟩)
        · replace h := h.1 hc
          exact RN_weak (K := [some (vR (some l0)), none, some (vI l2), none, none, none]) (callX_det _) (show _ ∧ _ ∧ True from ⟨rfl, rfl, trivial⟩) (t230_53 ih l0 l2 _ hM h)
        · replace h := h.2 hc
          refine RN_k (callX_det _) 2 _ _ _ _ (show R230 sl sx d M0 P 54 [some (vR (some l0)), some (vI l1), some (vI l2), none, none, none] [vI (1 : Int32)] M3 from ?_)
          exact RN_weak (K := [some (vR (some l0)), none, some (vI l2), none, none, none]) (callX_det _) (show _ ∧ _ ∧ True from ⟨rfl, rfl, trivial⟩) (t230_54 ih l0 l2 (1 : Int32) _ hM h)
def w230 (l0 : Nat) (M : MM) (P : MM → Prop) : Prop := kd M l0 10 ∧ w216 l0 M (fun M1 => kd M1 l0 10 ∧ w231 l0 (0 : Int32) (0 : Int32) M1 (fun r3 M2 => kd M2 l0 10 ∧ w232 l0 r3 M2 (fun r5 M4 => (r5 ≠ 0 → (∃ n2, w230_22  n2 l0 (1 : Int32) (0 : Int32) M4 P)) ∧ (¬ (r5 ≠ 0) → (P M4)))))
theorem t230_E {sl : Nat} {sx : Nat → Int32} {d : Nat} {M0 : MM} {P : MM → Prop} (l0 : Nat) (M : MM) (hM : lenO M0 M) (h : w230  l0 M P) : R230 sl sx d M0 P 0 [some (vR (some l0)), none, none, none, none, none] [] M := by
  refine RN_k (callX_det _) 2 _ _ _ _ (show kd M l0 10 ∧ callX TBg sl sx (d + 7) 216 [vR (some l0)] M (fun v M9 => R230 sl sx d M0 P 4 [some (vR (some l0)), none, none, none, none, none] (pushO v []) M9) from ⟨h.1, ?_⟩)
  replace h := h.2
  refine callX_mono (callX_len (d := (d + 7)) rfl rfl rfl (c216 (d := d) h)) ?_
  clear h
  rintro v9 M1 ⟨hl, rfl, h⟩
  replace hM := lenT hM hl
  show R230 sl sx d M0 P 4 [some (vR (some l0)), none, none, none, none, none] [] M1
  refine RN_k (callX_det _) 5 _ _ _ _ (show kd M1 l0 10 ∧ callX TBg sl sx (d + 7) 231 [vR (some l0), vI (0 : Int32), vI (0 : Int32)] M1 (fun v M9 => R230 sl sx d M0 P 11 [some (vR (some l0)), none, none, none, none, none] (pushO v [vR (some l0)]) M9) from ⟨h.1, ?_⟩)
  replace h := h.2
  refine callX_mono (callX_len (d := (d + 7)) rfl rfl rfl (c231 (d := d + 5) h)) ?_
  clear h
  rintro v9 M2 ⟨hl, r3, rfl, h⟩
  replace hM := lenT hM hl
  show R230 sl sx d M0 P 11 [some (vR (some l0)), none, none, none, none, none] [vI r3, vR (some l0)] M2
  refine RN_k (callX_det _) 1 _ _ _ _ (show kd M2 l0 10 ∧ callX TBg sl sx (d + 7) 232 [vR (some l0), vI r3] M2 (fun v M9 => R230 sl sx d M0 P 14 [some (vR (some l0)), none, none, none, none, none] (pushO v []) M9) from ⟨h.1, ?_⟩)
  replace h := h.2
  refine callX_mono (callX_len (d := (d + 7)) rfl rfl rfl (c232 (d := d + 6) h)) ?_
  clear h
  rintro v9 M4 ⟨hl, r5, rfl, h⟩
  replace hM := lenT hM hl
  show R230 sl sx d M0 P 14 [some (vR (some l0)), none, none, none, none, none] [vI r5] M4
  refine RN_k (callX_det _) 1 _ _ _ _ (show (r5 ≠ 0 → R230 sl sx d M0 P 18 [some (vR (some l0)), none, none, none, none, none] [] M4) ∧ (¬ (r5 ≠ 0) → R230 sl sx d M0 P 17 [some (vR (some l0)), none, none, none, none, none] [] M4) from ⟨fun hc => ?_, fun hc => ?_⟩)
  · replace h := h.1 hc
    refine RN_k (callX_det _) 4 _ _ _ _ (show R230 sl sx d M0 P 22 [some (vR (some l0)), some (vI (1 : Int32)), some (vI (0 : Int32)), none, none, none] [] M4 from ?_)
    obtain ⟨n2, h⟩ := h
    exact RN_weak (K := [some (vR (some l0)), some (vI (1 : Int32)), some (vI (0 : Int32)), none, none, none]) (callX_det _) (show _ ∧ _ ∧ _ ∧ True from ⟨rfl, rfl, rfl, trivial⟩) (t230_22  n2 l0 (1 : Int32) (0 : Int32) _ hM h)
  · replace h := h.2 hc
    exact RN_k (callX_det _) 1 _ _ _ _ (show rtW q230 M0 (PV P) none M4 from ⟨rfl, hM.1, hM.2, rfl, h⟩)
theorem c230 {sl : Nat} {sx : Nat → Int32} {d : Nat} {l0 : Nat} {M : MM} {P : MM → Prop} (h : w230 l0 M P) : callX TBg sl sx (d + 8) 230 [vR (some l0)] M (PV P) :=
  cX (d := d + 7) q230 (false, tb230) rfl rfl rfl (t230_E l0 M lenR h)
-- TwoLeashModel.low(IIZIIII)I
abbrev q229 : MQ7 := (8, 1, 10, 10, 0, 0, 1)
abbrev R229 (sl : Nat) (sx : Nat → Int32) (d : Nat) (M0 : MM) (P : Int32 → MM → Prop) : Nat → LL → List VV → MM → Prop := RN 10 false (mS M0).length (mT M0) 0 0 sl sx (callX TBg sl sx (d + 8)) (rtW q229 M0 (PI P)) (as2 tb229)
def w229_123 (s0 : Int32) (M : MM) (P : Int32 → MM → Prop) : Prop := P s0 M
theorem t229_123 {sl : Nat} {sx : Nat → Int32} {d : Nat} {M0 : MM} {P : Int32 → MM → Prop} (s0 : Int32) (M : MM) (hM : lenO M0 M) (h : w229_123  s0 M P) : R229 sl sx d M0 P 123 [none, none, none, none, none, none, none, none, none, none] [vI s0] M := by
  exact RN_k (callX_det _) 1 _ _ _ _ (show rtW q229 M0 (PI P) (some (vI s0)) M from ⟨⟨_, rfl⟩, hM.1, hM.2, _, rfl, h⟩)
def w229 (l0 : Nat) (l1 : Int32) (l2 : Int32) (l3 : Int32) (l4 : Int32) (l5 : Int32) (l6 : Int32) (l7 : Int32) (M : MM) (P : Int32 → MM → Prop) : Prop := w209 l6 l7 M (fun r2 M1 => (r2 ≠ 0 → (kd M1 l0 10 ∧ w210 l0 l1 l2 l3 l4 l5 M1 (fun r4 M3 => (r4 ≤ 0 → (kd M3 l0 10 ∧ w211 l0 l1 l2 M3 (fun M5 => kd M5 l0 10 ∧ w215 l0 l6 l7 M5 (fun M6 => kd M6 l0 10 ∧ w230 l0 M6 (fun M7 => w218 l3 l4 l5 M7 (fun r9 M8 => kd M8 l0 10 ∧ (∃ a10, mR M8 l0 35 = some a10 ∧ (inb M8 a10 14 r9 ∧ (((mI M8 a10 r9.toNatClampNeg) = 0 → (kd M8 l0 10 ∧ w167 l0 (5 : Int32) M8 (fun r12 M11 => w229_123  r12 M11 P))) ∧ (¬ ((mI M8 a10 r9.toNatClampNeg) = 0) → (kd M8 l0 10 ∧ (∃ a13, mR M8 l0 41 = some a13 ∧ (inb M8 a13 12 r9 ∧ (kd M8 l0 10 ∧ (∃ a14, mR M8 l0 43 = some a14 ∧ (inb M8 a14 11 r9 ∧ (kd M8 l0 10 ∧ (∃ a15, mR M8 l0 42 = some a15 ∧ (inb M8 a15 12 r9 ∧ (kd M8 l0 10 ∧ (∃ a16, mR M8 l0 44 = some a16 ∧ (inb M8 a16 12 r9 ∧ (kd M8 l0 10 ∧ w228 l0 (mL M8 a13 r9.toNatClampNeg) (mI M8 a14 r9.toNatClampNeg) (mL M8 a15 r9.toNatClampNeg) (mL M8 a16 r9.toNatClampNeg) M8 (fun r18 M17 => kd M17 l0 10 ∧ w177 l0 r18 M17 (fun r20 M19 => w229_123  r20 M19 P))))))))))))))))))))))))) ∧ (¬ (r4 ≤ 0) → (kd M3 l0 10 ∧ w167 l0 r4 M3 (fun r22 M21 => P r22 M21)))))) ∧ (¬ (r2 ≠ 0) → (kd M1 l0 10 ∧ w167 l0 (1 : Int32) M1 (fun r24 M23 => P r24 M23))))
theorem t229_E {sl : Nat} {sx : Nat → Int32} {d : Nat} {M0 : MM} {P : Int32 → MM → Prop} (l0 : Nat) (l1 : Int32) (l2 : Int32) (l3 : Int32) (l4 : Int32) (l5 : Int32) (l6 : Int32) (l7 : Int32) (M : MM) (hM : lenO M0 M) (h : w229  l0 l1 l2 l3 l4 l5 l6 l7 M P) : R229 sl sx d M0 P 0 [some (vR (some l0)), some (vI l1), some (vI l2), some (vI l3), some (vI l4), some (vI l5), some (vI l6), some (vI l7), none, none] [] M := by
  refine RN_k (callX_det _) 3 _ _ _ _ (show callX TBg sl sx (d + 8) 209 [vI l6, vI l7] M (fun v M9 => R229 sl sx d M0 P 7 [some (vR (some l0)), some (vI l1), some (vI l2), some (vI l3), some (vI l4), some (vI l5), some (vI l6), some (vI l7), none, none] (pushO v []) M9) from ?_)
  refine callX_mono (callX_len (d := (d + 8)) rfl rfl rfl (c209 (d := d + 6) h)) ?_
  clear h
  rintro v9 M1 ⟨hl, r2, rfl, h⟩
  replace hM := lenT hM hl
  show R229 sl sx d M0 P 7 [some (vR (some l0)), some (vI l1), some (vI l2), some (vI l3), some (vI l4), some (vI l5), some (vI l6), some (vI l7), none, none] [vI r2] M1
  refine RN_k (callX_det _) 1 _ _ _ _ (show (r2 ≠ 0 → R229 sl sx d M0 P 16 [some (vR (some l0)), some (vI l1), some (vI l2), some (vI l3), some (vI l4), some (vI l5), some (vI l6), some (vI l7), none, none] [] M1) ∧ (¬ (r2 ≠ 0) → R229 sl sx d M0 P 10 [some (vR (some l0)), some (vI l1), some (vI l2), some (vI l3), some (vI l4), some (vI l5), some (vI l6), some (vI l7), none, none] [] M1) from ⟨fun hc => ?_, fun hc => ?_⟩)
  · replace h := h.1 hc
    refine RN_k (callX_det _) 7 _ _ _ _ (show kd M1 l0 10 ∧ callX TBg sl sx (d + 8) 210 [vR (some l0), vI l1, vI l2, vI l3, vI l4, vI l5] M1 (fun v M9 => R229 sl sx d M0 P 27 [some (vR (some l0)), some (vI l1), some (vI l2), some (vI l3), some (vI l4), some (vI l5), some (vI l6), some (vI l7), none, none] (pushO v []) M9) from ⟨h.1, ?_⟩)
    replace h := h.2
    refine callX_mono (callX_len (d := (d + 8)) rfl rfl rfl (c210 (d := d + 5) h)) ?_
    clear h
    rintro v9 M3 ⟨hl, r4, rfl, h⟩
    replace hM := lenT hM hl
    show R229 sl sx d M0 P 27 [some (vR (some l0)), some (vI l1), some (vI l2), some (vI l3), some (vI l4), some (vI l5), some (vI l6), some (vI l7), none, none] [vI r4] M3
    refine RN_k (callX_det _) 3 _ _ _ _ (show (r4 ≤ 0 → R229 sl sx d M0 P 41 [some (vR (some l0)), some (vI l1), some (vI l2), some (vI l3), some (vI l4), some (vI l5), some (vI l6), some (vI l7), some (vI r4), none] [] M3) ∧ (¬ (r4 ≤ 0) → R229 sl sx d M0 P 34 [some (vR (some l0)), some (vI l1), some (vI l2), some (vI l3), some (vI l4), some (vI l5), some (vI l6), some (vI l7), some (vI r4), none] [] M3) from ⟨fun hc => ?_, fun hc => ?_⟩)
    · replace h := h.1 hc
      refine RN_k (callX_det _) 4 _ _ _ _ (show kd M3 l0 10 ∧ callX TBg sl sx (d + 8) 211 [vR (some l0), vI l1, vI l2] M3 (fun v M9 => R229 sl sx d M0 P 47 [some (vR (some l0)), some (vI l1), some (vI l2), some (vI l3), some (vI l4), some (vI l5), some (vI l6), some (vI l7), some (vI r4), none] (pushO v []) M9) from ⟨h.1, ?_⟩)
      replace h := h.2
      refine callX_mono (callX_len (d := (d + 8)) rfl rfl rfl (c211 (d := d + 3) h)) ?_
      clear h
      rintro v9 M5 ⟨hl, rfl, h⟩
      replace hM := lenT hM hl
      show R229 sl sx d M0 P 47 [some (vR (some l0)), some (vI l1), some (vI l2), some (vI l3), some (vI l4), some (vI l5), some (vI l6), some (vI l7), some (vI r4), none] [] M5
      refine RN_k (callX_det _) 4 _ _ _ _ (show kd M5 l0 10 ∧ callX TBg sl sx (d + 8) 215 [vR (some l0), vI l6, vI l7] M5 (fun v M9 => R229 sl sx d M0 P 55 [some (vR (some l0)), some (vI l1), some (vI l2), some (vI l3), some (vI l4), some (vI l5), some (vI l6), some (vI l7), some (vI r4), none] (pushO v []) M9) from ⟨h.1, ?_⟩)
      replace h := h.2
      refine callX_mono (callX_len (d := (d + 8)) rfl rfl rfl (c215 (d := d + 7) h)) ?_
      clear h
      rintro v9 M6 ⟨hl, rfl, h⟩
      replace hM := lenT hM hl
      show R229 sl sx d M0 P 55 [some (vR (some l0)), some (vI l1), some (vI l2), some (vI l3), some (vI l4), some (vI l5), some (vI l6), some (vI l7), some (vI r4), none] [] M6
      refine RN_k (callX_det _) 2 _ _ _ _ (show kd M6 l0 10 ∧ callX TBg sl sx (d + 8) 230 [vR (some l0)] M6 (fun v M9 => R229 sl sx d M0 P 59 [some (vR (some l0)), some (vI l1), some (vI l2), some (vI l3), some (vI l4), some (vI l5), some (vI l6), some (vI l7), some (vI r4), none] (pushO v []) M9) from ⟨h.1, ?_⟩)
      replace h := h.2
      refine callX_mono (callX_len (d := (d + 8)) rfl rfl rfl (c230 (d := d) h)) ?_
      clear h
      rintro v9 M7 ⟨hl, rfl, h⟩
      replace hM := lenT hM hl
      show R229 sl sx d M0 P 59 [some (vR (some l0)), some (vI l1), some (vI l2), some (vI l3), some (vI l4), some (vI l5), some (vI l6), some (vI l7), some (vI r4), none] [] M7
      refine RN_k (callX_det _) 4 _ _ _ _ (show callX TBg sl sx (d + 8) 218 [vI l3, vI l4, vI l5] M7 (fun v M9 => R229 sl sx d M0 P 67 [some (vR (some l0)), some (vI l1), some (vI l2), some (vI l3), some (vI l4), some (vI l5), some (vI l6), some (vI l7), some (vI r4), none] (pushO v []) M9) from ?_)
      refine callX_mono (callX_len (d := (d + 8)) rfl rfl rfl (c218 (d := d + 7) h)) ?_
      clear h
      rintro v9 M8 ⟨hl, r9, rfl, h⟩
      replace hM := lenT hM hl
      show R229 sl sx d M0 P 67 [some (vR (some l0)), some (vI l1), some (vI l2), some (vI l3), some (vI l4), some (vI l5), some (vI l6), some (vI l7), some (vI r4), none] [vI r9] M8
      refine RN_k (callX_det _) 3 _ _ _ _ (show kd M8 l0 10 ∧ R229 sl sx d M0 P 73 [some (vR (some l0)), some (vI l1), some (vI l2), some (vI l3), some (vI l4), some (vI l5), some (vI l6), some (vI l7), some (vI r4), some (vI r9)] [vR (mR M8 l0 35)] M8 from ⟨h.1, ?_⟩)
      replace h := h.2
      obtain ⟨a10, he, h⟩ := h
      refine RN_k (callX_det _) 1 _ _ _ _ (show R229 sl sx d M0 P 75 [some (vR (some l0)), some (vI l1), some (vI l2), some (vI l3), some (vI l4), some (vI l5), some (vI l6), some (vI l7), some (vI r4), some (vI r9)] [vI r9, vR (mR M8 l0 35)] M8 from ?_)
      rw [he]
      refine RN_k (callX_det _) 1 _ _ _ _ (show inb M8 a10 14 r9 ∧ R229 sl sx d M0 P 76 [some (vR (some l0)), some (vI l1), some (vI l2), some (vI l3), some (vI l4), some (vI l5), some (vI l6), some (vI l7), some (vI r4), some (vI r9)] [vI (mI M8 a10 r9.toNatClampNeg)] M8 from ⟨h.1, ?_⟩)
      replace h := h.2
      refine RN_k (callX_det _) 1 _ _ _ _ (show ((mI M8 a10 r9.toNatClampNeg) = 0 → R229 sl sx d M0 P 118 [some (vR (some l0)), some (vI l1), some (vI l2), some (vI l3), some (vI l4), some (vI l5), some (vI l6), some (vI l7), some (vI r4), some (vI r9)] [] M8) ∧ (¬ ((mI M8 a10 r9.toNatClampNeg) = 0) → R229 sl sx d M0 P 79 [some (vR (some l0)), some (vI l1), some (vI l2), some (vI l3), some (vI l4), some (vI l5), some (vI l6), some (vI l7), some (vI r4), some (vI r9)] [] M8) from ⟨fun hc => ?_, fun hc => ?_⟩)
      · replace h := h.1 hc
        refine RN_k (callX_det _) 3 _ _ _ _ (show kd M8 l0 10 ∧ callX TBg sl sx (d + 8) 167 [vR (some l0), vI (5 : Int32)] M8 (fun v M9 => R229 sl sx d M0 P 123 [some (vR (some l0)), some (vI l1), some (vI l2), some (vI l3), some (vI l4), some (vI l5), some (vI l6), some (vI l7), some (vI r4), some (vI r9)] (pushO v []) M9) from ⟨h.1, ?_⟩)
        replace h := h.2
        refine callX_mono (callX_len (d := (d + 8)) rfl rfl rfl (c167 (d := d + 7) h)) ?_
        clear h
        rintro v9 M11 ⟨hl, r12, rfl, h⟩
        replace hM := lenT hM hl
        show R229 sl sx d M0 P 123 [some (vR (some l0)), some (vI l1), some (vI l2), some (vI l3), some (vI l4), some (vI l5), some (vI l6), some (vI l7), some (vI r4), some (vI r9)] [vI r12] M11
        exact RN_weak (K := [none, none, none, none, none, none, none, none, none, none]) (callX_det _) (show True from trivial) (t229_123  r12 _ hM h)
      · replace h := h.2 hc
        refine RN_k (callX_det _) 4 _ _ _ _ (show kd M8 l0 10 ∧ R229 sl sx d M0 P 85 [some (vR (some l0)), some (vI l1), some (vI l2), some (vI l3), some (vI l4), some (vI l5), some (vI l6), some (vI l7), some (vI r4), some (vI r9)] [vR (mR M8 l0 41), vR (some l0), vR (some l0)] M8 from ⟨h.1, ?_⟩)
        replace h := h.2
        obtain ⟨a13, he, h⟩ := h
        refine RN_k (callX_det _) 1 _ _ _ _ (show R229 sl sx d M0 P 87 [some (vR (some l0)), some (vI l1), some (vI l2), some (vI l3), some (vI l4), some (vI l5), some (vI l6), some (vI l7), some (vI r4), some (vI r9)] [vI r9, vR (mR M8 l0 41), vR (some l0), vR (some l0)] M8 from ?_)
        rw [he]
        refine RN_k (callX_det _) 1 _ _ _ _ (show inb M8 a13 12 r9 ∧ R229 sl sx d M0 P 88 [some (vR (some l0)), some (vI l1), some (vI l2), some (vI l3), some (vI l4), some (vI l5), some (vI l6), some (vI l7), some (vI r4), some (vI r9)] [vL (mL M8 a13 r9.toNatClampNeg), vR (some l0), vR (some l0)] M8 from ⟨h.1, ?_⟩)
        replace h := h.2
        refine RN_k (callX_det _) 2 _ _ _ _ (show kd M8 l0 10 ∧ R229 sl sx d M0 P 92 [some (vR (some l0)), some (vI l1), some (vI l2), some (vI l3), some (vI l4), some (vI l5), some (vI l6), some (vI l7), some (vI r4), some (vI r9)] [vR (mR M8 l0 43), vL (mL M8 a13 r9.toNatClampNeg), vR (some l0), vR (some l0)] M8 from ⟨h.1, ?_⟩)
        replace h := h.2
        obtain ⟨a14, he, h⟩ := h
        refine RN_k (callX_det _) 1 _ _ _ _ (show R229 sl sx d M0 P 94 [some (vR (some l0)), some (vI l1), some (vI l2), some (vI l3), some (vI l4), some (vI l5), some (vI l6), some (vI l7), some (vI r4), some (vI r9)] [vI r9, vR (mR M8 l0 43), vL (mL M8 a13 r9.toNatClampNeg), vR (some l0), vR (some l0)] M8 from ?_)
        rw [he]
        refine RN_k (callX_det _) 1 _ _ _ _ (show inb M8 a14 11 r9 ∧ R229 sl sx d M0 P 95 [some (vR (some l0)), some (vI l1), some (vI l2), some (vI l3), some (vI l4), some (vI l5), some (vI l6), some (vI l7), some (vI r4), some (vI r9)] [vI (mI M8 a14 r9.toNatClampNeg), vL (mL M8 a13 r9.toNatClampNeg), vR (some l0), vR (some l0)] M8 from ⟨h.1, ?_⟩)
        replace h := h.2
        refine RN_k (callX_det _) 2 _ _ _ _ (show kd M8 l0 10 ∧ R229 sl sx d M0 P 99 [some (vR (some l0)), some (vI l1), some (vI l2), some (vI l3), some (vI l4), some (vI l5), some (vI l6), some (vI l7), some (vI r4), some (vI r9)] [vR (mR M8 l0 42), vI (mI M8 a14 r9.toNatClampNeg), vL (mL M8 a13 r9.toNatClampNeg), vR (some l0), vR (some l0)] M8 from ⟨h.1, ?_⟩)
        replace h := h.2
        obtain ⟨a15, he, h⟩ := h
        refine RN_k (callX_det _) 1 _ _ _ _ (show R229 sl sx d M0 P 101 [some (vR (some l0)), some (vI l1), some (vI l2), some (vI l3), some (vI l4), some (vI l5), some (vI l6), some (vI l7), some (vI r4), some (vI r9)] [vI r9, vR (mR M8 l0 42), vI (mI M8 a14 r9.toNatClampNeg), vL (mL M8 a13 r9.toNatClampNeg), vR (some l0), vR (some l0)] M8 from ?_)
        rw [he]
        refine RN_k (callX_det _) 1 _ _ _ _ (show inb M8 a15 12 r9 ∧ R229 sl sx d M0 P 102 [some (vR (some l0)), some (vI l1), some (vI l2), some (vI l3), some (vI l4), some (vI l5), some (vI l6), some (vI l7), some (vI r4), some (vI r9)] [vL (mL M8 a15 r9.toNatClampNeg), vI (mI M8 a14 r9.toNatClampNeg), vL (mL M8 a13 r9.toNatClampNeg), vR (some l0), vR (some l0)] M8 from ⟨h.1, ?_⟩)
        replace h := h.2
        refine RN_k (callX_det _) 2 _ _ _ _ (show kd M8 l0 10 ∧ R229 sl sx d M0 P 106 [some (vR (some l0)), some (vI l1), some (vI l2), some (vI l3), some (vI l4), some (vI l5), some (vI l6), some (vI l7), some (vI r4), some (vI r9)] [vR (mR M8 l0 44), vL (mL M8 a15 r9.toNatClampNeg), vI (mI M8 a14 r9.toNatClampNeg), vL (mL M8 a13 r9.toNatClampNeg), vR (some l0), vR (some l0)] M8 from ⟨h.1, ?_⟩)
        replace h := h.2
        obtain ⟨a16, he, h⟩ := h
        refine RN_k (callX_det _) 1 _ _ _ _ (show R229 sl sx d M0 P 108 [some (vR (some l0)), some (vI l1), some (vI l2), some (vI l3), some (vI l4), some (vI l5), some (vI l6), some (vI l7), some (vI r4), some (vI r9)] [vI r9, vR (mR M8 l0 44), vL (mL M8 a15 r9.toNatClampNeg), vI (mI M8 a14 r9.toNatClampNeg), vL (mL M8 a13 r9.toNatClampNeg), vR (some l0), vR (some l0)] M8 from ?_)
        rw [he]
        refine RN_k (callX_det _) 1 _ _ _ _ (show inb M8 a16 12 r9 ∧ R229 sl sx d M0 P 109 [some (vR (some l0)), some (vI l1), some (vI l2), some (vI l3), some (vI l4), some (vI l5), some (vI l6), some (vI l7), some (vI r4), some (vI r9)] [vL (mL M8 a16 r9.toNatClampNeg), vL (mL M8 a15 r9.toNatClampNeg), vI (mI M8 a14 r9.toNatClampNeg), vL (mL M8 a13 r9.toNatClampNeg), vR (some l0), vR (some l0)] M8 from ⟨h.1, ?_⟩)
        replace h := h.2
        refine RN_k (callX_det _) 1 _ _ _ _ (show kd M8 l0 10 ∧ callX TBg sl sx (d + 8) 228 [vR (some l0), vL (mL M8 a13 r9.toNatClampNeg), vI (mI M8 a14 r9.toNatClampNeg), vL (mL M8 a15 r9.toNatClampNeg), vL (mL M8 a16 r9.toNatClampNeg)] M8 (fun v M9 => R229 sl sx d M0 P 112 [some (vR (some l0)), some (vI l1), some (vI l2), some (vI l3), some (vI l4), some (vI l5), some (vI l6), some (vI l7), some (vI r4), some (vI r9)] (pushO v [vR (some l0)]) M9) from ⟨h.1, ?_⟩)
        replace h := h.2
        refine callX_mono (callX_len (d := (d + 8)) rfl rfl rfl (c228 (d := d + 2) h)) ?_
        clear h
        rintro v9 M17 ⟨hl, r18, rfl, h⟩
        replace hM := lenT hM hl
        show R229 sl sx d M0 P 112 [some (vR (some l0)), some (vI l1), some (vI l2), some (vI l3), some (vI l4), some (vI l5), some (vI l6), some (vI l7), some (vI r4), some (vI r9)] [vI r18, vR (some l0)] M17
        refine RN_k (callX_det _) 1 _ _ _ _ (show kd M17 l0 10 ∧ callX TBg sl sx (d + 8) 177 [vR (some l0), vI r18] M17 (fun v M9 => R229 sl sx d M0 P 115 [some (vR (some l0)), some (vI l1), some (vI l2), some (vI l3), some (vI l4), some (vI l5), some (vI l6), some (vI l7), some (vI r4), some (vI r9)] (pushO v []) M9) from ⟨h.1, ?_⟩)
        replace h := h.2
        refine callX_mono (callX_len (d := (d + 8)) rfl rfl rfl (c177 (d := d + 7) h)) ?_
        clear h
        rintro v9 M19 ⟨hl, r20, rfl, h⟩
        replace hM := lenT hM hl
        show R229 sl sx d M0 P 115 [some (vR (some l0)), some (vI l1), some (vI l2), some (vI l3), some (vI l4), some (vI l5), some (vI l6), some (vI l7), some (vI r4), some (vI r9)] [vI r20] M19
        refine RN_k (callX_det _) 1 _ _ _ _ (show R229 sl sx d M0 P 123 [some (vR (some l0)), some (vI l1), some (vI l2), some (vI l3), some (vI l4), some (vI l5), some (vI l6), some (vI l7), some (vI r4), some (vI r9)] [vI r20] M19 from ?_)
        exact RN_weak (K := [none, none, none, none, none, none, none, none, none, none]) (callX_det _) (show True from trivial) (t229_123  r20 _ hM h)
    · replace h := h.2 hc
      refine RN_k (callX_det _) 3 _ _ _ _ (show kd M3 l0 10 ∧ callX TBg sl sx (d + 8) 167 [vR (some l0), vI r4] M3 (fun v M9 => R229 sl sx d M0 P 40 [some (vR (some l0)), some (vI l1), some (vI l2), some (vI l3), some (vI l4), some (vI l5), some (vI l6), some (vI l7), some (vI r4), none] (pushO v []) M9) from ⟨h.1, ?_⟩)
      replace h := h.2
      refine callX_mono (callX_len (d := (d + 8)) rfl rfl rfl (c167 (d := d + 7) h)) ?_
      clear h
      rintro v9 M21 ⟨hl, r22, rfl, h⟩
      replace hM := lenT hM hl
      show R229 sl sx d M0 P 40 [some (vR (some l0)), some (vI l1), some (vI l2), some (vI l3), some (vI l4), some (vI l5), some (vI l6), some (vI l7), some (vI r4), none] [vI r22] M21
      exact RN_k (callX_det _) 1 _ _ _ _ (show rtW q229 M0 (PI P) (some (vI r22)) M21 from ⟨⟨_, rfl⟩, hM.1, hM.2, _, rfl, h⟩)
  · replace h := h.2 hc
    refine RN_k (callX_det _) 3 _ _ _ _ (show kd M1 l0 10 ∧ callX TBg sl sx (d + 8) 167 [vR (some l0), vI (1 : Int32)] M1 (fun v M9 => R229 sl sx d M0 P 15 [some (vR (some l0)), some (vI l1), some (vI l2), some (vI l3), some (vI l4), some (vI l5), some (vI l6), some (vI l7), none, none] (pushO v []) M9) from ⟨h.1, ?_⟩)
    replace h := h.2
    refine callX_mono (callX_len (d := (d + 8)) rfl rfl rfl (c167 (d := d + 7) h)) ?_
    clear h
    rintro v9 M23 ⟨hl, r24, rfl, h⟩
    replace hM := lenT hM hl
    show R229 sl sx d M0 P 15 [some (vR (some l0)), some (vI l1), some (vI l2), some (vI l3), some (vI l4), some (vI l5), some (vI l6), some (vI l7), none, none] [vI r24] M23
    exact RN_k (callX_det _) 1 _ _ _ _ (show rtW q229 M0 (PI P) (some (vI r24)) M23 from ⟨⟨_, rfl⟩, hM.1, hM.2, _, rfl, h⟩)
theorem c229 {sl : Nat} {sx : Nat → Int32} {d : Nat} {l0 : Nat} {l1 : Int32} {l2 : Int32} {l3 : Int32} {l4 : Int32} {l5 : Int32} {l6 : Int32} {l7 : Int32} {M : MM} {P : Int32 → MM → Prop} (h : w229 l0 l1 l2 l3 l4 l5 l6 l7 M P) : callX TBg sl sx (d + 9) 229 [vR (some l0), vI l1, vI l2, vI l3, vI l4, vI l5, vI l6, vI l7] M (PI P) :=
  cX (d := d + 8) q229 (false, tb229) rfl rfl rfl (t229_E l0 l1 l2 l3 l4 l5 l6 l7 M lenR h)
-- TwoLeashModel.whyLeash(IIII)I
abbrev q237 : MQ7 := (5, 1, 5, 10, 0, 0, 1)
abbrev R237 (sl : Nat) (sx : Nat → Int32) (d : Nat) (M0 : MM) (P : Int32 → MM → Prop) : Nat → LL → List VV → MM → Prop := RN 10 false (mS M0).length (mT M0) 0 0 sl sx (callX TBg sl sx (d + 3)) (rtW q237 M0 (PI P)) (as2 tb237)
def w237_19 (s0 : Int32) (M : MM) (P : Int32 → MM → Prop) : Prop := P s0 M
theorem t237_19 {sl : Nat} {sx : Nat → Int32} {d : Nat} {M0 : MM} {P : Int32 → MM → Prop} (s0 : Int32) (M : MM) (hM : lenO M0 M) (h : w237_19  s0 M P) : R237 sl sx d M0 P 19 [none, none, none, none, none] [vI s0] M := by
  exact RN_k (callX_det _) 1 _ _ _ _ (show rtW q237 M0 (PI P) (some (vI s0)) M from ⟨⟨_, rfl⟩, hM.1, hM.2, _, rfl, h⟩)
def w237 (l0 : Nat) (l1 : Int32) (l2 : Int32) (l3 : Int32) (l4 : Int32) (M : MM) (P : Int32 → MM → Prop) : Prop := w209 l3 l4 M (fun r2 M1 => (r2 ≠ 0 → (kd M1 l0 10 ∧ w202 l0 l1 l2 M1 (fun r4 M3 => w237_19  r4 M3 P))) ∧ (¬ (r2 ≠ 0) → (w237_19  (1 : Int32) M1 P)))
theorem t237_E {sl : Nat} {sx : Nat → Int32} {d : Nat} {M0 : MM} {P : Int32 → MM → Prop} (l0 : Nat) (l1 : Int32) (l2 : Int32) (l3 : Int32) (l4 : Int32) (M : MM) (hM : lenO M0 M) (h : w237  l0 l1 l2 l3 l4 M P) : R237 sl sx d M0 P 0 [some (vR (some l0)), some (vI l1), some (vI l2), some (vI l3), some (vI l4)] [] M := by
  refine RN_k (callX_det _) 3 _ _ _ _ (show callX TBg sl sx (d + 3) 209 [vI l3, vI l4] M (fun v M9 => R237 sl sx d M0 P 6 [some (vR (some l0)), some (vI l1), some (vI l2), some (vI l3), some (vI l4)] (pushO v []) M9) from ?_)
  refine callX_mono (callX_len (d := (d + 3)) rfl rfl rfl (c209 (d := d + 1) h)) ?_
  clear h
  rintro v9 M1 ⟨hl, r2, rfl, h⟩
  replace hM := lenT hM hl
  show R237 sl sx d M0 P 6 [some (vR (some l0)), some (vI l1), some (vI l2), some (vI l3), some (vI l4)] [vI r2] M1
  refine RN_k (callX_det _) 1 _ _ _ _ (show (r2 ≠ 0 → R237 sl sx d M0 P 13 [some (vR (some l0)), some (vI l1), some (vI l2), some (vI l3), some (vI l4)] [] M1) ∧ (¬ (r2 ≠ 0) → R237 sl sx d M0 P 9 [some (vR (some l0)), some (vI l1), some (vI l2), some (vI l3), some (vI l4)] [] M1) from ⟨fun hc => ?_, fun hc => ?_⟩)
  · replace h := h.1 hc
    refine RN_k (callX_det _) 4 _ _ _ _ (show kd M1 l0 10 ∧ callX TBg sl sx (d + 3) 202 [vR (some l0), vI l1, vI l2] M1 (fun v M9 => R237 sl sx d M0 P 19 [some (vR (some l0)), some (vI l1), some (vI l2), some (vI l3), some (vI l4)] (pushO v []) M9) from ⟨h.1, ?_⟩)
    replace h := h.2
    refine callX_mono (callX_len (d := (d + 3)) rfl rfl rfl (c202 (d := d) h)) ?_
    clear h
    rintro v9 M3 ⟨hl, r4, rfl, h⟩
    replace hM := lenT hM hl
    show R237 sl sx d M0 P 19 [some (vR (some l0)), some (vI l1), some (vI l2), some (vI l3), some (vI l4)] [vI r4] M3
    exact RN_weak (K := [none, none, none, none, none]) (callX_det _) (show True from trivial) (t237_19  r4 _ hM h)
  · replace h := h.2 hc
    refine RN_k (callX_det _) 2 _ _ _ _ (show R237 sl sx d M0 P 19 [some (vR (some l0)), some (vI l1), some (vI l2), some (vI l3), some (vI l4)] [vI (1 : Int32)] M1 from ?_)
    exact RN_weak (K := [none, none, none, none, none]) (callX_det _) (show True from trivial) (t237_19  (1 : Int32) _ hM h)
theorem c237 {sl : Nat} {sx : Nat → Int32} {d : Nat} {l0 : Nat} {l1 : Int32} {l2 : Int32} {l3 : Int32} {l4 : Int32} {M : MM} {P : Int32 → MM → Prop} (h : w237 l0 l1 l2 l3 l4 M P) : callX TBg sl sx (d + 4) 237 [vR (some l0), vI l1, vI l2, vI l3, vI l4] M (PI P) :=
  cX (d := d + 3) q237 (false, tb237) rfl rfl rfl (t237_E l0 l1 l2 l3 l4 M lenR h)
-- TwoLeashModel.sides(IIIII)I
abbrev q236 : MQ7 := (6, 1, 9, 10, 0, 0, 1)
abbrev R236 (sl : Nat) (sx : Nat → Int32) (d : Nat) (M0 : MM) (P : Int32 → MM → Prop) : Nat → LL → List VV → MM → Prop := RN 10 false (mS M0).length (mT M0) 0 0 sl sx (callX TBg sl sx (d + 8)) (rtW q236 M0 (PI P)) (as2 tb236)
def w236_131 (k59 : Nat → Int32 → Int32 → Int32 → MM → Prop) (l0 : Nat) (l5 : Int32) (l8 : Int32) (s0 : Int32) (s1 : Int32) (M : MM) (P : Int32 → MM → Prop) : Prop := k59 l0 l5 (s0 + s1) (l8 + (1 : Int32)) M
theorem t236_131 {sl : Nat} {sx : Nat → Int32} {d : Nat} {M0 : MM} {P : Int32 → MM → Prop} {k59 : Nat → Int32 → Int32 → Int32 → MM → Prop} (hk59 : ∀ (l0 : Nat) (l5 : Int32) (l7 : Int32) (l8 : Int32) (M : MM), lenO M0 M → k59 l0 l5 l7 l8 M → R236 sl sx d M0 P 59 [some (vR (some l0)), none, none, none, none, some (vI l5), none, some (vI l7), some (vI l8)] [] M) (l0 : Nat) (l5 : Int32) (l8 : Int32) (s0 : Int32) (s1 : Int32) (M : MM) (hM : lenO M0 M) (h : w236_131 k59 l0 l5 l8 s0 s1 M P) : R236 sl sx d M0 P 131 [some (vR (some l0)), none, none, none, none, some (vI l5), none, none, some (vI l8)] [vI s1, vI s0] M := by
  refine RN_k (callX_det _) 4 _ _ _ _ (show R236 sl sx d M0 P 59 [some (vR (some l0)), none, none, none, none, some (vI l5), none, some (vI (s0 + s1)), some (vI (l8 + (1 : Int32)))] [] M from ?_)
  exact RN_weak (K := [some (vR (some l0)), none, none, none, none, some (vI l5), none, some (vI (s0 + s1)), some (vI (l8 + (1 : Int32)))]) (callX_det _) (show _ ∧ _ ∧ _ ∧ _ ∧ True from ⟨rfl, rfl, rfl, rfl, trivial⟩) (hk59 l0 l5 (s0 + s1) (l8 + (1 : Int32)) _ hM h)
def w236_126 (k59 : Nat → Int32 → Int32 → Int32 → MM → Prop) (l0 : Nat) (l5 : Int32) (l8 : Int32) (s0 : Int32) (M : MM) (P : Int32 → MM → Prop) : Prop := w236_131 k59 l0 l5 l8 s0 (1 : Int32) M P
theorem t236_126 {sl : Nat} {sx : Nat → Int32} {d : Nat} {M0 : MM} {P : Int32 → MM → Prop} {k59 : Nat → Int32 → Int32 → Int32 → MM → Prop} (hk59 : ∀ (l0 : Nat) (l5 : Int32) (l7 : Int32) (l8 : Int32) (M : MM), lenO M0 M → k59 l0 l5 l7 l8 M → R236 sl sx d M0 P 59 [some (vR (some l0)), none, none, none, none, some (vI l5), none, some (vI l7), some (vI l8)] [] M) (l0 : Nat) (l5 : Int32) (l8 : Int32) (s0 : Int32) (M : MM) (hM : lenO M0 M) (h : w236_126 k59 l0 l5 l8 s0 M P) : R236 sl sx d M0 P 126 [some (vR (some l0)), none, none, none, none, some (vI l5), none, none, some (vI l8)] [vI s0] M := by
  refine RN_k (callX_det _) 2 _ _ _ _ (show R236 sl sx d M0 P 131 [some (vR (some l0)), none, none, none, none, some (vI l5), none, none, some (vI l8)] [vI (1 : Int32), vI s0] M from ?_)
  exact RN_weak (K := [some (vR (some l0)), none, none, none, none, some (vI l5), none, none, some (vI l8)]) (callX_det _) (show _ ∧ _ ∧ _ ∧ True from ⟨rfl, rfl, rfl, trivial⟩) (t236_131 hk59 l0 l5 l8 s0 (1 : Int32) _ hM h)
def w236_130 (k59 : Nat → Int32 → Int32 → Int32 → MM → Prop) (l0 : Nat) (l5 : Int32) (l8 : Int32) (s0 : Int32) (M : MM) (P : Int32 → MM → Prop) : Prop := w236_131 k59 l0 l5 l8 s0 (0 : Int32) M P
theorem t236_130 {sl : Nat} {sx : Nat → Int32} {d : Nat} {M0 : MM} {P : Int32 → MM → Prop} {k59 : Nat → Int32 → Int32 → Int32 → MM → Prop} (hk59 : ∀ (l0 : Nat) (l5 : Int32) (l7 : Int32) (l8 : Int32) (M : MM), lenO M0 M → k59 l0 l5 l7 l8 M → R236 sl sx d M0 P 59 [some (vR (some l0)), none, none, none, none, some (vI l5), none, some (vI l7), some (vI l8)] [] M) (l0 : Nat) (l5 : Int32) (l8 : Int32) (s0 : Int32) (M : MM) (hM : lenO M0 M) (h : w236_130 k59 l0 l5 l8 s0 M P) : R236 sl sx d M0 P 130 [some (vR (some l0)), none, none, none, none, some (vI l5), none, none, some (vI l8)] [vI s0] M := by
  refine RN_k (callX_det _) 1 _ _ _ _ (show R236 sl sx d M0 P 131 [some (vR (some l0)), none, none, none, none, some (vI l5), none, none, some (vI l8)] [vI (0 : Int32), vI s0] M from ?_)
  exact RN_weak (K := [some (vR (some l0)), none, none, none, none, some (vI l5), none, none, some (vI l8)]) (callX_det _) (show _ ∧ _ ∧ _ ∧ True from ⟨rfl, rfl, rfl, trivial⟩) (t236_131 hk59 l0 l5 l8 s0 (0 : Int32) _ hM h)
def w236_59 : Nat → Nat → Int32 → Int32 → Int32 → MM → (Int32 → MM → Prop) → Prop
  | 0 => fun _ _ _ _ _ _ => False
  | n + 1 => fun l0 l5 l7 l8 M P => ((128 : Int32) ≤ l8 → (kd M l0 10 ∧ w177 l0 l7 M (fun r2 M1 => P r2 M1))) ∧ (¬ ((128 : Int32) ≤ l8) → ((l5 ≠ 0 → ((l5 ≠ (1 : Int32) → (kd M l0 10 ∧ (∃ a3, mR M l0 34 = some a3 ∧ (inb M a3 14 l8 ∧ (((mI M a3 l8.toNatClampNeg) = 0 → (w236_130 (fun z0 z1 z2 z3 z4 => w236_59  n z0 z1 z2 z3 z4 P) l0 l5 l8 l7 M P)) ∧ (¬ ((mI M a3 l8.toNatClampNeg) = 0) → (kd M l0 10 ∧ (∃ a4, mR M l0 36 = some a4 ∧ (inb M a4 14 l8 ∧ (((mI M a4 l8.toNatClampNeg) = 0 → (w236_130 (fun z0 z1 z2 z3 z4 => w236_59  n z0 z1 z2 z3 z4 P) l0 l5 l8 l7 M P)) ∧ (¬ ((mI M a4 l8.toNatClampNeg) = 0) → (w236_126 (fun z0 z1 z2 z3 z4 => w236_59  n z0 z1 z2 z3 z4 P) l0 l5 l8 l7 M P)))))))))))) ∧ (¬ (l5 ≠ (1 : Int32)) → (kd M l0 10 ∧ (∃ a5, mR M l0 35 = some a5 ∧ (inb M a5 14 l8 ∧ (((mI M a5 l8.toNatClampNeg) = 0 → (w236_130 (fun z0 z1 z2 z3 z4 => w236_59  n z0 z1 z2 z3 z4 P) l0 l5 l8 l7 M P)) ∧ (¬ ((mI M a5 l8.toNatClampNeg) = 0) → (w236_126 (fun z0 z1 z2 z3 z4 => w236_59  n z0 z1 z2 z3 z4 P) l0 l5 l8 l7 M P))))))))) ∧ (¬ (l5 ≠ 0) → (kd M l0 10 ∧ (∃ a6, mR M l0 34 = some a6 ∧ (inb M a6 14 l8 ∧ (((mI M a6 l8.toNatClampNeg) = 0 → (w236_130 (fun z0 z1 z2 z3 z4 => w236_59  n z0 z1 z2 z3 z4 P) l0 l5 l8 l7 M P)) ∧ (¬ ((mI M a6 l8.toNatClampNeg) = 0) → (w236_126 (fun z0 z1 z2 z3 z4 => w236_59  n z0 z1 z2 z3 z4 P) l0 l5 l8 l7 M P)))))))))
theorem t236_59 {sl : Nat} {sx : Nat → Int32} {d : Nat} {M0 : MM} {P : Int32 → MM → Prop} (n : Nat) : ∀ (l0 : Nat) (l5 : Int32) (l7 : Int32) (l8 : Int32) (M : MM) (_ : lenO M0 M) (_ : w236_59  n l0 l5 l7 l8 M P), R236 sl sx d M0 P 59 [some (vR (some l0)), none, none, none, none, some (vI l5), none, some (vI l7), some (vI l8)] [] M := by
  induction n with
  | zero => intro l0 l5 l7 l8 M hM h; cases h
  | succ n ih =>
    intro l0 l5 l7 l8 M hM h
    refine RN_k (callX_det _) 3 _ _ _ _ (show ((128 : Int32) ≤ l8 → R236 sl sx d M0 P 140 [some (vR (some l0)), none, none, none, none, some (vI l5), none, some (vI l7), some (vI l8)] [] M) ∧ (¬ ((128 : Int32) ≤ l8) → R236 sl sx d M0 P 67 [some (vR (some l0)), none, none, none, none, some (vI l5), none, some (vI l7), some (vI l8)] [] M) from ⟨fun hc => ?_, fun hc => ?_⟩)
    · replace h := h.1 hc
      refine RN_k (callX_det _) 3 _ _ _ _ (show kd M l0 10 ∧ callX TBg sl sx (d + 8) 177 [vR (some l0), vI l7] M (fun v M9 => R236 sl sx d M0 P 146 [some (vR (some l0)), none, none, none, none, some (vI l5), none, some (vI l7), some (vI l8)] (pushO v []) M9) from ⟨h.1, ?_⟩)
      replace h := h.2
      refine callX_mono (callX_len (d := (d + 8)) rfl rfl rfl (c177 (d := d + 7) h)) ?_
      clear h
      rintro v9 M1 ⟨hl, r2, rfl, h⟩
      replace hM := lenT hM hl
      show R236 sl sx d M0 P 146 [some (vR (some l0)), none, none, none, none, some (vI l5), none, some (vI l7), some (vI l8)] [vI r2] M1
      exact RN_k (callX_det _) 1 _ _ _ _ (show rtW q236 M0 (PI P) (some (vI r2)) M1 from ⟨⟨_, rfl⟩, hM.1, hM.2, _, rfl, h⟩)
    · replace h := h.2 hc
      refine RN_k (callX_det _) 3 _ _ _ _ (show (l5 ≠ 0 → R236 sl sx d M0 P 87 [some (vR (some l0)), none, none, none, none, some (vI l5), none, some (vI l7), some (vI l8)] [vI l7] M) ∧ (¬ (l5 ≠ 0) → R236 sl sx d M0 P 74 [some (vR (some l0)), none, none, none, none, some (vI l5), none, some (vI l7), some (vI l8)] [vI l7] M) from ⟨fun hc => ?_, fun hc => ?_⟩)
      · replace h := h.1 hc
        refine RN_k (callX_det _) 3 _ _ _ _ (show (l5 ≠ (1 : Int32) → R236 sl sx d M0 P 106 [some (vR (some l0)), none, none, none, none, some (vI l5), none, some (vI l7), some (vI l8)] [vI l7] M) ∧ (¬ (l5 ≠ (1 : Int32)) → R236 sl sx d M0 P 93 [some (vR (some l0)), none, none, none, none, some (vI l5), none, some (vI l7), some (vI l8)] [vI l7] M) from ⟨fun hc => ?_, fun hc => ?_⟩)
        · replace h := h.1 hc
          refine RN_k (callX_det _) 2 _ _ _ _ (show kd M l0 10 ∧ R236 sl sx d M0 P 110 [some (vR (some l0)), none, none, none, none, some (vI l5), none, some (vI l7), some (vI l8)] [vR (mR M l0 34), vI l7] M from ⟨h.1, ?_⟩)
          replace h := h.2
          obtain ⟨a3, he, h⟩ := h
          refine RN_k (callX_det _) 1 _ _ _ _ (show R236 sl sx d M0 P 112 [some (vR (some l0)), none, none, none, none, some (vI l5), none, some (vI l7), some (vI l8)] [vI l8, vR (mR M l0 34), vI l7] M from ?_)
          rw [he]
          refine RN_k (callX_det _) 1 _ _ _ _ (show inb M a3 14 l8 ∧ R236 sl sx d M0 P 113 [some (vR (some l0)), none, none, none, none, some (vI l5), none, some (vI l7), some (vI l8)] [vI (mI M a3 l8.toNatClampNeg), vI l7] M from ⟨h.1, ?_⟩)
          replace h := h.2
          refine RN_k (callX_det _) 1 _ _ _ _ (show ((mI M a3 l8.toNatClampNeg) = 0 → R236 sl sx d M0 P 130 [some (vR (some l0)), none, none, none, none, some (vI l5), none, some (vI l7), some (vI l8)] [vI l7] M) ∧ (¬ ((mI M a3 l8.toNatClampNeg) = 0) → R236 sl sx d M0 P 116 [some (vR (some l0)), none, none, none, none, some (vI l5), none, some (vI l7), some (vI l8)] [vI l7] M) from ⟨fun hc => ?_, fun hc => ?_⟩)
          · replace h := h.1 hc
            exact RN_weak (K := [some (vR (some l0)), none, none, none, none, some (vI l5), none, none, some (vI l8)]) (callX_det _) (show _ ∧ _ ∧ _ ∧ True from ⟨rfl, rfl, rfl, trivial⟩) (t236_130 ih l0 l5 l8 l7 _ hM h)
          · replace h := h.2 hc
            refine RN_k (callX_det _) 2 _ _ _ _ (show kd M l0 10 ∧ R236 sl sx d M0 P 120 [some (vR (some l0)), none, none, none, none, some (vI l5), none, some (vI l7), some (vI l8)] [vR (mR M l0 36), vI l7] M from ⟨h.1, ?_⟩)
            replace h := h.2
            obtain ⟨a4, he, h⟩ := h
            refine RN_k (callX_det _) 1 _ _ _ _ (show R236 sl sx d M0 P 122 [some (vR (some l0)), none, none, none, none, some (vI l5), none, some (vI l7), some (vI l8)] [vI l8, vR (mR M l0 36), vI l7] M from ?_)
            rw [he]
            refine RN_k (callX_det _) 1 _ _ _ _ (show inb M a4 14 l8 ∧ R236 sl sx d M0 P 123 [some (vR (some l0)), none, none, none, none, some (vI l5), none, some (vI l7), some (vI l8)] [vI (mI M a4 l8.toNatClampNeg), vI l7] M from ⟨h.1, ?_⟩)
            replace h := h.2
            refine RN_k (callX_det _) 1 _ _ _ _ (show ((mI M a4 l8.toNatClampNeg) = 0 → R236 sl sx d M0 P 130 [some (vR (some l0)), none, none, none, none, some (vI l5), none, some (vI l7), some (vI l8)] [vI l7] M) ∧ (¬ ((mI M a4 l8.toNatClampNeg) = 0) → R236 sl sx d M0 P 126 [some (vR (some l0)), none, none, none, none, some (vI l5), none, some (vI l7), some (vI l8)] [vI l7] M) from ⟨fun hc => ?_, fun hc => ?_⟩)
            · replace h := h.1 hc
              exact RN_weak (K := [some (vR (some l0)), none, none, none, none, some (vI l5), none, none, some (vI l8)]) (callX_det _) (show _ ∧ _ ∧ _ ∧ True from ⟨rfl, rfl, rfl, trivial⟩) (t236_130 ih l0 l5 l8 l7 _ hM h)
            · replace h := h.2 hc
              exact RN_weak (K := [some (vR (some l0)), none, none, none, none, some (vI l5), none, none, some (vI l8)]) (callX_det _) (show _ ∧ _ ∧ _ ∧ True from ⟨rfl, rfl, rfl, trivial⟩) (t236_126 ih l0 l5 l8 l7 _ hM h)
        · replace h := h.2 hc
          refine RN_k (callX_det _) 2 _ _ _ _ (show kd M l0 10 ∧ R236 sl sx d M0 P 97 [some (vR (some l0)), none, none, none, none, some (vI l5), none, some (vI l7), some (vI l8)] [vR (mR M l0 35), vI l7] M from ⟨h.1, ?_⟩)
          replace h := h.2
          obtain ⟨a5, he, h⟩ := h
          refine RN_k (callX_det _) 1 _ _ _ _ (show R236 sl sx d M0 P 99 [some (vR (some l0)), none, none, none, none, some (vI l5), none, some (vI l7), some (vI l8)] [vI l8, vR (mR M l0 35), vI l7] M from ?_)
          rw [he]
          refine RN_k (callX_det _) 1 _ _ _ _ (show inb M a5 14 l8 ∧ R236 sl sx d M0 P 100 [some (vR (some l0)), none, none, none, none, some (vI l5), none, some (vI l7), some (vI l8)] [vI (mI M a5 l8.toNatClampNeg), vI l7] M from ⟨h.1, ?_⟩)
          replace h := h.2
          refine RN_k (callX_det _) 1 _ _ _ _ (show ((mI M a5 l8.toNatClampNeg) = 0 → R236 sl sx d M0 P 130 [some (vR (some l0)), none, none, none, none, some (vI l5), none, some (vI l7), some (vI l8)] [vI l7] M) ∧ (¬ ((mI M a5 l8.toNatClampNeg) = 0) → R236 sl sx d M0 P 103 [some (vR (some l0)), none, none, none, none, some (vI l5), none, some (vI l7), some (vI l8)] [vI l7] M) from ⟨fun hc => ?_, fun hc => ?_⟩)
          · replace h := h.1 hc
            exact RN_weak (K := [some (vR (some l0)), none, none, none, none, some (vI l5), none, none, some (vI l8)]) (callX_det _) (show _ ∧ _ ∧ _ ∧ True from ⟨rfl, rfl, rfl, trivial⟩) (t236_130 ih l0 l5 l8 l7 _ hM h)
          · replace h := h.2 hc
            refine RN_k (callX_det _) 1 _ _ _ _ (show R236 sl sx d M0 P 126 [some (vR (some l0)), none, none, none, none, some (vI l5), none, some (vI l7), some (vI l8)] [vI l7] M from ?_)
            exact RN_weak (K := [some (vR (some l0)), none, none, none, none, some (vI l5), none, none, some (vI l8)]) (callX_det _) (show _ ∧ _ ∧ _ ∧ True from ⟨rfl, rfl, rfl, trivial⟩) (t236_126 ih l0 l5 l8 l7 _ hM h)
      · replace h := h.2 hc
        refine RN_k (callX_det _) 2 _ _ _ _ (show kd M l0 10 ∧ R236 sl sx d M0 P 78 [some (vR (some l0)), none, none, none, none, some (vI l5), none, some (vI l7), some (vI l8)] [vR (mR M l0 34), vI l7] M from ⟨h.1, ?_⟩)
        replace h := h.2
        obtain ⟨a6, he, h⟩ := h
        refine RN_k (callX_det _) 1 _ _ _ _ (show R236 sl sx d M0 P 80 [some (vR (some l0)), none, none, none, none, some (vI l5), none, some (vI l7), some (vI l8)] [vI l8, vR (mR M l0 34), vI l7] M from ?_)
        rw [he]
        refine RN_k (callX_det _) 1 _ _ _ _ (show inb M a6 14 l8 ∧ R236 sl sx d M0 P 81 [some (vR (some l0)), none, none, none, none, some (vI l5), none, some (vI l7), some (vI l8)] [vI (mI M a6 l8.toNatClampNeg), vI l7] M from ⟨h.1, ?_⟩)
        replace h := h.2
        refine RN_k (callX_det _) 1 _ _ _ _ (show ((mI M a6 l8.toNatClampNeg) = 0 → R236 sl sx d M0 P 130 [some (vR (some l0)), none, none, none, none, some (vI l5), none, some (vI l7), some (vI l8)] [vI l7] M) ∧ (¬ ((mI M a6 l8.toNatClampNeg) = 0) → R236 sl sx d M0 P 84 [some (vR (some l0)), none, none, none, none, some (vI l5), none, some (vI l7), some (vI l8)] [vI l7] M) from ⟨fun hc => ?_, fun hc => ?_⟩)
        · replace h := h.1 hc
          exact RN_weak (K := [some (vR (some l0)), none, none, none, none, some (vI l5), none, none, some (vI l8)]) (callX_det _) (show _ ∧ _ ∧ _ ∧ True from ⟨rfl, rfl, rfl, trivial⟩) (t236_130 ih l0 l5 l8 l7 _ hM h)
        · replace h := h.2 hc
          refine RN_k (callX_det _) 1 _ _ _ _ (show R236 sl sx d M0 P 126 [some (vR (some l0)), none, none, none, none, some (vI l5), none, some (vI l7), some (vI l8)] [vI l7] M from ?_)
          exact RN_weak (K := [some (vR (some l0)), none, none, none, none, some (vI l5), none, none, some (vI l8)]) (callX_det _) (show _ ∧ _ ∧ _ ∧ True from ⟨rfl, rfl, rfl, trivial⟩) (t236_126 ih l0 l5 l8 l7 _ hM h)
def w236_24 (l0 : Nat) (l1 : Int32) (l2 : Int32) (l3 : Int32) (l4 : Int32) (l5 : Int32) (l6 : Int32) (M : MM) (P : Int32 → MM → Prop) : Prop := (l6 ≤ 0 → (kd M l0 10 ∧ w211 l0 l1 l2 M (fun M1 => kd M1 l0 10 ∧ w215 l0 l3 l4 M1 (fun M2 => kd M2 l0 10 ∧ w230 l0 M2 (fun M3 => ∃ n2, w236_59  n2 l0 l5 (0 : Int32) (0 : Int32) M3 P))))) ∧ (¬ (l6 ≤ 0) → (kd M l0 10 ∧ w167 l0 l6 M (fun r5 M4 => P r5 M4)))
theorem t236_24 {sl : Nat} {sx : Nat → Int32} {d : Nat} {M0 : MM} {P : Int32 → MM → Prop} (l0 : Nat) (l1 : Int32) (l2 : Int32) (l3 : Int32) (l4 : Int32) (l5 : Int32) (l6 : Int32) (M : MM) (hM : lenO M0 M) (h : w236_24  l0 l1 l2 l3 l4 l5 l6 M P) : R236 sl sx d M0 P 24 [some (vR (some l0)), some (vI l1), some (vI l2), some (vI l3), some (vI l4), some (vI l5), some (vI l6), none, none] [] M := by
  refine RN_k (callX_det _) 2 _ _ _ _ (show (l6 ≤ 0 → R236 sl sx d M0 P 36 [some (vR (some l0)), some (vI l1), some (vI l2), some (vI l3), some (vI l4), some (vI l5), some (vI l6), none, none] [] M) ∧ (¬ (l6 ≤ 0) → R236 sl sx d M0 P 29 [some (vR (some l0)), some (vI l1), some (vI l2), some (vI l3), some (vI l4), some (vI l5), some (vI l6), none, none] [] M) from ⟨fun hc => ?_, fun hc => ?_⟩)
  · replace h := h.1 hc
    refine RN_k (callX_det _) 4 _ _ _ _ (show kd M l0 10 ∧ callX TBg sl sx (d + 8) 211 [vR (some l0), vI l1, vI l2] M (fun v M9 => R236 sl sx d M0 P 42 [some (vR (some l0)), some (vI l1), some (vI l2), some (vI l3), some (vI l4), some (vI l5), some (vI l6), none, none] (pushO v []) M9) from ⟨h.1, ?_⟩)
    replace h := h.2
    refine callX_mono (callX_len (d := (d + 8)) rfl rfl rfl (c211 (d := d + 3) h)) ?_
    clear h
    rintro v9 M1 ⟨hl, rfl, h⟩
    replace hM := lenT hM hl
    show R236 sl sx d M0 P 42 [some (vR (some l0)), some (vI l1), some (vI l2), some (vI l3), some (vI l4), some (vI l5), some (vI l6), none, none] [] M1
    refine RN_k (callX_det _) 4 _ _ _ _ (show kd M1 l0 10 ∧ callX TBg sl sx (d + 8) 215 [vR (some l0), vI l3, vI l4] M1 (fun v M9 => R236 sl sx d M0 P 49 [some (vR (some l0)), some (vI l1), some (vI l2), some (vI l3), some (vI l4), some (vI l5), some (vI l6), none, none] (pushO v []) M9) from ⟨h.1, ?_⟩)
    replace h := h.2
    refine callX_mono (callX_len (d := (d + 8)) rfl rfl rfl (c215 (d := d + 7) h)) ?_
    clear h
    rintro v9 M2 ⟨hl, rfl, h⟩
    replace hM := lenT hM hl
    show R236 sl sx d M0 P 49 [some (vR (some l0)), some (vI l1), some (vI l2), some (vI l3), some (vI l4), some (vI l5), some (vI l6), none, none] [] M2
    refine RN_k (callX_det _) 2 _ _ _ _ (show kd M2 l0 10 ∧ callX TBg sl sx (d + 8) 230 [vR (some l0)] M2 (fun v M9 => R236 sl sx d M0 P 53 [some (vR (some l0)), some (vI l1), some (vI l2), some (vI l3), some (vI l4), some (vI l5), some (vI l6), none, none] (pushO v []) M9) from ⟨h.1, ?_⟩)
    replace h := h.2
    refine callX_mono (callX_len (d := (d + 8)) rfl rfl rfl (c230 (d := d) h)) ?_
    clear h
    rintro v9 M3 ⟨hl, rfl, h⟩
    replace hM := lenT hM hl
    show R236 sl sx d M0 P 53 [some (vR (some l0)), some (vI l1), some (vI l2), some (vI l3), some (vI l4), some (vI l5), some (vI l6), none, none] [] M3
    refine RN_k (callX_det _) 4 _ _ _ _ (show R236 sl sx d M0 P 59 [some (vR (some l0)), some (vI l1), some (vI l2), some (vI l3), some (vI l4), some (vI l5), some (vI l6), some (vI (0 : Int32)), some (vI (0 : Int32))] [] M3 from ?_)
    obtain ⟨n2, h⟩ := h
    exact RN_weak (K := [some (vR (some l0)), none, none, none, none, some (vI l5), none, some (vI (0 : Int32)), some (vI (0 : Int32))]) (callX_det _) (show _ ∧ _ ∧ _ ∧ _ ∧ True from ⟨rfl, rfl, rfl, rfl, trivial⟩) (t236_59  n2 l0 l5 (0 : Int32) (0 : Int32) _ hM h)
  · replace h := h.2 hc
    refine RN_k (callX_det _) 3 _ _ _ _ (show kd M l0 10 ∧ callX TBg sl sx (d + 8) 167 [vR (some l0), vI l6] M (fun v M9 => R236 sl sx d M0 P 35 [some (vR (some l0)), some (vI l1), some (vI l2), some (vI l3), some (vI l4), some (vI l5), some (vI l6), none, none] (pushO v []) M9) from ⟨h.1, ?_⟩)
    replace h := h.2
    refine callX_mono (callX_len (d := (d + 8)) rfl rfl rfl (c167 (d := d + 7) h)) ?_
    clear h
    rintro v9 M4 ⟨hl, r5, rfl, h⟩
    replace hM := lenT hM hl
    show R236 sl sx d M0 P 35 [some (vR (some l0)), some (vI l1), some (vI l2), some (vI l3), some (vI l4), some (vI l5), some (vI l6), none, none] [vI r5] M4
    exact RN_k (callX_det _) 1 _ _ _ _ (show rtW q236 M0 (PI P) (some (vI r5)) M4 from ⟨⟨_, rfl⟩, hM.1, hM.2, _, rfl, h⟩)
def w236 (l0 : Nat) (l1 : Int32) (l2 : Int32) (l3 : Int32) (l4 : Int32) (l5 : Int32) (M : MM) (P : Int32 → MM → Prop) : Prop := kd M l0 10 ∧ w237 l0 l1 l2 l3 l4 M (fun r2 M1 => w166 l5 (0 : Int32) (2 : Int32) M1 (fun r4 M3 => (r4 ≠ 0 → (w236_24  l0 l1 l2 l3 l4 l5 r2 M3 P)) ∧ (¬ (r4 ≠ 0) → (w236_24  l0 l1 l2 l3 l4 l5 (1 : Int32) M3 P))))
theorem t236_E {sl : Nat} {sx : Nat → Int32} {d : Nat} {M0 : MM} {P : Int32 → MM → Prop} (l0 : Nat) (l1 : Int32) (l2 : Int32) (l3 : Int32) (l4 : Int32) (l5 : Int32) (M : MM) (hM : lenO M0 M) (h : w236  l0 l1 l2 l3 l4 l5 M P) : R236 sl sx d M0 P 0 [some (vR (some l0)), some (vI l1), some (vI l2), some (vI l3), some (vI l4), some (vI l5), none, none, none] [] M := by
  refine RN_k (callX_det _) 6 _ _ _ _ (show kd M l0 10 ∧ callX TBg sl sx (d + 8) 237 [vR (some l0), vI l1, vI l2, vI l3, vI l4] M (fun v M9 => R236 sl sx d M0 P 9 [some (vR (some l0)), some (vI l1), some (vI l2), some (vI l3), some (vI l4), some (vI l5), none, none, none] (pushO v []) M9) from ⟨h.1, ?_⟩)
  replace h := h.2
  refine callX_mono (callX_len (d := (d + 8)) rfl rfl rfl (c237 (d := d + 4) h)) ?_
  clear h
  rintro v9 M1 ⟨hl, r2, rfl, h⟩
  replace hM := lenT hM hl
  show R236 sl sx d M0 P 9 [some (vR (some l0)), some (vI l1), some (vI l2), some (vI l3), some (vI l4), some (vI l5), none, none, none] [vI r2] M1
  refine RN_k (callX_det _) 5 _ _ _ _ (show callX TBg sl sx (d + 8) 166 [vI l5, vI (0 : Int32), vI (2 : Int32)] M1 (fun v M9 => R236 sl sx d M0 P 18 [some (vR (some l0)), some (vI l1), some (vI l2), some (vI l3), some (vI l4), some (vI l5), some (vI r2), none, none] (pushO v []) M9) from ?_)
  refine callX_mono (callX_len (d := (d + 8)) rfl rfl rfl (c166 (d := d + 7) h)) ?_
  clear h
  rintro v9 M3 ⟨hl, r4, rfl, h⟩
  replace hM := lenT hM hl
  show R236 sl sx d M0 P 18 [some (vR (some l0)), some (vI l1), some (vI l2), some (vI l3), some (vI l4), some (vI l5), some (vI r2), none, none] [vI r4] M3
  refine RN_k (callX_det _) 1 _ _ _ _ (show (r4 ≠ 0 → R236 sl sx d M0 P 24 [some (vR (some l0)), some (vI l1), some (vI l2), some (vI l3), some (vI l4), some (vI l5), some (vI r2), none, none] [] M3) ∧ (¬ (r4 ≠ 0) → R236 sl sx d M0 P 21 [some (vR (some l0)), some (vI l1), some (vI l2), some (vI l3), some (vI l4), some (vI l5), some (vI r2), none, none] [] M3) from ⟨fun hc => ?_, fun hc => ?_⟩)
  · replace h := h.1 hc
    exact RN_weak (K := [some (vR (some l0)), some (vI l1), some (vI l2), some (vI l3), some (vI l4), some (vI l5), some (vI r2), none, none]) (callX_det _) (show _ ∧ _ ∧ _ ∧ _ ∧ _ ∧ _ ∧ _ ∧ True from ⟨rfl, rfl, rfl, rfl, rfl, rfl, rfl, trivial⟩) (t236_24  l0 l1 l2 l3 l4 l5 r2 _ hM h)
  · replace h := h.2 hc
    refine RN_k (callX_det _) 2 _ _ _ _ (show R236 sl sx d M0 P 24 [some (vR (some l0)), some (vI l1), some (vI l2), some (vI l3), some (vI l4), some (vI l5), some (vI (1 : Int32)), none, none] [] M3 from ?_)
    exact RN_weak (K := [some (vR (some l0)), some (vI l1), some (vI l2), some (vI l3), some (vI l4), some (vI l5), some (vI (1 : Int32)), none, none]) (callX_det _) (show _ ∧ _ ∧ _ ∧ _ ∧ _ ∧ _ ∧ _ ∧ True from ⟨rfl, rfl, rfl, rfl, rfl, rfl, rfl, trivial⟩) (t236_24  l0 l1 l2 l3 l4 l5 (1 : Int32) _ hM h)
theorem c236 {sl : Nat} {sx : Nat → Int32} {d : Nat} {l0 : Nat} {l1 : Int32} {l2 : Int32} {l3 : Int32} {l4 : Int32} {l5 : Int32} {M : MM} {P : Int32 → MM → Prop} (h : w236 l0 l1 l2 l3 l4 l5 M P) : callX TBg sl sx (d + 9) 236 [vR (some l0), vI l1, vI l2, vI l3, vI l4, vI l5] M (PI P) :=
  cX (d := d + 8) q236 (false, tb236) rfl rfl rfl (t236_E l0 l1 l2 l3 l4 l5 M lenR h)
-- TwoLeashModel.areEndsNear()Z
abbrev q240 : MQ7 := (1, 1, 1, 10, 0, 0, 4)
abbrev R240 (sl : Nat) (sx : Nat → Int32) (d : Nat) (M0 : MM) (P : Int32 → MM → Prop) : Nat → LL → List VV → MM → Prop := RN 10 false (mS M0).length (mT M0) 0 0 sl sx (callX TBg sl sx (d + 2)) (rtW q240 M0 (PI P)) (as2 tb240)
def w240_41 (s0 : Int32) (M : MM) (P : Int32 → MM → Prop) : Prop := (s0 = 0 ∨ s0 = 1) ∧ P s0 M
theorem t240_41 {sl : Nat} {sx : Nat → Int32} {d : Nat} {M0 : MM} {P : Int32 → MM → Prop} (s0 : Int32) (M : MM) (hM : lenO M0 M) (h : w240_41  s0 M P) : R240 sl sx d M0 P 41 [none] [vI s0] M := by
  exact RN_k (callX_det _) 1 _ _ _ _ (show rtW q240 M0 (PI P) (some (vI s0)) M from ⟨⟨_, rfl, h.1⟩, hM.1, hM.2, _, rfl, h.2⟩)
def w240_40 (M : MM) (P : Int32 → MM → Prop) : Prop := w240_41  (0 : Int32) M P
theorem t240_40 {sl : Nat} {sx : Nat → Int32} {d : Nat} {M0 : MM} {P : Int32 → MM → Prop}  (M : MM) (hM : lenO M0 M) (h : w240_40   M P) : R240 sl sx d M0 P 40 [none] [] M := by
  refine RN_k (callX_det _) 1 _ _ _ _ (show R240 sl sx d M0 P 41 [none] [vI (0 : Int32)] M from ?_)
  exact RN_weak (K := [none]) (callX_det _) (show True from trivial) (t240_41  (0 : Int32) _ hM h)
def w240 (l0 : Nat) (M : MM) (P : Int32 → MM → Prop) : Prop := kd M l0 10 ∧ w231 l0 (0 : Int32) (0 : Int32) M (fun r2 M1 => kd M1 l0 10 ∧ w232 l0 r2 M1 (fun r4 M3 => (r4 = 0 → (w240_40  M3 P)) ∧ (¬ (r4 = 0) → (kd M3 l0 10 ∧ (kd M3 l0 10 ∧ (kd M3 l0 10 ∧ w231 l0 ((mI M3 l0 27) - (1 : Int32)) ((mI M3 l0 28) - (1 : Int32)) M3 (fun r6 M5 => kd M5 l0 10 ∧ w232 l0 r6 M5 (fun r8 M7 => (r8 = 0 → (w240_40  M7 P)) ∧ (¬ (r8 = 0) → (w240_41  (1 : Int32) M7 P))))))))))
theorem t240_E {sl : Nat} {sx : Nat → Int32} {d : Nat} {M0 : MM} {P : Int32 → MM → Prop} (l0 : Nat) (M : MM) (hM : lenO M0 M) (h : w240  l0 M P) : R240 sl sx d M0 P 0 [some (vR (some l0))] [] M := by
  refine RN_k (callX_det _) 5 _ _ _ _ (show kd M l0 10 ∧ callX TBg sl sx (d + 2) 231 [vR (some l0), vI (0 : Int32), vI (0 : Int32)] M (fun v M9 => R240 sl sx d M0 P 7 [some (vR (some l0))] (pushO v [vR (some l0)]) M9) from ⟨h.1, ?_⟩)
  replace h := h.2
  refine callX_mono (callX_len (d := (d + 2)) rfl rfl rfl (c231 (d := d) h)) ?_
  clear h
  rintro v9 M1 ⟨hl, r2, rfl, h⟩
  replace hM := lenT hM hl
  show R240 sl sx d M0 P 7 [some (vR (some l0))] [vI r2, vR (some l0)] M1
  refine RN_k (callX_det _) 1 _ _ _ _ (show kd M1 l0 10 ∧ callX TBg sl sx (d + 2) 232 [vR (some l0), vI r2] M1 (fun v M9 => R240 sl sx d M0 P 10 [some (vR (some l0))] (pushO v []) M9) from ⟨h.1, ?_⟩)
  replace h := h.2
  refine callX_mono (callX_len (d := (d + 2)) rfl rfl rfl (c232 (d := d + 1) h)) ?_
  clear h
  rintro v9 M3 ⟨hl, r4, rfl, h⟩
  replace hM := lenT hM hl
  show R240 sl sx d M0 P 10 [some (vR (some l0))] [vI r4] M3
  refine RN_k (callX_det _) 1 _ _ _ _ (show (r4 = 0 → R240 sl sx d M0 P 40 [some (vR (some l0))] [] M3) ∧ (¬ (r4 = 0) → R240 sl sx d M0 P 13 [some (vR (some l0))] [] M3) from ⟨fun hc => ?_, fun hc => ?_⟩)
  · replace h := h.1 hc
    exact RN_weak (K := [none]) (callX_det _) (show True from trivial) (t240_40   _ hM h)
  · replace h := h.2 hc
    refine RN_k (callX_det _) 4 _ _ _ _ (show kd M3 l0 10 ∧ R240 sl sx d M0 P 19 [some (vR (some l0))] [vI (mI M3 l0 27), vR (some l0), vR (some l0)] M3 from ⟨h.1, ?_⟩)
    replace h := h.2
    refine RN_k (callX_det _) 4 _ _ _ _ (show kd M3 l0 10 ∧ R240 sl sx d M0 P 25 [some (vR (some l0))] [vI (mI M3 l0 28), vI ((mI M3 l0 27) - (1 : Int32)), vR (some l0), vR (some l0)] M3 from ⟨h.1, ?_⟩)
    replace h := h.2
    refine RN_k (callX_det _) 3 _ _ _ _ (show kd M3 l0 10 ∧ callX TBg sl sx (d + 2) 231 [vR (some l0), vI ((mI M3 l0 27) - (1 : Int32)), vI ((mI M3 l0 28) - (1 : Int32))] M3 (fun v M9 => R240 sl sx d M0 P 30 [some (vR (some l0))] (pushO v [vR (some l0)]) M9) from ⟨h.1, ?_⟩)
    replace h := h.2
    refine callX_mono (callX_len (d := (d + 2)) rfl rfl rfl (c231 (d := d) h)) ?_
    clear h
    rintro v9 M5 ⟨hl, r6, rfl, h⟩
    replace hM := lenT hM hl
    show R240 sl sx d M0 P 30 [some (vR (some l0))] [vI r6, vR (some l0)] M5
    refine RN_k (callX_det _) 1 _ _ _ _ (show kd M5 l0 10 ∧ callX TBg sl sx (d + 2) 232 [vR (some l0), vI r6] M5 (fun v M9 => R240 sl sx d M0 P 33 [some (vR (some l0))] (pushO v []) M9) from ⟨h.1, ?_⟩)
    replace h := h.2
    refine callX_mono (callX_len (d := (d + 2)) rfl rfl rfl (c232 (d := d + 1) h)) ?_
    clear h
    rintro v9 M7 ⟨hl, r8, rfl, h⟩
    replace hM := lenT hM hl
    show R240 sl sx d M0 P 33 [some (vR (some l0))] [vI r8] M7
    refine RN_k (callX_det _) 1 _ _ _ _ (show (r8 = 0 → R240 sl sx d M0 P 40 [some (vR (some l0))] [] M7) ∧ (¬ (r8 = 0) → R240 sl sx d M0 P 36 [some (vR (some l0))] [] M7) from ⟨fun hc => ?_, fun hc => ?_⟩)
    · replace h := h.1 hc
      exact RN_weak (K := [none]) (callX_det _) (show True from trivial) (t240_40   _ hM h)
    · replace h := h.2 hc
      refine RN_k (callX_det _) 2 _ _ _ _ (show R240 sl sx d M0 P 41 [some (vR (some l0))] [vI (1 : Int32)] M7 from ?_)
      exact RN_weak (K := [none]) (callX_det _) (show True from trivial) (t240_41  (1 : Int32) _ hM h)
theorem c240 {sl : Nat} {sx : Nat → Int32} {d : Nat} {l0 : Nat} {M : MM} {P : Int32 → MM → Prop} (h : w240 l0 M P) : callX TBg sl sx (d + 3) 240 [vR (some l0)] M (PI P) :=
  cX (d := d + 2) q240 (false, tb240) rfl rfl rfl (t240_E l0 M lenR h)
-- TwoLeashModel.hopped()I
abbrev q241 : MQ7 := (1, 1, 4, 10, 0, 0, 1)
abbrev R241 (sl : Nat) (sx : Nat → Int32) (d : Nat) (M0 : MM) (P : Int32 → MM → Prop) : Nat → LL → List VV → MM → Prop := RN 10 false (mS M0).length (mT M0) 0 0 sl sx (callX TBg sl sx (d + 2)) (rtW q241 M0 (PI P)) (as2 tb241)
def w241_146 (k7 : Nat → Int32 → MM → Prop) (k18 : Nat → Int32 → Int32 → MM → Prop) (l0 : Nat) (l1 : Int32) (l2 : Int32) (l3 : Int32) (M : MM) (P : Int32 → MM → Prop) : Prop := kd M l0 10 ∧ (kd M l0 10 ∧ w231 l0 l1 l2 M (fun r2 M1 => w33 r2 l3 M1 (fun r4 M3 => ∃ a5, mR M l0 46 = some a5 ∧ (inb M3 a5 11 (((8 : Int32) * l1) + l2) ∧ (k18 l0 l1 (l2 + (-1 : Int32)) (sI M3 a5 (((8 : Int32) * l1) + l2).toNatClampNeg r4))))))
theorem t241_146 {sl : Nat} {sx : Nat → Int32} {d : Nat} {M0 : MM} {P : Int32 → MM → Prop} {k7 : Nat → Int32 → MM → Prop} {k18 : Nat → Int32 → Int32 → MM → Prop} (hk7 : ∀ (l0 : Nat) (l1 : Int32) (M : MM), lenO M0 M → k7 l0 l1 M → R241 sl sx d M0 P 7 [some (vR (some l0)), some (vI l1), none, none] [] M) (hk18 : ∀ (l0 : Nat) (l1 : Int32) (l2 : Int32) (M : MM), lenO M0 M → k18 l0 l1 l2 M → R241 sl sx d M0 P 18 [some (vR (some l0)), some (vI l1), some (vI l2), none] [] M) (l0 : Nat) (l1 : Int32) (l2 : Int32) (l3 : Int32) (M : MM) (hM : lenO M0 M) (h : w241_146 k7 k18 l0 l1 l2 l3 M P) : R241 sl sx d M0 P 146 [some (vR (some l0)), some (vI l1), some (vI l2), some (vI l3)] [] M := by
  refine RN_k (callX_det _) 2 _ _ _ _ (show kd M l0 10 ∧ R241 sl sx d M0 P 150 [some (vR (some l0)), some (vI l1), some (vI l2), some (vI l3)] [vR (mR M l0 46)] M from ⟨h.1, ?_⟩)
  replace h := h.2
  refine RN_k (callX_det _) 9 _ _ _ _ (show kd M l0 10 ∧ callX TBg sl sx (d + 2) 231 [vR (some l0), vI l1, vI l2] M (fun v M9 => R241 sl sx d M0 P 162 [some (vR (some l0)), some (vI l1), some (vI l2), some (vI l3)] (pushO v [vI (((8 : Int32) * l1) + l2), vR (mR M l0 46)]) M9) from ⟨h.1, ?_⟩)
  replace h := h.2
  refine callX_mono (callX_len (d := (d + 2)) rfl rfl rfl (c231 (d := d) h)) ?_
  clear h
  rintro v9 M1 ⟨hl, r2, rfl, h⟩
  replace hM := lenT hM hl
  show R241 sl sx d M0 P 162 [some (vR (some l0)), some (vI l1), some (vI l2), some (vI l3)] [vI r2, vI (((8 : Int32) * l1) + l2), vR (mR M l0 46)] M1
  refine RN_k (callX_det _) 2 _ _ _ _ (show callX TBg sl sx (d + 2) 33 [vI r2, vI l3] M1 (fun v M9 => R241 sl sx d M0 P 166 [some (vR (some l0)), some (vI l1), some (vI l2), some (vI l3)] (pushO v [vI (((8 : Int32) * l1) + l2), vR (mR M l0 46)]) M9) from ?_)
  refine callX_mono (callX_len (d := (d + 2)) rfl rfl rfl (c33 (d := d + 1) h)) ?_
  clear h
  rintro v9 M3 ⟨hl, r4, rfl, h⟩
  replace hM := lenT hM hl
  show R241 sl sx d M0 P 166 [some (vR (some l0)), some (vI l1), some (vI l2), some (vI l3)] [vI r4, vI (((8 : Int32) * l1) + l2), vR (mR M l0 46)] M3
  obtain ⟨a5, he, h⟩ := h
  rw [he]
  refine RN_k (callX_det _) 1 _ _ _ _ (show inb M3 a5 11 (((8 : Int32) * l1) + l2) ∧ R241 sl sx d M0 P 167 [some (vR (some l0)), some (vI l1), some (vI l2), some (vI l3)] [] (sI M3 a5 (((8 : Int32) * l1) + l2).toNatClampNeg r4) from ⟨h.1, ?_⟩)
  replace h := h.2
  refine RN_k (callX_det _) 2 _ _ _ _ (show R241 sl sx d M0 P 18 [some (vR (some l0)), some (vI l1), some (vI (l2 + (-1 : Int32))), some (vI l3)] [] (sI M3 a5 (((8 : Int32) * l1) + l2).toNatClampNeg r4) from ?_)
  exact RN_weak (K := [some (vR (some l0)), some (vI l1), some (vI (l2 + (-1 : Int32))), none]) (callX_det _) (show _ ∧ _ ∧ _ ∧ True from ⟨rfl, rfl, rfl, trivial⟩) (hk18 l0 l1 (l2 + (-1 : Int32)) _ hM h)
def w241_118 (k7 : Nat → Int32 → MM → Prop) (k18 : Nat → Int32 → Int32 → MM → Prop) (l0 : Nat) (l1 : Int32) (l2 : Int32) (l3 : Int32) (M : MM) (P : Int32 → MM → Prop) : Prop := kd M l0 10 ∧ (((mI M l0 28) ≤ (l2 + (1 : Int32)) → (w241_146 k7 k18 l0 l1 l2 l3 M P)) ∧ (¬ ((mI M l0 28) ≤ (l2 + (1 : Int32))) → (kd M l0 10 ∧ (∃ a1, mR M l0 46 = some a1 ∧ (inb M a1 11 ((((8 : Int32) * l1) + l2) + (1 : Int32)) ∧ (w70 l3 (mI M a1 ((((8 : Int32) * l1) + l2) + (1 : Int32)).toNatClampNeg) M (fun r3 M2 => w241_146 k7 k18 l0 l1 l2 r3 M2 P)))))))
theorem t241_118 {sl : Nat} {sx : Nat → Int32} {d : Nat} {M0 : MM} {P : Int32 → MM → Prop} {k7 : Nat → Int32 → MM → Prop} {k18 : Nat → Int32 → Int32 → MM → Prop} (hk7 : ∀ (l0 : Nat) (l1 : Int32) (M : MM), lenO M0 M → k7 l0 l1 M → R241 sl sx d M0 P 7 [some (vR (some l0)), some (vI l1), none, none] [] M) (hk18 : ∀ (l0 : Nat) (l1 : Int32) (l2 : Int32) (M : MM), lenO M0 M → k18 l0 l1 l2 M → R241 sl sx d M0 P 18 [some (vR (some l0)), some (vI l1), some (vI l2), none] [] M) (l0 : Nat) (l1 : Int32) (l2 : Int32) (l3 : Int32) (M : MM) (hM : lenO M0 M) (h : w241_118 k7 k18 l0 l1 l2 l3 M P) : R241 sl sx d M0 P 118 [some (vR (some l0)), some (vI l1), some (vI l2), some (vI l3)] [] M := by
  refine RN_k (callX_det _) 5 _ _ _ _ (show kd M l0 10 ∧ R241 sl sx d M0 P 125 [some (vR (some l0)), some (vI l1), some (vI l2), some (vI l3)] [vI (mI M l0 28), vI (l2 + (1 : Int32))] M from ⟨h.1, ?_⟩)
  replace h := h.2
  refine RN_k (callX_det _) 1 _ _ _ _ (show ((mI M l0 28) ≤ (l2 + (1 : Int32)) → R241 sl sx d M0 P 146 [some (vR (some l0)), some (vI l1), some (vI l2), some (vI l3)] [] M) ∧ (¬ ((mI M l0 28) ≤ (l2 + (1 : Int32))) → R241 sl sx d M0 P 128 [some (vR (some l0)), some (vI l1), some (vI l2), some (vI l3)] [] M) from ⟨fun hc => ?_, fun hc => ?_⟩)
  · replace h := h.1 hc
    exact RN_weak (K := [some (vR (some l0)), some (vI l1), some (vI l2), some (vI l3)]) (callX_det _) (show _ ∧ _ ∧ _ ∧ _ ∧ True from ⟨rfl, rfl, rfl, rfl, trivial⟩) (t241_146 hk7 hk18 l0 l1 l2 l3 _ hM h)
  · replace h := h.2 hc
    refine RN_k (callX_det _) 3 _ _ _ _ (show kd M l0 10 ∧ R241 sl sx d M0 P 133 [some (vR (some l0)), some (vI l1), some (vI l2), some (vI l3)] [vR (mR M l0 46), vI l3] M from ⟨h.1, ?_⟩)
    replace h := h.2
    obtain ⟨a1, he, h⟩ := h
    refine RN_k (callX_det _) 7 _ _ _ _ (show R241 sl sx d M0 P 141 [some (vR (some l0)), some (vI l1), some (vI l2), some (vI l3)] [vI ((((8 : Int32) * l1) + l2) + (1 : Int32)), vR (mR M l0 46), vI l3] M from ?_)
    rw [he]
    refine RN_k (callX_det _) 1 _ _ _ _ (show inb M a1 11 ((((8 : Int32) * l1) + l2) + (1 : Int32)) ∧ R241 sl sx d M0 P 142 [some (vR (some l0)), some (vI l1), some (vI l2), some (vI l3)] [vI (mI M a1 ((((8 : Int32) * l1) + l2) + (1 : Int32)).toNatClampNeg), vI l3] M from ⟨h.1, ?_⟩)
    replace h := h.2
    refine RN_k (callX_det _) 1 _ _ _ _ (show callX TBg sl sx (d + 2) 70 [vI l3, vI (mI M a1 ((((8 : Int32) * l1) + l2) + (1 : Int32)).toNatClampNeg)] M (fun v M9 => R241 sl sx d M0 P 145 [some (vR (some l0)), some (vI l1), some (vI l2), some (vI l3)] (pushO v []) M9) from ?_)
    refine callX_mono (callX_len (d := (d + 2)) rfl rfl rfl (c70 (d := d + 1) h)) ?_
    clear h
    rintro v9 M2 ⟨hl, r3, rfl, h⟩
    replace hM := lenT hM hl
    show R241 sl sx d M0 P 145 [some (vR (some l0)), some (vI l1), some (vI l2), some (vI l3)] [vI r3] M2
    refine RN_k (callX_det _) 1 _ _ _ _ (show R241 sl sx d M0 P 146 [some (vR (some l0)), some (vI l1), some (vI l2), some (vI r3)] [] M2 from ?_)
    exact RN_weak (K := [some (vR (some l0)), some (vI l1), some (vI l2), some (vI r3)]) (callX_det _) (show _ ∧ _ ∧ _ ∧ _ ∧ True from ⟨rfl, rfl, rfl, rfl, trivial⟩) (t241_146 hk7 hk18 l0 l1 l2 r3 _ hM h)
def w241_89 (k7 : Nat → Int32 → MM → Prop) (k18 : Nat → Int32 → Int32 → MM → Prop) (l0 : Nat) (l1 : Int32) (l2 : Int32) (l3 : Int32) (M : MM) (P : Int32 → MM → Prop) : Prop := kd M l0 10 ∧ (((mI M l0 27) ≤ (l1 + (1 : Int32)) → (w241_118 k7 k18 l0 l1 l2 l3 M P)) ∧ (¬ ((mI M l0 27) ≤ (l1 + (1 : Int32))) → (kd M l0 10 ∧ (∃ a1, mR M l0 46 = some a1 ∧ (inb M a1 11 ((((8 : Int32) * l1) + (8 : Int32)) + l2) ∧ (w70 l3 (mI M a1 ((((8 : Int32) * l1) + (8 : Int32)) + l2).toNatClampNeg) M (fun r3 M2 => w241_118 k7 k18 l0 l1 l2 r3 M2 P)))))))
theorem t241_89 {sl : Nat} {sx : Nat → Int32} {d : Nat} {M0 : MM} {P : Int32 → MM → Prop} {k7 : Nat → Int32 → MM → Prop} {k18 : Nat → Int32 → Int32 → MM → Prop} (hk7 : ∀ (l0 : Nat) (l1 : Int32) (M : MM), lenO M0 M → k7 l0 l1 M → R241 sl sx d M0 P 7 [some (vR (some l0)), some (vI l1), none, none] [] M) (hk18 : ∀ (l0 : Nat) (l1 : Int32) (l2 : Int32) (M : MM), lenO M0 M → k18 l0 l1 l2 M → R241 sl sx d M0 P 18 [some (vR (some l0)), some (vI l1), some (vI l2), none] [] M) (l0 : Nat) (l1 : Int32) (l2 : Int32) (l3 : Int32) (M : MM) (hM : lenO M0 M) (h : w241_89 k7 k18 l0 l1 l2 l3 M P) : R241 sl sx d M0 P 89 [some (vR (some l0)), some (vI l1), some (vI l2), some (vI l3)] [] M := by
  refine RN_k (callX_det _) 5 _ _ _ _ (show kd M l0 10 ∧ R241 sl sx d M0 P 96 [some (vR (some l0)), some (vI l1), some (vI l2), some (vI l3)] [vI (mI M l0 27), vI (l1 + (1 : Int32))] M from ⟨h.1, ?_⟩)
  replace h := h.2
  refine RN_k (callX_det _) 1 _ _ _ _ (show ((mI M l0 27) ≤ (l1 + (1 : Int32)) → R241 sl sx d M0 P 118 [some (vR (some l0)), some (vI l1), some (vI l2), some (vI l3)] [] M) ∧ (¬ ((mI M l0 27) ≤ (l1 + (1 : Int32))) → R241 sl sx d M0 P 99 [some (vR (some l0)), some (vI l1), some (vI l2), some (vI l3)] [] M) from ⟨fun hc => ?_, fun hc => ?_⟩)
  · replace h := h.1 hc
    exact RN_weak (K := [some (vR (some l0)), some (vI l1), some (vI l2), some (vI l3)]) (callX_det _) (show _ ∧ _ ∧ _ ∧ _ ∧ True from ⟨rfl, rfl, rfl, rfl, trivial⟩) (t241_118 hk7 hk18 l0 l1 l2 l3 _ hM h)
  · replace h := h.2 hc
    refine RN_k (callX_det _) 3 _ _ _ _ (show kd M l0 10 ∧ R241 sl sx d M0 P 104 [some (vR (some l0)), some (vI l1), some (vI l2), some (vI l3)] [vR (mR M l0 46), vI l3] M from ⟨h.1, ?_⟩)
    replace h := h.2
    obtain ⟨a1, he, h⟩ := h
    refine RN_k (callX_det _) 7 _ _ _ _ (show R241 sl sx d M0 P 113 [some (vR (some l0)), some (vI l1), some (vI l2), some (vI l3)] [vI ((((8 : Int32) * l1) + (8 : Int32)) + l2), vR (mR M l0 46), vI l3] M from ?_)
    rw [he]
    refine RN_k (callX_det _) 1 _ _ _ _ (show inb M a1 11 ((((8 : Int32) * l1) + (8 : Int32)) + l2) ∧ R241 sl sx d M0 P 114 [some (vR (some l0)), some (vI l1), some (vI l2), some (vI l3)] [vI (mI M a1 ((((8 : Int32) * l1) + (8 : Int32)) + l2).toNatClampNeg), vI l3] M from ⟨h.1, ?_⟩)
    replace h := h.2
    refine RN_k (callX_det _) 1 _ _ _ _ (show callX TBg sl sx (d + 2) 70 [vI l3, vI (mI M a1 ((((8 : Int32) * l1) + (8 : Int32)) + l2).toNatClampNeg)] M (fun v M9 => R241 sl sx d M0 P 117 [some (vR (some l0)), some (vI l1), some (vI l2), some (vI l3)] (pushO v []) M9) from ?_)
    refine callX_mono (callX_len (d := (d + 2)) rfl rfl rfl (c70 (d := d + 1) h)) ?_
    clear h
    rintro v9 M2 ⟨hl, r3, rfl, h⟩
    replace hM := lenT hM hl
    show R241 sl sx d M0 P 117 [some (vR (some l0)), some (vI l1), some (vI l2), some (vI l3)] [vI r3] M2
    refine RN_k (callX_det _) 1 _ _ _ _ (show R241 sl sx d M0 P 118 [some (vR (some l0)), some (vI l1), some (vI l2), some (vI r3)] [] M2 from ?_)
    exact RN_weak (K := [some (vR (some l0)), some (vI l1), some (vI l2), some (vI r3)]) (callX_det _) (show _ ∧ _ ∧ _ ∧ _ ∧ True from ⟨rfl, rfl, rfl, rfl, trivial⟩) (t241_118 hk7 hk18 l0 l1 l2 r3 _ hM h)
def w241_49 (k7 : Nat → Int32 → MM → Prop) (k18 : Nat → Int32 → Int32 → MM → Prop) (l0 : Nat) (l1 : Int32) (l2 : Int32) (s0 : Int32) (M : MM) (P : Int32 → MM → Prop) : Prop := kd M l0 10 ∧ (((mI M l0 27) ≤ (l1 + (1 : Int32)) → (w241_89 k7 k18 l0 l1 l2 s0 M P)) ∧ (¬ ((mI M l0 27) ≤ (l1 + (1 : Int32))) → (kd M l0 10 ∧ (((mI M l0 28) ≤ (l2 + (1 : Int32)) → (w241_89 k7 k18 l0 l1 l2 s0 M P)) ∧ (¬ ((mI M l0 28) ≤ (l2 + (1 : Int32))) → (kd M l0 10 ∧ (∃ a1, mR M l0 46 = some a1 ∧ (inb M a1 11 ((((8 : Int32) * l1) + (9 : Int32)) + l2) ∧ (w70 s0 (mI M a1 ((((8 : Int32) * l1) + (9 : Int32)) + l2).toNatClampNeg) M (fun r3 M2 => w241_89 k7 k18 l0 l1 l2 r3 M2 P))))))))))
theorem t241_49 {sl : Nat} {sx : Nat → Int32} {d : Nat} {M0 : MM} {P : Int32 → MM → Prop} {k7 : Nat → Int32 → MM → Prop} {k18 : Nat → Int32 → Int32 → MM → Prop} (hk7 : ∀ (l0 : Nat) (l1 : Int32) (M : MM), lenO M0 M → k7 l0 l1 M → R241 sl sx d M0 P 7 [some (vR (some l0)), some (vI l1), none, none] [] M) (hk18 : ∀ (l0 : Nat) (l1 : Int32) (l2 : Int32) (M : MM), lenO M0 M → k18 l0 l1 l2 M → R241 sl sx d M0 P 18 [some (vR (some l0)), some (vI l1), some (vI l2), none] [] M) (l0 : Nat) (l1 : Int32) (l2 : Int32) (s0 : Int32) (M : MM) (hM : lenO M0 M) (h : w241_49 k7 k18 l0 l1 l2 s0 M P) : R241 sl sx d M0 P 49 [some (vR (some l0)), some (vI l1), some (vI l2), none] [vI s0] M := by
  refine RN_k (callX_det _) 6 _ _ _ _ (show kd M l0 10 ∧ R241 sl sx d M0 P 57 [some (vR (some l0)), some (vI l1), some (vI l2), some (vI s0)] [vI (mI M l0 27), vI (l1 + (1 : Int32))] M from ⟨h.1, ?_⟩)
  replace h := h.2
  refine RN_k (callX_det _) 1 _ _ _ _ (show ((mI M l0 27) ≤ (l1 + (1 : Int32)) → R241 sl sx d M0 P 89 [some (vR (some l0)), some (vI l1), some (vI l2), some (vI s0)] [] M) ∧ (¬ ((mI M l0 27) ≤ (l1 + (1 : Int32))) → R241 sl sx d M0 P 60 [some (vR (some l0)), some (vI l1), some (vI l2), some (vI s0)] [] M) from ⟨fun hc => ?_, fun hc => ?_⟩)
  · replace h := h.1 hc
    exact RN_weak (K := [some (vR (some l0)), some (vI l1), some (vI l2), some (vI s0)]) (callX_det _) (show _ ∧ _ ∧ _ ∧ _ ∧ True from ⟨rfl, rfl, rfl, rfl, trivial⟩) (t241_89 hk7 hk18 l0 l1 l2 s0 _ hM h)
  · replace h := h.2 hc
    refine RN_k (callX_det _) 5 _ _ _ _ (show kd M l0 10 ∧ R241 sl sx d M0 P 67 [some (vR (some l0)), some (vI l1), some (vI l2), some (vI s0)] [vI (mI M l0 28), vI (l2 + (1 : Int32))] M from ⟨h.1, ?_⟩)
    replace h := h.2
    refine RN_k (callX_det _) 1 _ _ _ _ (show ((mI M l0 28) ≤ (l2 + (1 : Int32)) → R241 sl sx d M0 P 89 [some (vR (some l0)), some (vI l1), some (vI l2), some (vI s0)] [] M) ∧ (¬ ((mI M l0 28) ≤ (l2 + (1 : Int32))) → R241 sl sx d M0 P 70 [some (vR (some l0)), some (vI l1), some (vI l2), some (vI s0)] [] M) from ⟨fun hc => ?_, fun hc => ?_⟩)
    · replace h := h.1 hc
      exact RN_weak (K := [some (vR (some l0)), some (vI l1), some (vI l2), some (vI s0)]) (callX_det _) (show _ ∧ _ ∧ _ ∧ _ ∧ True from ⟨rfl, rfl, rfl, rfl, trivial⟩) (t241_89 hk7 hk18 l0 l1 l2 s0 _ hM h)
    · replace h := h.2 hc
      refine RN_k (callX_det _) 3 _ _ _ _ (show kd M l0 10 ∧ R241 sl sx d M0 P 75 [some (vR (some l0)), some (vI l1), some (vI l2), some (vI s0)] [vR (mR M l0 46), vI s0] M from ⟨h.1, ?_⟩)
      replace h := h.2
      obtain ⟨a1, he, h⟩ := h
      refine RN_k (callX_det _) 7 _ _ _ _ (show R241 sl sx d M0 P 84 [some (vR (some l0)), some (vI l1), some (vI l2), some (vI s0)] [vI ((((8 : Int32) * l1) + (9 : Int32)) + l2), vR (mR M l0 46), vI s0] M from ?_)
      rw [he]
      refine RN_k (callX_det _) 1 _ _ _ _ (show inb M a1 11 ((((8 : Int32) * l1) + (9 : Int32)) + l2) ∧ R241 sl sx d M0 P 85 [some (vR (some l0)), some (vI l1), some (vI l2), some (vI s0)] [vI (mI M a1 ((((8 : Int32) * l1) + (9 : Int32)) + l2).toNatClampNeg), vI s0] M from ⟨h.1, ?_⟩)
      replace h := h.2
      refine RN_k (callX_det _) 1 _ _ _ _ (show callX TBg sl sx (d + 2) 70 [vI s0, vI (mI M a1 ((((8 : Int32) * l1) + (9 : Int32)) + l2).toNatClampNeg)] M (fun v M9 => R241 sl sx d M0 P 88 [some (vR (some l0)), some (vI l1), some (vI l2), some (vI s0)] (pushO v []) M9) from ?_)
      refine callX_mono (callX_len (d := (d + 2)) rfl rfl rfl (c70 (d := d + 1) h)) ?_
      clear h
      rintro v9 M2 ⟨hl, r3, rfl, h⟩
      replace hM := lenT hM hl
      show R241 sl sx d M0 P 88 [some (vR (some l0)), some (vI l1), some (vI l2), some (vI s0)] [vI r3] M2
      refine RN_k (callX_det _) 1 _ _ _ _ (show R241 sl sx d M0 P 89 [some (vR (some l0)), some (vI l1), some (vI l2), some (vI r3)] [] M2 from ?_)
      exact RN_weak (K := [some (vR (some l0)), some (vI l1), some (vI l2), some (vI r3)]) (callX_det _) (show _ ∧ _ ∧ _ ∧ _ ∧ True from ⟨rfl, rfl, rfl, rfl, trivial⟩) (t241_89 hk7 hk18 l0 l1 l2 r3 _ hM h)
def w241_46 (k7 : Nat → Int32 → MM → Prop) (k18 : Nat → Int32 → Int32 → MM → Prop) (l0 : Nat) (l1 : Int32) (l2 : Int32) (M : MM) (P : Int32 → MM → Prop) : Prop := w241_49 k7 k18 l0 l1 l2 (1000000000 : Int32) M P
theorem t241_46 {sl : Nat} {sx : Nat → Int32} {d : Nat} {M0 : MM} {P : Int32 → MM → Prop} {k7 : Nat → Int32 → MM → Prop} {k18 : Nat → Int32 → Int32 → MM → Prop} (hk7 : ∀ (l0 : Nat) (l1 : Int32) (M : MM), lenO M0 M → k7 l0 l1 M → R241 sl sx d M0 P 7 [some (vR (some l0)), some (vI l1), none, none] [] M) (hk18 : ∀ (l0 : Nat) (l1 : Int32) (l2 : Int32) (M : MM), lenO M0 M → k18 l0 l1 l2 M → R241 sl sx d M0 P 18 [some (vR (some l0)), some (vI l1), some (vI l2), none] [] M) (l0 : Nat) (l1 : Int32) (l2 : Int32) (M : MM) (hM : lenO M0 M) (h : w241_46 k7 k18 l0 l1 l2 M P) : R241 sl sx d M0 P 46 [some (vR (some l0)), some (vI l1), some (vI l2), none] [] M := by
  refine RN_k (callX_det _) 1 _ _ _ _ (show R241 sl sx d M0 P 49 [some (vR (some l0)), some (vI l1), some (vI l2), none] [vI (1000000000 : Int32)] M from ?_)
  exact RN_weak (K := [some (vR (some l0)), some (vI l1), some (vI l2), none]) (callX_det _) (show _ ∧ _ ∧ _ ∧ True from ⟨rfl, rfl, rfl, trivial⟩) (t241_49 hk7 hk18 l0 l1 l2 (1000000000 : Int32) _ hM h)
def w241_18 (k7 : Nat → Int32 → MM → Prop) : Nat → Nat → Int32 → Int32 → MM → (Int32 → MM → Prop) → Prop
  | 0 => fun _ _ _ _ _ => False
  | n + 1 => fun l0 l1 l2 M P => (l2 < 0 → (k7 l0 (l1 + (-1 : Int32)) M)) ∧ (¬ (l2 < 0) → (kd M l0 10 ∧ ((l1 ≠ ((mI M l0 27) - (1 : Int32)) → (w241_46 k7 (fun z0 z1 z2 z3 => w241_18 k7 n z0 z1 z2 z3 P) l0 l1 l2 M P)) ∧ (¬ (l1 ≠ ((mI M l0 27) - (1 : Int32))) → (kd M l0 10 ∧ ((l2 ≠ ((mI M l0 28) - (1 : Int32)) → (w241_46 k7 (fun z0 z1 z2 z3 => w241_18 k7 n z0 z1 z2 z3 P) l0 l1 l2 M P)) ∧ (¬ (l2 ≠ ((mI M l0 28) - (1 : Int32))) → (w241_49 k7 (fun z0 z1 z2 z3 => w241_18 k7 n z0 z1 z2 z3 P) l0 l1 l2 (0 : Int32) M P))))))))
theorem t241_18 {sl : Nat} {sx : Nat → Int32} {d : Nat} {M0 : MM} {P : Int32 → MM → Prop} {k7 : Nat → Int32 → MM → Prop} (hk7 : ∀ (l0 : Nat) (l1 : Int32) (M : MM), lenO M0 M → k7 l0 l1 M → R241 sl sx d M0 P 7 [some (vR (some l0)), some (vI l1), none, none] [] M) (n : Nat) : ∀ (l0 : Nat) (l1 : Int32) (l2 : Int32) (M : MM) (_ : lenO M0 M) (_ : w241_18 k7 n l0 l1 l2 M P), R241 sl sx d M0 P 18 [some (vR (some l0)), some (vI l1), some (vI l2), none] [] M := by
  induction n with
  | zero => intro l0 l1 l2 M hM h; cases h
  | succ n ih =>
    intro l0 l1 l2 M hM h
    refine RN_k (callX_det _) 2 _ _ _ _ (show (l2 < 0 → R241 sl sx d M0 P 173 [some (vR (some l0)), some (vI l1), some (vI l2), none] [] M) ∧ (¬ (l2 < 0) → R241 sl sx d M0 P 22 [some (vR (some l0)), some (vI l1), some (vI l2), none] [] M) from ⟨fun hc => ?_, fun hc => ?_⟩)
    · replace h := h.1 hc
      refine RN_k (callX_det _) 2 _ _ _ _ (show R241 sl sx d M0 P 7 [some (vR (some l0)), some (vI (l1 + (-1 : Int32))), some (vI l2), none] [] M from ?_)
      exact RN_weak (K := [some (vR (some l0)), some (vI (l1 + (-1 : Int32))), none, none]) (callX_det _) (show _ ∧ _ ∧ True from ⟨rfl, rfl, trivial⟩) (hk7 l0 (l1 + (-1 : Int32)) _ hM h)
    · replace h := h.2 hc
      refine RN_k (callX_det _) 3 _ _ _ _ (show kd M l0 10 ∧ R241 sl sx d M0 P 27 [some (vR (some l0)), some (vI l1), some (vI l2), none] [vI (mI M l0 27), vI l1] M from ⟨h.1, ?_⟩)
      replace h := h.2
      refine RN_k (callX_det _) 3 _ _ _ _ (show (l1 ≠ ((mI M l0 27) - (1 : Int32)) → R241 sl sx d M0 P 46 [some (vR (some l0)), some (vI l1), some (vI l2), none] [] M) ∧ (¬ (l1 ≠ ((mI M l0 27) - (1 : Int32))) → R241 sl sx d M0 P 32 [some (vR (some l0)), some (vI l1), some (vI l2), none] [] M) from ⟨fun hc => ?_, fun hc => ?_⟩)
      · replace h := h.1 hc
        exact RN_weak (K := [some (vR (some l0)), some (vI l1), some (vI l2), none]) (callX_det _) (show _ ∧ _ ∧ _ ∧ True from ⟨rfl, rfl, rfl, trivial⟩) (t241_46 hk7 ih l0 l1 l2 _ hM h)
      · replace h := h.2 hc
        refine RN_k (callX_det _) 3 _ _ _ _ (show kd M l0 10 ∧ R241 sl sx d M0 P 37 [some (vR (some l0)), some (vI l1), some (vI l2), none] [vI (mI M l0 28), vI l2] M from ⟨h.1, ?_⟩)
        replace h := h.2
        refine RN_k (callX_det _) 3 _ _ _ _ (show (l2 ≠ ((mI M l0 28) - (1 : Int32)) → R241 sl sx d M0 P 46 [some (vR (some l0)), some (vI l1), some (vI l2), none] [] M) ∧ (¬ (l2 ≠ ((mI M l0 28) - (1 : Int32))) → R241 sl sx d M0 P 42 [some (vR (some l0)), some (vI l1), some (vI l2), none] [] M) from ⟨fun hc => ?_, fun hc => ?_⟩)
        · replace h := h.1 hc
          exact RN_weak (K := [some (vR (some l0)), some (vI l1), some (vI l2), none]) (callX_det _) (show _ ∧ _ ∧ _ ∧ True from ⟨rfl, rfl, rfl, trivial⟩) (t241_46 hk7 ih l0 l1 l2 _ hM h)
        · replace h := h.2 hc
          refine RN_k (callX_det _) 2 _ _ _ _ (show R241 sl sx d M0 P 49 [some (vR (some l0)), some (vI l1), some (vI l2), none] [vI (0 : Int32)] M from ?_)
          exact RN_weak (K := [some (vR (some l0)), some (vI l1), some (vI l2), none]) (callX_det _) (show _ ∧ _ ∧ _ ∧ True from ⟨rfl, rfl, rfl, trivial⟩) (t241_49 hk7 ih l0 l1 l2 (0 : Int32) _ hM h)
def w241_7 : Nat → Nat → Int32 → MM → (Int32 → MM → Prop) → Prop
  | 0 => fun _ _ _ _ => False
  | n + 1 => fun l0 l1 M P => (l1 < 0 → (kd M l0 10 ∧ (∃ a1, mR M l0 46 = some a1 ∧ (inb M a1 11 (0 : Int32) ∧ (P (mI M a1 (0 : Int32).toNatClampNeg) M))))) ∧ (¬ (l1 < 0) → (kd M l0 10 ∧ (∃ n2, w241_18 (fun z0 z1 z2 => w241_7  n z0 z1 z2 P) n2 l0 l1 ((mI M l0 28) - (1 : Int32)) M P)))
theorem t241_7 {sl : Nat} {sx : Nat → Int32} {d : Nat} {M0 : MM} {P : Int32 → MM → Prop} (n : Nat) : ∀ (l0 : Nat) (l1 : Int32) (M : MM) (_ : lenO M0 M) (_ : w241_7  n l0 l1 M P), R241 sl sx d M0 P 7 [some (vR (some l0)), some (vI l1), none, none] [] M := by
  induction n with
  | zero => intro l0 l1 M hM h; cases h
  | succ n ih =>
    intro l0 l1 M hM h
    refine RN_k (callX_det _) 2 _ _ _ _ (show (l1 < 0 → R241 sl sx d M0 P 179 [some (vR (some l0)), some (vI l1), none, none] [] M) ∧ (¬ (l1 < 0) → R241 sl sx d M0 P 11 [some (vR (some l0)), some (vI l1), none, none] [] M) from ⟨fun hc => ?_, fun hc => ?_⟩)
    · replace h := h.1 hc
      refine RN_k (callX_det _) 2 _ _ _ _ (show kd M l0 10 ∧ R241 sl sx d M0 P 183 [some (vR (some l0)), some (vI l1), none, none] [vR (mR M l0 46)] M from ⟨h.1, ?_⟩)
      replace h := h.2
      obtain ⟨a1, he, h⟩ := h
      refine RN_k (callX_det _) 1 _ _ _ _ (show R241 sl sx d M0 P 184 [some (vR (some l0)), some (vI l1), none, none] [vI (0 : Int32), vR (mR M l0 46)] M from ?_)
      rw [he]
      refine RN_k (callX_det _) 1 _ _ _ _ (show inb M a1 11 (0 : Int32) ∧ R241 sl sx d M0 P 185 [some (vR (some l0)), some (vI l1), none, none] [vI (mI M a1 (0 : Int32).toNatClampNeg)] M from ⟨h.1, ?_⟩)
      replace h := h.2
      exact RN_k (callX_det _) 1 _ _ _ _ (show rtW q241 M0 (PI P) (some (vI (mI M a1 (0 : Int32).toNatClampNeg))) M from ⟨⟨_, rfl⟩, hM.1, hM.2, _, rfl, h⟩)
    · replace h := h.2 hc
      refine RN_k (callX_det _) 2 _ _ _ _ (show kd M l0 10 ∧ R241 sl sx d M0 P 15 [some (vR (some l0)), some (vI l1), none, none] [vI (mI M l0 28)] M from ⟨h.1, ?_⟩)
      replace h := h.2
      refine RN_k (callX_det _) 3 _ _ _ _ (show R241 sl sx d M0 P 18 [some (vR (some l0)), some (vI l1), some (vI ((mI M l0 28) - (1 : Int32))), none] [] M from ?_)
      obtain ⟨n2, h⟩ := h
      exact RN_weak (K := [some (vR (some l0)), some (vI l1), some (vI ((mI M l0 28) - (1 : Int32))), none]) (callX_det _) (show _ ∧ _ ∧ _ ∧ True from ⟨rfl, rfl, rfl, trivial⟩) (t241_18 ih n2 l0 l1 ((mI M l0 28) - (1 : Int32)) _ hM h)
def w241 (l0 : Nat) (M : MM) (P : Int32 → MM → Prop) : Prop := kd M l0 10 ∧ (∃ n2, w241_7  n2 l0 ((mI M l0 27) - (1 : Int32)) M P)
theorem t241_E {sl : Nat} {sx : Nat → Int32} {d : Nat} {M0 : MM} {P : Int32 → MM → Prop} (l0 : Nat) (M : MM) (hM : lenO M0 M) (h : w241  l0 M P) : R241 sl sx d M0 P 0 [some (vR (some l0)), none, none, none] [] M := by
  refine RN_k (callX_det _) 2 _ _ _ _ (show kd M l0 10 ∧ R241 sl sx d M0 P 4 [some (vR (some l0)), none, none, none] [vI (mI M l0 27)] M from ⟨h.1, ?_⟩)
  replace h := h.2
  refine RN_k (callX_det _) 3 _ _ _ _ (show R241 sl sx d M0 P 7 [some (vR (some l0)), some (vI ((mI M l0 27) - (1 : Int32))), none, none] [] M from ?_)
  obtain ⟨n2, h⟩ := h
  exact RN_weak (K := [some (vR (some l0)), some (vI ((mI M l0 27) - (1 : Int32))), none, none]) (callX_det _) (show _ ∧ _ ∧ True from ⟨rfl, rfl, trivial⟩) (t241_7  n2 l0 ((mI M l0 27) - (1 : Int32)) _ hM h)
theorem c241 {sl : Nat} {sx : Nat → Int32} {d : Nat} {l0 : Nat} {M : MM} {P : Int32 → MM → Prop} (h : w241 l0 M P) : callX TBg sl sx (d + 3) 241 [vR (some l0)] M (PI P) :=
  cX (d := d + 2) q241 (false, tb241) rfl rfl rfl (t241_E l0 M lenR h)
-- TwoLeashModel.joins(II)Z
abbrev q243 : MQ7 := (3, 1, 4, 10, 0, 0, 4)
abbrev R243 (sl : Nat) (sx : Nat → Int32) (d : Nat) (M0 : MM) (P : Int32 → MM → Prop) : Nat → LL → List VV → MM → Prop := RN 10 false (mS M0).length (mT M0) 0 0 sl sx (callX TBg sl sx (d + 0)) (rtW q243 M0 (PI P)) (as2 tb243)
def w243_49 (l0 : Nat) (l1 : Int32) (l2 : Int32) (l3 : Int32) (s0 : Option Nat) (s1 : Int32) (s2 : Int32) (M : MM) (P : Int32 → MM → Prop) : Prop := ∃ a1, s0 = some a1 ∧ (inb M a1 14 s1 ∧ (kd (sI M a1 s1.toNatClampNeg (s2 &&& 1)) l0 10 ∧ (kd (sI M a1 s1.toNatClampNeg (s2 &&& 1)) l0 10 ∧ (∃ a2, mR (sI M a1 s1.toNatClampNeg (s2 &&& 1)) l0 45 = some a2 ∧ (inb (sI M a1 s1.toNatClampNeg (s2 &&& 1)) a2 14 l1 ∧ (inb (sI M a1 s1.toNatClampNeg (s2 &&& 1)) a2 14 l2 ∧ ((l3 = 0 ∨ l3 = 1) ∧ P l3 (sI (sI M a1 s1.toNatClampNeg (s2 &&& 1)) a2 l2.toNatClampNeg ((mI (sI M a1 s1.toNatClampNeg (s2 &&& 1)) a2 l1.toNatClampNeg) &&& 1)))))))))
theorem t243_49 {sl : Nat} {sx : Nat → Int32} {d : Nat} {M0 : MM} {P : Int32 → MM → Prop} (l0 : Nat) (l1 : Int32) (l2 : Int32) (l3 : Int32) (s0 : Option Nat) (s1 : Int32) (s2 : Int32) (M : MM) (hM : lenO M0 M) (h : w243_49  l0 l1 l2 l3 s0 s1 s2 M P) : R243 sl sx d M0 P 49 [some (vR (some l0)), some (vI l1), some (vI l2), some (vI l3)] [vI s2, vI s1, vR s0] M := by
  obtain ⟨a1, he, h⟩ := h
  subst he
  refine RN_k (callX_det _) 1 _ _ _ _ (show inb M a1 14 s1 ∧ R243 sl sx d M0 P 50 [some (vR (some l0)), some (vI l1), some (vI l2), some (vI l3)] [] (sI M a1 s1.toNatClampNeg (s2 &&& 1)) from ⟨h.1, ?_⟩)
  replace h := h.2
  refine RN_k (callX_det _) 2 _ _ _ _ (show kd (sI M a1 s1.toNatClampNeg (s2 &&& 1)) l0 10 ∧ R243 sl sx d M0 P 54 [some (vR (some l0)), some (vI l1), some (vI l2), some (vI l3)] [vR (mR (sI M a1 s1.toNatClampNeg (s2 &&& 1)) l0 45)] (sI M a1 s1.toNatClampNeg (s2 &&& 1)) from ⟨h.1, ?_⟩)
  replace h := h.2
  refine RN_k (callX_det _) 3 _ _ _ _ (show kd (sI M a1 s1.toNatClampNeg (s2 &&& 1)) l0 10 ∧ R243 sl sx d M0 P 59 [some (vR (some l0)), some (vI l1), some (vI l2), some (vI l3)] [vR (mR (sI M a1 s1.toNatClampNeg (s2 &&& 1)) l0 45), vI l2, vR (mR (sI M a1 s1.toNatClampNeg (s2 &&& 1)) l0 45)] (sI M a1 s1.toNatClampNeg (s2 &&& 1)) from ⟨h.1, ?_⟩)
  replace h := h.2
  obtain ⟨a2, he, h⟩ := h
  refine RN_k (callX_det _) 1 _ _ _ _ (show R243 sl sx d M0 P 60 [some (vR (some l0)), some (vI l1), some (vI l2), some (vI l3)] [vI l1, vR (mR (sI M a1 s1.toNatClampNeg (s2 &&& 1)) l0 45), vI l2, vR (mR (sI M a1 s1.toNatClampNeg (s2 &&& 1)) l0 45)] (sI M a1 s1.toNatClampNeg (s2 &&& 1)) from ?_)
  rw [he]
  refine RN_k (callX_det _) 1 _ _ _ _ (show inb (sI M a1 s1.toNatClampNeg (s2 &&& 1)) a2 14 l1 ∧ R243 sl sx d M0 P 61 [some (vR (some l0)), some (vI l1), some (vI l2), some (vI l3)] [vI (mI (sI M a1 s1.toNatClampNeg (s2 &&& 1)) a2 l1.toNatClampNeg), vI l2, vR (some a2)] (sI M a1 s1.toNatClampNeg (s2 &&& 1)) from ⟨h.1, ?_⟩)
  replace h := h.2
  refine RN_k (callX_det _) 1 _ _ _ _ (show inb (sI M a1 s1.toNatClampNeg (s2 &&& 1)) a2 14 l2 ∧ R243 sl sx d M0 P 62 [some (vR (some l0)), some (vI l1), some (vI l2), some (vI l3)] [] (sI (sI M a1 s1.toNatClampNeg (s2 &&& 1)) a2 l2.toNatClampNeg ((mI (sI M a1 s1.toNatClampNeg (s2 &&& 1)) a2 l1.toNatClampNeg) &&& 1)) from ⟨h.1, ?_⟩)
  replace h := h.2
  exact RN_k (callX_det _) 2 _ _ _ _ (show rtW q243 M0 (PI P) (some (vI l3)) (sI (sI M a1 s1.toNatClampNeg (s2 &&& 1)) a2 l2.toNatClampNeg ((mI (sI M a1 s1.toNatClampNeg (s2 &&& 1)) a2 l1.toNatClampNeg) &&& 1)) from ⟨⟨_, rfl, h.1⟩, hM.1, hM.2, _, rfl, h.2⟩)
def w243_44 (l0 : Nat) (l1 : Int32) (l2 : Int32) (l3 : Int32) (s0 : Option Nat) (s1 : Int32) (M : MM) (P : Int32 → MM → Prop) : Prop := w243_49  l0 l1 l2 l3 s0 s1 (1 : Int32) M P
theorem t243_44 {sl : Nat} {sx : Nat → Int32} {d : Nat} {M0 : MM} {P : Int32 → MM → Prop} (l0 : Nat) (l1 : Int32) (l2 : Int32) (l3 : Int32) (s0 : Option Nat) (s1 : Int32) (M : MM) (hM : lenO M0 M) (h : w243_44  l0 l1 l2 l3 s0 s1 M P) : R243 sl sx d M0 P 44 [some (vR (some l0)), some (vI l1), some (vI l2), some (vI l3)] [vI s1, vR s0] M := by
  refine RN_k (callX_det _) 2 _ _ _ _ (show R243 sl sx d M0 P 49 [some (vR (some l0)), some (vI l1), some (vI l2), some (vI l3)] [vI (1 : Int32), vI s1, vR s0] M from ?_)
  exact RN_weak (K := [some (vR (some l0)), some (vI l1), some (vI l2), some (vI l3)]) (callX_det _) (show _ ∧ _ ∧ _ ∧ _ ∧ True from ⟨rfl, rfl, rfl, rfl, trivial⟩) (t243_49  l0 l1 l2 l3 s0 s1 (1 : Int32) _ hM h)
def w243_20 (l0 : Nat) (l1 : Int32) (l2 : Int32) (s0 : Int32) (M : MM) (P : Int32 → MM → Prop) : Prop := kd M l0 10 ∧ (kd M l0 10 ∧ (∃ a1, mR M l0 45 = some a1 ∧ (inb M a1 14 l1 ∧ (((mI M a1 l1.toNatClampNeg) ≠ 0 → (w243_44  l0 l1 l2 s0 (some a1) l1 M P)) ∧ (¬ ((mI M a1 l1.toNatClampNeg) ≠ 0) → (kd M l0 10 ∧ (∃ a2, mR M l0 45 = some a2 ∧ (inb M a2 14 l2 ∧ (((mI M a2 l2.toNatClampNeg) = 0 → (w243_49  l0 l1 l2 s0 (some a1) l1 (0 : Int32) M P)) ∧ (¬ ((mI M a2 l2.toNatClampNeg) = 0) → (w243_44  l0 l1 l2 s0 (some a1) l1 M P)))))))))))
theorem t243_20 {sl : Nat} {sx : Nat → Int32} {d : Nat} {M0 : MM} {P : Int32 → MM → Prop} (l0 : Nat) (l1 : Int32) (l2 : Int32) (s0 : Int32) (M : MM) (hM : lenO M0 M) (h : w243_20  l0 l1 l2 s0 M P) : R243 sl sx d M0 P 20 [some (vR (some l0)), some (vI l1), some (vI l2), none] [vI s0] M := by
  refine RN_k (callX_det _) 3 _ _ _ _ (show kd M l0 10 ∧ R243 sl sx d M0 P 25 [some (vR (some l0)), some (vI l1), some (vI l2), some (vI s0)] [vR (mR M l0 45)] M from ⟨h.1, ?_⟩)
  replace h := h.2
  refine RN_k (callX_det _) 3 _ _ _ _ (show kd M l0 10 ∧ R243 sl sx d M0 P 30 [some (vR (some l0)), some (vI l1), some (vI l2), some (vI s0)] [vR (mR M l0 45), vI l1, vR (mR M l0 45)] M from ⟨h.1, ?_⟩)
  replace h := h.2
  obtain ⟨a1, he, h⟩ := h
  refine RN_k (callX_det _) 1 _ _ _ _ (show R243 sl sx d M0 P 31 [some (vR (some l0)), some (vI l1), some (vI l2), some (vI s0)] [vI l1, vR (mR M l0 45), vI l1, vR (mR M l0 45)] M from ?_)
  rw [he]
  refine RN_k (callX_det _) 1 _ _ _ _ (show inb M a1 14 l1 ∧ R243 sl sx d M0 P 32 [some (vR (some l0)), some (vI l1), some (vI l2), some (vI s0)] [vI (mI M a1 l1.toNatClampNeg), vI l1, vR (some a1)] M from ⟨h.1, ?_⟩)
  replace h := h.2
  refine RN_k (callX_det _) 1 _ _ _ _ (show ((mI M a1 l1.toNatClampNeg) ≠ 0 → R243 sl sx d M0 P 44 [some (vR (some l0)), some (vI l1), some (vI l2), some (vI s0)] [vI l1, vR (some a1)] M) ∧ (¬ ((mI M a1 l1.toNatClampNeg) ≠ 0) → R243 sl sx d M0 P 35 [some (vR (some l0)), some (vI l1), some (vI l2), some (vI s0)] [vI l1, vR (some a1)] M) from ⟨fun hc => ?_, fun hc => ?_⟩)
  · replace h := h.1 hc
    exact RN_weak (K := [some (vR (some l0)), some (vI l1), some (vI l2), some (vI s0)]) (callX_det _) (show _ ∧ _ ∧ _ ∧ _ ∧ True from ⟨rfl, rfl, rfl, rfl, trivial⟩) (t243_44  l0 l1 l2 s0 (some a1) l1 _ hM h)
  · replace h := h.2 hc
    refine RN_k (callX_det _) 2 _ _ _ _ (show kd M l0 10 ∧ R243 sl sx d M0 P 39 [some (vR (some l0)), some (vI l1), some (vI l2), some (vI s0)] [vR (mR M l0 45), vI l1, vR (some a1)] M from ⟨h.1, ?_⟩)
    replace h := h.2
    obtain ⟨a2, he, h⟩ := h
    refine RN_k (callX_det _) 1 _ _ _ _ (show R243 sl sx d M0 P 40 [some (vR (some l0)), some (vI l1), some (vI l2), some (vI s0)] [vI l2, vR (mR M l0 45), vI l1, vR (some a1)] M from ?_)
    rw [he]
    refine RN_k (callX_det _) 1 _ _ _ _ (show inb M a2 14 l2 ∧ R243 sl sx d M0 P 41 [some (vR (some l0)), some (vI l1), some (vI l2), some (vI s0)] [vI (mI M a2 l2.toNatClampNeg), vI l1, vR (some a1)] M from ⟨h.1, ?_⟩)
    replace h := h.2
    refine RN_k (callX_det _) 1 _ _ _ _ (show ((mI M a2 l2.toNatClampNeg) = 0 → R243 sl sx d M0 P 48 [some (vR (some l0)), some (vI l1), some (vI l2), some (vI s0)] [vI l1, vR (some a1)] M) ∧ (¬ ((mI M a2 l2.toNatClampNeg) = 0) → R243 sl sx d M0 P 44 [some (vR (some l0)), some (vI l1), some (vI l2), some (vI s0)] [vI l1, vR (some a1)] M) from ⟨fun hc => ?_, fun hc => ?_⟩)
    · replace h := h.1 hc
      refine RN_k (callX_det _) 1 _ _ _ _ (show R243 sl sx d M0 P 49 [some (vR (some l0)), some (vI l1), some (vI l2), some (vI s0)] [vI (0 : Int32), vI l1, vR (some a1)] M from ?_)
      exact RN_weak (K := [some (vR (some l0)), some (vI l1), some (vI l2), some (vI s0)]) (callX_det _) (show _ ∧ _ ∧ _ ∧ _ ∧ True from ⟨rfl, rfl, rfl, rfl, trivial⟩) (t243_49  l0 l1 l2 s0 (some a1) l1 (0 : Int32) _ hM h)
    · replace h := h.2 hc
      exact RN_weak (K := [some (vR (some l0)), some (vI l1), some (vI l2), some (vI s0)]) (callX_det _) (show _ ∧ _ ∧ _ ∧ _ ∧ True from ⟨rfl, rfl, rfl, rfl, trivial⟩) (t243_44  l0 l1 l2 s0 (some a1) l1 _ hM h)
def w243 (l0 : Nat) (l1 : Int32) (l2 : Int32) (M : MM) (P : Int32 → MM → Prop) : Prop := kd M l0 10 ∧ (∃ a1, mR M l0 45 = some a1 ∧ (inb M a1 14 l1 ∧ (kd M l0 10 ∧ (∃ a2, mR M l0 45 = some a2 ∧ (inb M a2 14 l2 ∧ (((mI M a1 l1.toNatClampNeg) = (mI M a2 l2.toNatClampNeg) → (w243_20  l0 l1 l2 (0 : Int32) M P)) ∧ (¬ ((mI M a1 l1.toNatClampNeg) = (mI M a2 l2.toNatClampNeg)) → (w243_20  l0 l1 l2 (1 : Int32) M P))))))))
theorem t243_E {sl : Nat} {sx : Nat → Int32} {d : Nat} {M0 : MM} {P : Int32 → MM → Prop} (l0 : Nat) (l1 : Int32) (l2 : Int32) (M : MM) (hM : lenO M0 M) (h : w243  l0 l1 l2 M P) : R243 sl sx d M0 P 0 [some (vR (some l0)), some (vI l1), some (vI l2), none] [] M := by
  refine RN_k (callX_det _) 2 _ _ _ _ (show kd M l0 10 ∧ R243 sl sx d M0 P 4 [some (vR (some l0)), some (vI l1), some (vI l2), none] [vR (mR M l0 45)] M from ⟨h.1, ?_⟩)
  replace h := h.2
  obtain ⟨a1, he, h⟩ := h
  refine RN_k (callX_det _) 1 _ _ _ _ (show R243 sl sx d M0 P 5 [some (vR (some l0)), some (vI l1), some (vI l2), none] [vI l1, vR (mR M l0 45)] M from ?_)
  rw [he]
  refine RN_k (callX_det _) 1 _ _ _ _ (show inb M a1 14 l1 ∧ R243 sl sx d M0 P 6 [some (vR (some l0)), some (vI l1), some (vI l2), none] [vI (mI M a1 l1.toNatClampNeg)] M from ⟨h.1, ?_⟩)
  replace h := h.2
  refine RN_k (callX_det _) 2 _ _ _ _ (show kd M l0 10 ∧ R243 sl sx d M0 P 10 [some (vR (some l0)), some (vI l1), some (vI l2), none] [vR (mR M l0 45), vI (mI M a1 l1.toNatClampNeg)] M from ⟨h.1, ?_⟩)
  replace h := h.2
  obtain ⟨a2, he, h⟩ := h
  refine RN_k (callX_det _) 1 _ _ _ _ (show R243 sl sx d M0 P 11 [some (vR (some l0)), some (vI l1), some (vI l2), none] [vI l2, vR (mR M l0 45), vI (mI M a1 l1.toNatClampNeg)] M from ?_)
  rw [he]
  refine RN_k (callX_det _) 1 _ _ _ _ (show inb M a2 14 l2 ∧ R243 sl sx d M0 P 12 [some (vR (some l0)), some (vI l1), some (vI l2), none] [vI (mI M a2 l2.toNatClampNeg), vI (mI M a1 l1.toNatClampNeg)] M from ⟨h.1, ?_⟩)
  replace h := h.2
  refine RN_k (callX_det _) 1 _ _ _ _ (show ((mI M a1 l1.toNatClampNeg) = (mI M a2 l2.toNatClampNeg) → R243 sl sx d M0 P 19 [some (vR (some l0)), some (vI l1), some (vI l2), none] [] M) ∧ (¬ ((mI M a1 l1.toNatClampNeg) = (mI M a2 l2.toNatClampNeg)) → R243 sl sx d M0 P 15 [some (vR (some l0)), some (vI l1), some (vI l2), none] [] M) from ⟨fun hc => ?_, fun hc => ?_⟩)
  · replace h := h.1 hc
    refine RN_k (callX_det _) 1 _ _ _ _ (show R243 sl sx d M0 P 20 [some (vR (some l0)), some (vI l1), some (vI l2), none] [vI (0 : Int32)] M from ?_)
    exact RN_weak (K := [some (vR (some l0)), some (vI l1), some (vI l2), none]) (callX_det _) (show _ ∧ _ ∧ _ ∧ True from ⟨rfl, rfl, rfl, trivial⟩) (t243_20  l0 l1 l2 (0 : Int32) _ hM h)
  · replace h := h.2 hc
    refine RN_k (callX_det _) 2 _ _ _ _ (show R243 sl sx d M0 P 20 [some (vR (some l0)), some (vI l1), some (vI l2), none] [vI (1 : Int32)] M from ?_)
    exact RN_weak (K := [some (vR (some l0)), some (vI l1), some (vI l2), none]) (callX_det _) (show _ ∧ _ ∧ _ ∧ True from ⟨rfl, rfl, rfl, trivial⟩) (t243_20  l0 l1 l2 (1 : Int32) _ hM h)
theorem c243 {sl : Nat} {sx : Nat → Int32} {d : Nat} {l0 : Nat} {l1 : Int32} {l2 : Int32} {M : MM} {P : Int32 → MM → Prop} (h : w243 l0 l1 l2 M P) : callX TBg sl sx (d + 1) 243 [vR (some l0), vI l1, vI l2] M (PI P) :=
  cX (d := d + 0) q243 (false, tb243) rfl rfl rfl (t243_E l0 l1 l2 M lenR h)
-- TwoLeashModel.isWeak()Z
abbrev q242 : MQ7 := (1, 1, 4, 10, 0, 0, 4)
abbrev R242 (sl : Nat) (sx : Nat → Int32) (d : Nat) (M0 : MM) (P : Int32 → MM → Prop) : Nat → LL → List VV → MM → Prop := RN 10 false (mS M0).length (mT M0) 0 0 sl sx (callX TBg sl sx (d + 7)) (rtW q242 M0 (PI P)) (as2 tb242)
def w242_184 (k35 : Nat → Int32 → MM → Prop) (k43 : Nat → Int32 → Int32 → MM → Prop) (k55 : Nat → Int32 → Int32 → Int32 → MM → Prop) (l0 : Nat) (l1 : Int32) (l2 : Int32) (l3 : Int32) (M : MM) (P : Int32 → MM → Prop) : Prop := k55 l0 l1 l2 (l3 + (1 : Int32)) M
theorem t242_184 {sl : Nat} {sx : Nat → Int32} {d : Nat} {M0 : MM} {P : Int32 → MM → Prop} {k35 : Nat → Int32 → MM → Prop} {k43 : Nat → Int32 → Int32 → MM → Prop} {k55 : Nat → Int32 → Int32 → Int32 → MM → Prop} (hk35 : ∀ (l0 : Nat) (l1 : Int32) (M : MM), lenO M0 M → k35 l0 l1 M → R242 sl sx d M0 P 35 [some (vR (some l0)), some (vI l1), none, none] [] M) (hk43 : ∀ (l0 : Nat) (l1 : Int32) (l2 : Int32) (M : MM), lenO M0 M → k43 l0 l1 l2 M → R242 sl sx d M0 P 43 [some (vR (some l0)), some (vI l1), some (vI l2), none] [] M) (hk55 : ∀ (l0 : Nat) (l1 : Int32) (l2 : Int32) (l3 : Int32) (M : MM), lenO M0 M → k55 l0 l1 l2 l3 M → R242 sl sx d M0 P 55 [some (vR (some l0)), some (vI l1), some (vI l2), some (vI l3)] [] M) (l0 : Nat) (l1 : Int32) (l2 : Int32) (l3 : Int32) (M : MM) (hM : lenO M0 M) (h : w242_184 k35 k43 k55 l0 l1 l2 l3 M P) : R242 sl sx d M0 P 184 [some (vR (some l0)), some (vI l1), some (vI l2), some (vI l3)] [] M := by
  refine RN_k (callX_det _) 2 _ _ _ _ (show R242 sl sx d M0 P 55 [some (vR (some l0)), some (vI l1), some (vI l2), some (vI (l3 + (1 : Int32)))] [] M from ?_)
  exact RN_weak (K := [some (vR (some l0)), some (vI l1), some (vI l2), some (vI (l3 + (1 : Int32)))]) (callX_det _) (show _ ∧ _ ∧ _ ∧ _ ∧ True from ⟨rfl, rfl, rfl, rfl, trivial⟩) (hk55 l0 l1 l2 (l3 + (1 : Int32)) _ hM h)
def w242_183 (k35 : Nat → Int32 → MM → Prop) (k43 : Nat → Int32 → Int32 → MM → Prop) (k55 : Nat → Int32 → Int32 → Int32 → MM → Prop) (l0 : Nat) (l2 : Int32) (l3 : Int32) (s0 : Int32) (M : MM) (P : Int32 → MM → Prop) : Prop := w242_184 k35 k43 k55 l0 s0 l2 l3 M P
theorem t242_183 {sl : Nat} {sx : Nat → Int32} {d : Nat} {M0 : MM} {P : Int32 → MM → Prop} {k35 : Nat → Int32 → MM → Prop} {k43 : Nat → Int32 → Int32 → MM → Prop} {k55 : Nat → Int32 → Int32 → Int32 → MM → Prop} (hk35 : ∀ (l0 : Nat) (l1 : Int32) (M : MM), lenO M0 M → k35 l0 l1 M → R242 sl sx d M0 P 35 [some (vR (some l0)), some (vI l1), none, none] [] M) (hk43 : ∀ (l0 : Nat) (l1 : Int32) (l2 : Int32) (M : MM), lenO M0 M → k43 l0 l1 l2 M → R242 sl sx d M0 P 43 [some (vR (some l0)), some (vI l1), some (vI l2), none] [] M) (hk55 : ∀ (l0 : Nat) (l1 : Int32) (l2 : Int32) (l3 : Int32) (M : MM), lenO M0 M → k55 l0 l1 l2 l3 M → R242 sl sx d M0 P 55 [some (vR (some l0)), some (vI l1), some (vI l2), some (vI l3)] [] M) (l0 : Nat) (l2 : Int32) (l3 : Int32) (s0 : Int32) (M : MM) (hM : lenO M0 M) (h : w242_183 k35 k43 k55 l0 l2 l3 s0 M P) : R242 sl sx d M0 P 183 [some (vR (some l0)), none, some (vI l2), some (vI l3)] [vI s0] M := by
  refine RN_k (callX_det _) 1 _ _ _ _ (show R242 sl sx d M0 P 184 [some (vR (some l0)), some (vI s0), some (vI l2), some (vI l3)] [] M from ?_)
  exact RN_weak (K := [some (vR (some l0)), some (vI s0), some (vI l2), some (vI l3)]) (callX_det _) (show _ ∧ _ ∧ _ ∧ _ ∧ True from ⟨rfl, rfl, rfl, rfl, trivial⟩) (t242_184 hk35 hk43 hk55 l0 s0 l2 l3 _ hM h)
def w242_178 (k35 : Nat → Int32 → MM → Prop) (k43 : Nat → Int32 → Int32 → MM → Prop) (k55 : Nat → Int32 → Int32 → Int32 → MM → Prop) (l0 : Nat) (l2 : Int32) (l3 : Int32) (M : MM) (P : Int32 → MM → Prop) : Prop := w242_183 k35 k43 k55 l0 l2 l3 (1 : Int32) M P
theorem t242_178 {sl : Nat} {sx : Nat → Int32} {d : Nat} {M0 : MM} {P : Int32 → MM → Prop} {k35 : Nat → Int32 → MM → Prop} {k43 : Nat → Int32 → Int32 → MM → Prop} {k55 : Nat → Int32 → Int32 → Int32 → MM → Prop} (hk35 : ∀ (l0 : Nat) (l1 : Int32) (M : MM), lenO M0 M → k35 l0 l1 M → R242 sl sx d M0 P 35 [some (vR (some l0)), some (vI l1), none, none] [] M) (hk43 : ∀ (l0 : Nat) (l1 : Int32) (l2 : Int32) (M : MM), lenO M0 M → k43 l0 l1 l2 M → R242 sl sx d M0 P 43 [some (vR (some l0)), some (vI l1), some (vI l2), none] [] M) (hk55 : ∀ (l0 : Nat) (l1 : Int32) (l2 : Int32) (l3 : Int32) (M : MM), lenO M0 M → k55 l0 l1 l2 l3 M → R242 sl sx d M0 P 55 [some (vR (some l0)), some (vI l1), some (vI l2), some (vI l3)] [] M) (l0 : Nat) (l2 : Int32) (l3 : Int32) (M : MM) (hM : lenO M0 M) (h : w242_178 k35 k43 k55 l0 l2 l3 M P) : R242 sl sx d M0 P 178 [some (vR (some l0)), none, some (vI l2), some (vI l3)] [] M := by
  refine RN_k (callX_det _) 2 _ _ _ _ (show R242 sl sx d M0 P 183 [some (vR (some l0)), none, some (vI l2), some (vI l3)] [vI (1 : Int32)] M from ?_)
  exact RN_weak (K := [some (vR (some l0)), none, some (vI l2), some (vI l3)]) (callX_det _) (show _ ∧ _ ∧ _ ∧ True from ⟨rfl, rfl, rfl, trivial⟩) (t242_183 hk35 hk43 hk55 l0 l2 l3 (1 : Int32) _ hM h)
def w242_125 (k35 : Nat → Int32 → MM → Prop) (k43 : Nat → Int32 → Int32 → MM → Prop) (k55 : Nat → Int32 → Int32 → Int32 → MM → Prop) (l0 : Nat) (l1 : Int32) (l2 : Int32) (l3 : Int32) (M : MM) (P : Int32 → MM → Prop) : Prop := kd M l0 10 ∧ ((((mI M l0 28) - (1 : Int32)) ≤ (l3 + (1 : Int32)) → (w242_184 k35 k43 k55 l0 l1 l2 l3 M P)) ∧ (¬ (((mI M l0 28) - (1 : Int32)) ≤ (l3 + (1 : Int32))) → (kd M l0 10 ∧ (w218 (0 : Int32) l2 (l3 + (1 : Int32)) M (fun r2 M1 => ∃ a3, mR M l0 34 = some a3 ∧ (inb M1 a3 14 r2 ∧ (((mI M1 a3 r2.toNatClampNeg) = 0 → (w242_184 k35 k43 k55 l0 l1 l2 l3 M1 P)) ∧ (¬ ((mI M1 a3 r2.toNatClampNeg) = 0) → (kd M1 l0 10 ∧ w243 l0 (((8 : Int32) * l2) + l3) ((((8 : Int32) * l2) + l3) + (1 : Int32)) M1 (fun r5 M4 => (r5 ≠ 0 → (w242_178 k35 k43 k55 l0 l2 l3 M4 P)) ∧ (¬ (r5 ≠ 0) → ((l1 = 0 → (w242_183 k35 k43 k55 l0 l2 l3 (0 : Int32) M4 P)) ∧ (¬ (l1 = 0) → (w242_178 k35 k43 k55 l0 l2 l3 M4 P))))))))))))))
theorem t242_125 {sl : Nat} {sx : Nat → Int32} {d : Nat} {M0 : MM} {P : Int32 → MM → Prop} {k35 : Nat → Int32 → MM → Prop} {k43 : Nat → Int32 → Int32 → MM → Prop} {k55 : Nat → Int32 → Int32 → Int32 → MM → Prop} (hk35 : ∀ (l0 : Nat) (l1 : Int32) (M : MM), lenO M0 M → k35 l0 l1 M → R242 sl sx d M0 P 35 [some (vR (some l0)), some (vI l1), none, none] [] M) (hk43 : ∀ (l0 : Nat) (l1 : Int32) (l2 : Int32) (M : MM), lenO M0 M → k43 l0 l1 l2 M → R242 sl sx d M0 P 43 [some (vR (some l0)), some (vI l1), some (vI l2), none] [] M) (hk55 : ∀ (l0 : Nat) (l1 : Int32) (l2 : Int32) (l3 : Int32) (M : MM), lenO M0 M → k55 l0 l1 l2 l3 M → R242 sl sx d M0 P 55 [some (vR (some l0)), some (vI l1), some (vI l2), some (vI l3)] [] M) (l0 : Nat) (l1 : Int32) (l2 : Int32) (l3 : Int32) (M : MM) (hM : lenO M0 M) (h : w242_125 k35 k43 k55 l0 l1 l2 l3 M P) : R242 sl sx d M0 P 125 [some (vR (some l0)), some (vI l1), some (vI l2), some (vI l3)] [] M := by
  refine RN_k (callX_det _) 5 _ _ _ _ (show kd M l0 10 ∧ R242 sl sx d M0 P 132 [some (vR (some l0)), some (vI l1), some (vI l2), some (vI l3)] [vI (mI M l0 28), vI (l3 + (1 : Int32))] M from ⟨h.1, ?_⟩)
  replace h := h.2
  refine RN_k (callX_det _) 3 _ _ _ _ (show (((mI M l0 28) - (1 : Int32)) ≤ (l3 + (1 : Int32)) → R242 sl sx d M0 P 184 [some (vR (some l0)), some (vI l1), some (vI l2), some (vI l3)] [] M) ∧ (¬ (((mI M l0 28) - (1 : Int32)) ≤ (l3 + (1 : Int32))) → R242 sl sx d M0 P 137 [some (vR (some l0)), some (vI l1), some (vI l2), some (vI l3)] [] M) from ⟨fun hc => ?_, fun hc => ?_⟩)
  · replace h := h.1 hc
    exact RN_weak (K := [some (vR (some l0)), some (vI l1), some (vI l2), some (vI l3)]) (callX_det _) (show _ ∧ _ ∧ _ ∧ _ ∧ True from ⟨rfl, rfl, rfl, rfl, trivial⟩) (t242_184 hk35 hk43 hk55 l0 l1 l2 l3 _ hM h)
  · replace h := h.2 hc
    refine RN_k (callX_det _) 2 _ _ _ _ (show kd M l0 10 ∧ R242 sl sx d M0 P 141 [some (vR (some l0)), some (vI l1), some (vI l2), some (vI l3)] [vR (mR M l0 34)] M from ⟨h.1, ?_⟩)
    replace h := h.2
    refine RN_k (callX_det _) 6 _ _ _ _ (show callX TBg sl sx (d + 7) 218 [vI (0 : Int32), vI l2, vI (l3 + (1 : Int32))] M (fun v M9 => R242 sl sx d M0 P 149 [some (vR (some l0)), some (vI l1), some (vI l2), some (vI l3)] (pushO v [vR (mR M l0 34)]) M9) from ?_)
    refine callX_mono (callX_len (d := (d + 7)) rfl rfl rfl (c218 (d := d + 6) h)) ?_
    clear h
    rintro v9 M1 ⟨hl, r2, rfl, h⟩
    replace hM := lenT hM hl
    show R242 sl sx d M0 P 149 [some (vR (some l0)), some (vI l1), some (vI l2), some (vI l3)] [vI r2, vR (mR M l0 34)] M1
    obtain ⟨a3, he, h⟩ := h
    rw [he]
    refine RN_k (callX_det _) 1 _ _ _ _ (show inb M1 a3 14 r2 ∧ R242 sl sx d M0 P 150 [some (vR (some l0)), some (vI l1), some (vI l2), some (vI l3)] [vI (mI M1 a3 r2.toNatClampNeg)] M1 from ⟨h.1, ?_⟩)
    replace h := h.2
    refine RN_k (callX_det _) 1 _ _ _ _ (show ((mI M1 a3 r2.toNatClampNeg) = 0 → R242 sl sx d M0 P 184 [some (vR (some l0)), some (vI l1), some (vI l2), some (vI l3)] [] M1) ∧ (¬ ((mI M1 a3 r2.toNatClampNeg) = 0) → R242 sl sx d M0 P 153 [some (vR (some l0)), some (vI l1), some (vI l2), some (vI l3)] [] M1) from ⟨fun hc => ?_, fun hc => ?_⟩)
    · replace h := h.1 hc
      exact RN_weak (K := [some (vR (some l0)), some (vI l1), some (vI l2), some (vI l3)]) (callX_det _) (show _ ∧ _ ∧ _ ∧ _ ∧ True from ⟨rfl, rfl, rfl, rfl, trivial⟩) (t242_184 hk35 hk43 hk55 l0 l1 l2 l3 _ hM h)
    · replace h := h.2 hc
      refine RN_k (callX_det _) 14 _ _ _ _ (show kd M1 l0 10 ∧ callX TBg sl sx (d + 7) 243 [vR (some l0), vI (((8 : Int32) * l2) + l3), vI ((((8 : Int32) * l2) + l3) + (1 : Int32))] M1 (fun v M9 => R242 sl sx d M0 P 171 [some (vR (some l0)), some (vI l1), some (vI l2), some (vI l3)] (pushO v []) M9) from ⟨h.1, ?_⟩)
      replace h := h.2
      refine callX_mono (callX_len (d := (d + 7)) rfl rfl rfl (c243 (d := d + 6) h)) ?_
      clear h
      rintro v9 M4 ⟨hl, r5, rfl, h⟩
      replace hM := lenT hM hl
      show R242 sl sx d M0 P 171 [some (vR (some l0)), some (vI l1), some (vI l2), some (vI l3)] [vI r5] M4
      refine RN_k (callX_det _) 1 _ _ _ _ (show (r5 ≠ 0 → R242 sl sx d M0 P 178 [some (vR (some l0)), some (vI l1), some (vI l2), some (vI l3)] [] M4) ∧ (¬ (r5 ≠ 0) → R242 sl sx d M0 P 174 [some (vR (some l0)), some (vI l1), some (vI l2), some (vI l3)] [] M4) from ⟨fun hc => ?_, fun hc => ?_⟩)
      · replace h := h.1 hc
        exact RN_weak (K := [some (vR (some l0)), none, some (vI l2), some (vI l3)]) (callX_det _) (show _ ∧ _ ∧ _ ∧ True from ⟨rfl, rfl, rfl, trivial⟩) (t242_178 hk35 hk43 hk55 l0 l2 l3 _ hM h)
      · replace h := h.2 hc
        refine RN_k (callX_det _) 2 _ _ _ _ (show (l1 = 0 → R242 sl sx d M0 P 182 [some (vR (some l0)), some (vI l1), some (vI l2), some (vI l3)] [] M4) ∧ (¬ (l1 = 0) → R242 sl sx d M0 P 178 [some (vR (some l0)), some (vI l1), some (vI l2), some (vI l3)] [] M4) from ⟨fun hc => ?_, fun hc => ?_⟩)
        · replace h := h.1 hc
          refine RN_k (callX_det _) 1 _ _ _ _ (show R242 sl sx d M0 P 183 [some (vR (some l0)), some (vI l1), some (vI l2), some (vI l3)] [vI (0 : Int32)] M4 from ?_)
          exact RN_weak (K := [some (vR (some l0)), none, some (vI l2), some (vI l3)]) (callX_det _) (show _ ∧ _ ∧ _ ∧ True from ⟨rfl, rfl, rfl, trivial⟩) (t242_183 hk35 hk43 hk55 l0 l2 l3 (0 : Int32) _ hM h)
        · replace h := h.2 hc
          exact RN_weak (K := [some (vR (some l0)), none, some (vI l2), some (vI l3)]) (callX_det _) (show _ ∧ _ ∧ _ ∧ True from ⟨rfl, rfl, rfl, trivial⟩) (t242_178 hk35 hk43 hk55 l0 l2 l3 _ hM h)
def w242_124 (k35 : Nat → Int32 → MM → Prop) (k43 : Nat → Int32 → Int32 → MM → Prop) (k55 : Nat → Int32 → Int32 → Int32 → MM → Prop) (l0 : Nat) (l2 : Int32) (l3 : Int32) (s0 : Int32) (M : MM) (P : Int32 → MM → Prop) : Prop := w242_125 k35 k43 k55 l0 s0 l2 l3 M P
theorem t242_124 {sl : Nat} {sx : Nat → Int32} {d : Nat} {M0 : MM} {P : Int32 → MM → Prop} {k35 : Nat → Int32 → MM → Prop} {k43 : Nat → Int32 → Int32 → MM → Prop} {k55 : Nat → Int32 → Int32 → Int32 → MM → Prop} (hk35 : ∀ (l0 : Nat) (l1 : Int32) (M : MM), lenO M0 M → k35 l0 l1 M → R242 sl sx d M0 P 35 [some (vR (some l0)), some (vI l1), none, none] [] M) (hk43 : ∀ (l0 : Nat) (l1 : Int32) (l2 : Int32) (M : MM), lenO M0 M → k43 l0 l1 l2 M → R242 sl sx d M0 P 43 [some (vR (some l0)), some (vI l1), some (vI l2), none] [] M) (hk55 : ∀ (l0 : Nat) (l1 : Int32) (l2 : Int32) (l3 : Int32) (M : MM), lenO M0 M → k55 l0 l1 l2 l3 M → R242 sl sx d M0 P 55 [some (vR (some l0)), some (vI l1), some (vI l2), some (vI l3)] [] M) (l0 : Nat) (l2 : Int32) (l3 : Int32) (s0 : Int32) (M : MM) (hM : lenO M0 M) (h : w242_124 k35 k43 k55 l0 l2 l3 s0 M P) : R242 sl sx d M0 P 124 [some (vR (some l0)), none, some (vI l2), some (vI l3)] [vI s0] M := by
  refine RN_k (callX_det _) 1 _ _ _ _ (show R242 sl sx d M0 P 125 [some (vR (some l0)), some (vI s0), some (vI l2), some (vI l3)] [] M from ?_)
  exact RN_weak (K := [some (vR (some l0)), some (vI s0), some (vI l2), some (vI l3)]) (callX_det _) (show _ ∧ _ ∧ _ ∧ _ ∧ True from ⟨rfl, rfl, rfl, rfl, trivial⟩) (t242_125 hk35 hk43 hk55 l0 s0 l2 l3 _ hM h)
def w242_119 (k35 : Nat → Int32 → MM → Prop) (k43 : Nat → Int32 → Int32 → MM → Prop) (k55 : Nat → Int32 → Int32 → Int32 → MM → Prop) (l0 : Nat) (l2 : Int32) (l3 : Int32) (M : MM) (P : Int32 → MM → Prop) : Prop := w242_124 k35 k43 k55 l0 l2 l3 (1 : Int32) M P
theorem t242_119 {sl : Nat} {sx : Nat → Int32} {d : Nat} {M0 : MM} {P : Int32 → MM → Prop} {k35 : Nat → Int32 → MM → Prop} {k43 : Nat → Int32 → Int32 → MM → Prop} {k55 : Nat → Int32 → Int32 → Int32 → MM → Prop} (hk35 : ∀ (l0 : Nat) (l1 : Int32) (M : MM), lenO M0 M → k35 l0 l1 M → R242 sl sx d M0 P 35 [some (vR (some l0)), some (vI l1), none, none] [] M) (hk43 : ∀ (l0 : Nat) (l1 : Int32) (l2 : Int32) (M : MM), lenO M0 M → k43 l0 l1 l2 M → R242 sl sx d M0 P 43 [some (vR (some l0)), some (vI l1), some (vI l2), none] [] M) (hk55 : ∀ (l0 : Nat) (l1 : Int32) (l2 : Int32) (l3 : Int32) (M : MM), lenO M0 M → k55 l0 l1 l2 l3 M → R242 sl sx d M0 P 55 [some (vR (some l0)), some (vI l1), some (vI l2), some (vI l3)] [] M) (l0 : Nat) (l2 : Int32) (l3 : Int32) (M : MM) (hM : lenO M0 M) (h : w242_119 k35 k43 k55 l0 l2 l3 M P) : R242 sl sx d M0 P 119 [some (vR (some l0)), none, some (vI l2), some (vI l3)] [] M := by
  refine RN_k (callX_det _) 2 _ _ _ _ (show R242 sl sx d M0 P 124 [some (vR (some l0)), none, some (vI l2), some (vI l3)] [vI (1 : Int32)] M from ?_)
  exact RN_weak (K := [some (vR (some l0)), none, some (vI l2), some (vI l3)]) (callX_det _) (show _ ∧ _ ∧ _ ∧ True from ⟨rfl, rfl, rfl, trivial⟩) (t242_124 hk35 hk43 hk55 l0 l2 l3 (1 : Int32) _ hM h)
def w242_55 (k35 : Nat → Int32 → MM → Prop) (k43 : Nat → Int32 → Int32 → MM → Prop) : Nat → Nat → Int32 → Int32 → Int32 → MM → (Int32 → MM → Prop) → Prop
  | 0 => fun _ _ _ _ _ _ => False
  | n + 1 => fun l0 l1 l2 l3 M P => kd M l0 10 ∧ ((((mI M l0 28) - (1 : Int32)) ≤ l3 → (k43 l0 l1 (l2 + (1 : Int32)) M)) ∧ (¬ (((mI M l0 28) - (1 : Int32)) ≤ l3) → (kd M l0 10 ∧ ((((mI M l0 27) - (1 : Int32)) ≤ (l2 + (1 : Int32)) → (w242_125 k35 k43 (fun z0 z1 z2 z3 z4 => w242_55 k35 k43 n z0 z1 z2 z3 z4 P) l0 l1 l2 l3 M P)) ∧ (¬ (((mI M l0 27) - (1 : Int32)) ≤ (l2 + (1 : Int32))) → (kd M l0 10 ∧ (w218 (1 : Int32) (l2 + (1 : Int32)) l3 M (fun r2 M1 => ∃ a3, mR M l0 34 = some a3 ∧ (inb M1 a3 14 r2 ∧ (((mI M1 a3 r2.toNatClampNeg) = 0 → (w242_125 k35 k43 (fun z0 z1 z2 z3 z4 => w242_55 k35 k43 n z0 z1 z2 z3 z4 P) l0 l1 l2 l3 M1 P)) ∧ (¬ ((mI M1 a3 r2.toNatClampNeg) = 0) → (kd M1 l0 10 ∧ w243 l0 (((8 : Int32) * l2) + l3) ((((8 : Int32) * l2) + (8 : Int32)) + l3) M1 (fun r5 M4 => (r5 ≠ 0 → (w242_119 k35 k43 (fun z0 z1 z2 z3 z4 => w242_55 k35 k43 n z0 z1 z2 z3 z4 P) l0 l2 l3 M4 P)) ∧ (¬ (r5 ≠ 0) → ((l1 = 0 → (w242_124 k35 k43 (fun z0 z1 z2 z3 z4 => w242_55 k35 k43 n z0 z1 z2 z3 z4 P) l0 l2 l3 (0 : Int32) M4 P)) ∧ (¬ (l1 = 0) → (w242_119 k35 k43 (fun z0 z1 z2 z3 z4 => w242_55 k35 k43 n z0 z1 z2 z3 z4 P) l0 l2 l3 M4 P)))))))))))))))))
theorem t242_55 {sl : Nat} {sx : Nat → Int32} {d : Nat} {M0 : MM} {P : Int32 → MM → Prop} {k35 : Nat → Int32 → MM → Prop} {k43 : Nat → Int32 → Int32 → MM → Prop} (hk35 : ∀ (l0 : Nat) (l1 : Int32) (M : MM), lenO M0 M → k35 l0 l1 M → R242 sl sx d M0 P 35 [some (vR (some l0)), some (vI l1), none, none] [] M) (hk43 : ∀ (l0 : Nat) (l1 : Int32) (l2 : Int32) (M : MM), lenO M0 M → k43 l0 l1 l2 M → R242 sl sx d M0 P 43 [some (vR (some l0)), some (vI l1), some (vI l2), none] [] M) (n : Nat) : ∀ (l0 : Nat) (l1 : Int32) (l2 : Int32) (l3 : Int32) (M : MM) (_ : lenO M0 M) (_ : w242_55 k35 k43 n l0 l1 l2 l3 M P), R242 sl sx d M0 P 55 [some (vR (some l0)), some (vI l1), some (vI l2), some (vI l3)] [] M := by
  induction n with
  | zero => intro l0 l1 l2 l3 M hM h; cases h
  | succ n ih =>
    intro l0 l1 l2 l3 M hM h
    refine RN_k (callX_det _) 3 _ _ _ _ (show kd M l0 10 ∧ R242 sl sx d M0 P 60 [some (vR (some l0)), some (vI l1), some (vI l2), some (vI l3)] [vI (mI M l0 28), vI l3] M from ⟨h.1, ?_⟩)
    replace h := h.2
    refine RN_k (callX_det _) 3 _ _ _ _ (show (((mI M l0 28) - (1 : Int32)) ≤ l3 → R242 sl sx d M0 P 190 [some (vR (some l0)), some (vI l1), some (vI l2), some (vI l3)] [] M) ∧ (¬ (((mI M l0 28) - (1 : Int32)) ≤ l3) → R242 sl sx d M0 P 65 [some (vR (some l0)), some (vI l1), some (vI l2), some (vI l3)] [] M) from ⟨fun hc => ?_, fun hc => ?_⟩)
    · replace h := h.1 hc
      refine RN_k (callX_det _) 2 _ _ _ _ (show R242 sl sx d M0 P 43 [some (vR (some l0)), some (vI l1), some (vI (l2 + (1 : Int32))), some (vI l3)] [] M from ?_)
      exact RN_weak (K := [some (vR (some l0)), some (vI l1), some (vI (l2 + (1 : Int32))), none]) (callX_det _) (show _ ∧ _ ∧ _ ∧ True from ⟨rfl, rfl, rfl, trivial⟩) (hk43 l0 l1 (l2 + (1 : Int32)) _ hM h)
    · replace h := h.2 hc
      refine RN_k (callX_det _) 5 _ _ _ _ (show kd M l0 10 ∧ R242 sl sx d M0 P 72 [some (vR (some l0)), some (vI l1), some (vI l2), some (vI l3)] [vI (mI M l0 27), vI (l2 + (1 : Int32))] M from ⟨h.1, ?_⟩)
      replace h := h.2
      refine RN_k (callX_det _) 3 _ _ _ _ (show (((mI M l0 27) - (1 : Int32)) ≤ (l2 + (1 : Int32)) → R242 sl sx d M0 P 125 [some (vR (some l0)), some (vI l1), some (vI l2), some (vI l3)] [] M) ∧ (¬ (((mI M l0 27) - (1 : Int32)) ≤ (l2 + (1 : Int32))) → R242 sl sx d M0 P 77 [some (vR (some l0)), some (vI l1), some (vI l2), some (vI l3)] [] M) from ⟨fun hc => ?_, fun hc => ?_⟩)
      · replace h := h.1 hc
        exact RN_weak (K := [some (vR (some l0)), some (vI l1), some (vI l2), some (vI l3)]) (callX_det _) (show _ ∧ _ ∧ _ ∧ _ ∧ True from ⟨rfl, rfl, rfl, rfl, trivial⟩) (t242_125 hk35 hk43 ih l0 l1 l2 l3 _ hM h)
      · replace h := h.2 hc
        refine RN_k (callX_det _) 2 _ _ _ _ (show kd M l0 10 ∧ R242 sl sx d M0 P 81 [some (vR (some l0)), some (vI l1), some (vI l2), some (vI l3)] [vR (mR M l0 34)] M from ⟨h.1, ?_⟩)
        replace h := h.2
        refine RN_k (callX_det _) 6 _ _ _ _ (show callX TBg sl sx (d + 7) 218 [vI (1 : Int32), vI (l2 + (1 : Int32)), vI l3] M (fun v M9 => R242 sl sx d M0 P 89 [some (vR (some l0)), some (vI l1), some (vI l2), some (vI l3)] (pushO v [vR (mR M l0 34)]) M9) from ?_)
        refine callX_mono (callX_len (d := (d + 7)) rfl rfl rfl (c218 (d := d + 6) h)) ?_
        clear h
        rintro v9 M1 ⟨hl, r2, rfl, h⟩
        replace hM := lenT hM hl
        show R242 sl sx d M0 P 89 [some (vR (some l0)), some (vI l1), some (vI l2), some (vI l3)] [vI r2, vR (mR M l0 34)] M1
        obtain ⟨a3, he, h⟩ := h
        rw [he]
        refine RN_k (callX_det _) 1 _ _ _ _ (show inb M1 a3 14 r2 ∧ R242 sl sx d M0 P 90 [some (vR (some l0)), some (vI l1), some (vI l2), some (vI l3)] [vI (mI M1 a3 r2.toNatClampNeg)] M1 from ⟨h.1, ?_⟩)
        replace h := h.2
        refine RN_k (callX_det _) 1 _ _ _ _ (show ((mI M1 a3 r2.toNatClampNeg) = 0 → R242 sl sx d M0 P 125 [some (vR (some l0)), some (vI l1), some (vI l2), some (vI l3)] [] M1) ∧ (¬ ((mI M1 a3 r2.toNatClampNeg) = 0) → R242 sl sx d M0 P 93 [some (vR (some l0)), some (vI l1), some (vI l2), some (vI l3)] [] M1) from ⟨fun hc => ?_, fun hc => ?_⟩)
        · replace h := h.1 hc
          exact RN_weak (K := [some (vR (some l0)), some (vI l1), some (vI l2), some (vI l3)]) (callX_det _) (show _ ∧ _ ∧ _ ∧ _ ∧ True from ⟨rfl, rfl, rfl, rfl, trivial⟩) (t242_125 hk35 hk43 ih l0 l1 l2 l3 _ hM h)
        · replace h := h.2 hc
          refine RN_k (callX_det _) 14 _ _ _ _ (show kd M1 l0 10 ∧ callX TBg sl sx (d + 7) 243 [vR (some l0), vI (((8 : Int32) * l2) + l3), vI ((((8 : Int32) * l2) + (8 : Int32)) + l3)] M1 (fun v M9 => R242 sl sx d M0 P 112 [some (vR (some l0)), some (vI l1), some (vI l2), some (vI l3)] (pushO v []) M9) from ⟨h.1, ?_⟩)
          replace h := h.2
          refine callX_mono (callX_len (d := (d + 7)) rfl rfl rfl (c243 (d := d + 6) h)) ?_
          clear h
          rintro v9 M4 ⟨hl, r5, rfl, h⟩
          replace hM := lenT hM hl
          show R242 sl sx d M0 P 112 [some (vR (some l0)), some (vI l1), some (vI l2), some (vI l3)] [vI r5] M4
          refine RN_k (callX_det _) 1 _ _ _ _ (show (r5 ≠ 0 → R242 sl sx d M0 P 119 [some (vR (some l0)), some (vI l1), some (vI l2), some (vI l3)] [] M4) ∧ (¬ (r5 ≠ 0) → R242 sl sx d M0 P 115 [some (vR (some l0)), some (vI l1), some (vI l2), some (vI l3)] [] M4) from ⟨fun hc => ?_, fun hc => ?_⟩)
          · replace h := h.1 hc
            exact RN_weak (K := [some (vR (some l0)), none, some (vI l2), some (vI l3)]) (callX_det _) (show _ ∧ _ ∧ _ ∧ True from ⟨rfl, rfl, rfl, trivial⟩) (t242_119 hk35 hk43 ih l0 l2 l3 _ hM h)
          · replace h := h.2 hc
            refine RN_k (callX_det _) 2 _ _ _ _ (show (l1 = 0 → R242 sl sx d M0 P 123 [some (vR (some l0)), some (vI l1), some (vI l2), some (vI l3)] [] M4) ∧ (¬ (l1 = 0) → R242 sl sx d M0 P 119 [some (vR (some l0)), some (vI l1), some (vI l2), some (vI l3)] [] M4) from ⟨fun hc => ?_, fun hc => ?_⟩)
            · replace h := h.1 hc
              refine RN_k (callX_det _) 1 _ _ _ _ (show R242 sl sx d M0 P 124 [some (vR (some l0)), some (vI l1), some (vI l2), some (vI l3)] [vI (0 : Int32)] M4 from ?_)
              exact RN_weak (K := [some (vR (some l0)), none, some (vI l2), some (vI l3)]) (callX_det _) (show _ ∧ _ ∧ _ ∧ True from ⟨rfl, rfl, rfl, trivial⟩) (t242_124 hk35 hk43 ih l0 l2 l3 (0 : Int32) _ hM h)
            · replace h := h.2 hc
              exact RN_weak (K := [some (vR (some l0)), none, some (vI l2), some (vI l3)]) (callX_det _) (show _ ∧ _ ∧ _ ∧ True from ⟨rfl, rfl, rfl, trivial⟩) (t242_119 hk35 hk43 ih l0 l2 l3 _ hM h)
def w242_43 (k35 : Nat → Int32 → MM → Prop) : Nat → Nat → Int32 → Int32 → MM → (Int32 → MM → Prop) → Prop
  | 0 => fun _ _ _ _ _ => False
  | n + 1 => fun l0 l1 l2 M P => kd M l0 10 ∧ ((((mI M l0 27) - (1 : Int32)) ≤ l2 → (k35 l0 l1 M)) ∧ (¬ (((mI M l0 27) - (1 : Int32)) ≤ l2) → (∃ n2, w242_55 k35 (fun z0 z1 z2 z3 => w242_43 k35 n z0 z1 z2 z3 P) n2 l0 l1 l2 (0 : Int32) M P)))
theorem t242_43 {sl : Nat} {sx : Nat → Int32} {d : Nat} {M0 : MM} {P : Int32 → MM → Prop} {k35 : Nat → Int32 → MM → Prop} (hk35 : ∀ (l0 : Nat) (l1 : Int32) (M : MM), lenO M0 M → k35 l0 l1 M → R242 sl sx d M0 P 35 [some (vR (some l0)), some (vI l1), none, none] [] M) (n : Nat) : ∀ (l0 : Nat) (l1 : Int32) (l2 : Int32) (M : MM) (_ : lenO M0 M) (_ : w242_43 k35 n l0 l1 l2 M P), R242 sl sx d M0 P 43 [some (vR (some l0)), some (vI l1), some (vI l2), none] [] M := by
  induction n with
  | zero => intro l0 l1 l2 M hM h; cases h
  | succ n ih =>
    intro l0 l1 l2 M hM h
    refine RN_k (callX_det _) 3 _ _ _ _ (show kd M l0 10 ∧ R242 sl sx d M0 P 48 [some (vR (some l0)), some (vI l1), some (vI l2), none] [vI (mI M l0 27), vI l2] M from ⟨h.1, ?_⟩)
    replace h := h.2
    refine RN_k (callX_det _) 3 _ _ _ _ (show (((mI M l0 27) - (1 : Int32)) ≤ l2 → R242 sl sx d M0 P 196 [some (vR (some l0)), some (vI l1), some (vI l2), none] [] M) ∧ (¬ (((mI M l0 27) - (1 : Int32)) ≤ l2) → R242 sl sx d M0 P 53 [some (vR (some l0)), some (vI l1), some (vI l2), none] [] M) from ⟨fun hc => ?_, fun hc => ?_⟩)
    · replace h := h.1 hc
      refine RN_k (callX_det _) 1 _ _ _ _ (show R242 sl sx d M0 P 35 [some (vR (some l0)), some (vI l1), some (vI l2), none] [] M from ?_)
      exact RN_weak (K := [some (vR (some l0)), some (vI l1), none, none]) (callX_det _) (show _ ∧ _ ∧ True from ⟨rfl, rfl, trivial⟩) (hk35 l0 l1 _ hM h)
    · replace h := h.2 hc
      refine RN_k (callX_det _) 2 _ _ _ _ (show R242 sl sx d M0 P 55 [some (vR (some l0)), some (vI l1), some (vI l2), some (vI (0 : Int32))] [] M from ?_)
      obtain ⟨n2, h⟩ := h
      exact RN_weak (K := [some (vR (some l0)), some (vI l1), some (vI l2), some (vI (0 : Int32))]) (callX_det _) (show _ ∧ _ ∧ _ ∧ _ ∧ True from ⟨rfl, rfl, rfl, rfl, trivial⟩) (t242_55 hk35 ih n2 l0 l1 l2 (0 : Int32) _ hM h)
def w242_35 : Nat → Nat → Int32 → MM → (Int32 → MM → Prop) → Prop
  | 0 => fun _ _ _ _ => False
  | n + 1 => fun l0 l1 M P => (l1 = 0 → (kd M l0 10 ∧ (kd M l0 10 ∧ (kd M l0 10 ∧ (∃ a1, mR M l0 45 = some a1 ∧ (inb M a1 14 ((((8 : Int32) * ((mI M l0 27) - (2 : Int32))) + (mI M l0 28)) - (2 : Int32)) ∧ (((mI M a1 ((((8 : Int32) * ((mI M l0 27) - (2 : Int32))) + (mI M l0 28)) - (2 : Int32)).toNatClampNeg) = 0 ∨ (mI M a1 ((((8 : Int32) * ((mI M l0 27) - (2 : Int32))) + (mI M l0 28)) - (2 : Int32)).toNatClampNeg) = 1) ∧ P (mI M a1 ((((8 : Int32) * ((mI M l0 27) - (2 : Int32))) + (mI M l0 28)) - (2 : Int32)).toNatClampNeg) M))))))) ∧ (¬ (l1 = 0) → (∃ n2, w242_43 (fun z0 z1 z2 => w242_35  n z0 z1 z2 P) n2 l0 (0 : Int32) (0 : Int32) M P))
theorem t242_35 {sl : Nat} {sx : Nat → Int32} {d : Nat} {M0 : MM} {P : Int32 → MM → Prop} (n : Nat) : ∀ (l0 : Nat) (l1 : Int32) (M : MM) (_ : lenO M0 M) (_ : w242_35  n l0 l1 M P), R242 sl sx d M0 P 35 [some (vR (some l0)), some (vI l1), none, none] [] M := by
  induction n with
  | zero => intro l0 l1 M hM h; cases h
  | succ n ih =>
    intro l0 l1 M hM h
    refine RN_k (callX_det _) 2 _ _ _ _ (show (l1 = 0 → R242 sl sx d M0 P 199 [some (vR (some l0)), some (vI l1), none, none] [] M) ∧ (¬ (l1 = 0) → R242 sl sx d M0 P 39 [some (vR (some l0)), some (vI l1), none, none] [] M) from ⟨fun hc => ?_, fun hc => ?_⟩)
    · replace h := h.1 hc
      refine RN_k (callX_det _) 2 _ _ _ _ (show kd M l0 10 ∧ R242 sl sx d M0 P 203 [some (vR (some l0)), some (vI l1), none, none] [vR (mR M l0 45)] M from ⟨h.1, ?_⟩)
      replace h := h.2
      refine RN_k (callX_det _) 3 _ _ _ _ (show kd M l0 10 ∧ R242 sl sx d M0 P 209 [some (vR (some l0)), some (vI l1), none, none] [vI (mI M l0 27), vI (8 : Int32), vR (mR M l0 45)] M from ⟨h.1, ?_⟩)
      replace h := h.2
      refine RN_k (callX_det _) 5 _ _ _ _ (show kd M l0 10 ∧ R242 sl sx d M0 P 216 [some (vR (some l0)), some (vI l1), none, none] [vI (mI M l0 28), vI ((8 : Int32) * ((mI M l0 27) - (2 : Int32))), vR (mR M l0 45)] M from ⟨h.1, ?_⟩)
      replace h := h.2
      obtain ⟨a1, he, h⟩ := h
      refine RN_k (callX_det _) 3 _ _ _ _ (show R242 sl sx d M0 P 219 [some (vR (some l0)), some (vI l1), none, none] [vI ((((8 : Int32) * ((mI M l0 27) - (2 : Int32))) + (mI M l0 28)) - (2 : Int32)), vR (mR M l0 45)] M from ?_)
      rw [he]
      refine RN_k (callX_det _) 1 _ _ _ _ (show inb M a1 14 ((((8 : Int32) * ((mI M l0 27) - (2 : Int32))) + (mI M l0 28)) - (2 : Int32)) ∧ R242 sl sx d M0 P 220 [some (vR (some l0)), some (vI l1), none, none] [vI (mI M a1 ((((8 : Int32) * ((mI M l0 27) - (2 : Int32))) + (mI M l0 28)) - (2 : Int32)).toNatClampNeg)] M from ⟨h.1, ?_⟩)
      replace h := h.2
      exact RN_k (callX_det _) 1 _ _ _ _ (show rtW q242 M0 (PI P) (some (vI (mI M a1 ((((8 : Int32) * ((mI M l0 27) - (2 : Int32))) + (mI M l0 28)) - (2 : Int32)).toNatClampNeg))) M from ⟨⟨_, rfl, h.1⟩, hM.1, hM.2, _, rfl, h.2⟩)
    · replace h := h.2 hc
      refine RN_k (callX_det _) 4 _ _ _ _ (show R242 sl sx d M0 P 43 [some (vR (some l0)), some (vI (0 : Int32)), some (vI (0 : Int32)), none] [] M from ?_)
      obtain ⟨n2, h⟩ := h
      exact RN_weak (K := [some (vR (some l0)), some (vI (0 : Int32)), some (vI (0 : Int32)), none]) (callX_det _) (show _ ∧ _ ∧ _ ∧ True from ⟨rfl, rfl, rfl, trivial⟩) (t242_43 ih n2 l0 (0 : Int32) (0 : Int32) _ hM h)
def w242_26 (k6 : Nat → Int32 → MM → Prop) (l0 : Nat) (l1 : Int32) (s0 : Option Nat) (s1 : Int32) (s2 : Int32) (M : MM) (P : Int32 → MM → Prop) : Prop := ∃ a1, s0 = some a1 ∧ (inb M a1 14 s1 ∧ (k6 l0 (l1 + (1 : Int32)) (sI M a1 s1.toNatClampNeg (s2 &&& 1))))
theorem t242_26 {sl : Nat} {sx : Nat → Int32} {d : Nat} {M0 : MM} {P : Int32 → MM → Prop} {k6 : Nat → Int32 → MM → Prop} (hk6 : ∀ (l0 : Nat) (l1 : Int32) (M : MM), lenO M0 M → k6 l0 l1 M → R242 sl sx d M0 P 6 [some (vR (some l0)), some (vI l1), none, none] [] M) (l0 : Nat) (l1 : Int32) (s0 : Option Nat) (s1 : Int32) (s2 : Int32) (M : MM) (hM : lenO M0 M) (h : w242_26 k6 l0 l1 s0 s1 s2 M P) : R242 sl sx d M0 P 26 [some (vR (some l0)), some (vI l1), none, none] [vI s2, vI s1, vR s0] M := by
  obtain ⟨a1, he, h⟩ := h
  subst he
  refine RN_k (callX_det _) 1 _ _ _ _ (show inb M a1 14 s1 ∧ R242 sl sx d M0 P 27 [some (vR (some l0)), some (vI l1), none, none] [] (sI M a1 s1.toNatClampNeg (s2 &&& 1)) from ⟨h.1, ?_⟩)
  replace h := h.2
  refine RN_k (callX_det _) 2 _ _ _ _ (show R242 sl sx d M0 P 6 [some (vR (some l0)), some (vI (l1 + (1 : Int32))), none, none] [] (sI M a1 s1.toNatClampNeg (s2 &&& 1)) from ?_)
  exact RN_weak (K := [some (vR (some l0)), some (vI (l1 + (1 : Int32))), none, none]) (callX_det _) (show _ ∧ _ ∧ True from ⟨rfl, rfl, trivial⟩) (hk6 l0 (l1 + (1 : Int32)) _ hM h)
def w242_6 : Nat → Nat → Int32 → MM → (Int32 → MM → Prop) → Prop
  | 0 => fun _ _ _ _ => False
  | n + 1 => fun l0 l1 M P => ((64 : Int32) ≤ l1 → (∃ n2, w242_35  n2 l0 (1 : Int32) M P)) ∧ (¬ ((64 : Int32) ≤ l1) → (kd M l0 10 ∧ ((l1 ≠ 0 → (w242_26 (fun z0 z1 z2 => w242_6  n z0 z1 z2 P) l0 l1 (mR M l0 45) l1 (0 : Int32) M P)) ∧ (¬ (l1 ≠ 0) → (w242_26 (fun z0 z1 z2 => w242_6  n z0 z1 z2 P) l0 l1 (mR M l0 45) l1 (1 : Int32) M P)))))
theorem t242_6 {sl : Nat} {sx : Nat → Int32} {d : Nat} {M0 : MM} {P : Int32 → MM → Prop} (n : Nat) : ∀ (l0 : Nat) (l1 : Int32) (M : MM) (_ : lenO M0 M) (_ : w242_6  n l0 l1 M P), R242 sl sx d M0 P 6 [some (vR (some l0)), some (vI l1), none, none] [] M := by
  induction n with
  | zero => intro l0 l1 M hM h; cases h
  | succ n ih =>
    intro l0 l1 M hM h
    refine RN_k (callX_det _) 3 _ _ _ _ (show ((64 : Int32) ≤ l1 → R242 sl sx d M0 P 33 [some (vR (some l0)), some (vI l1), none, none] [] M) ∧ (¬ ((64 : Int32) ≤ l1) → R242 sl sx d M0 P 12 [some (vR (some l0)), some (vI l1), none, none] [] M) from ⟨fun hc => ?_, fun hc => ?_⟩)
    · replace h := h.1 hc
      refine RN_k (callX_det _) 2 _ _ _ _ (show R242 sl sx d M0 P 35 [some (vR (some l0)), some (vI (1 : Int32)), none, none] [] M from ?_)
      obtain ⟨n2, h⟩ := h
      exact RN_weak (K := [some (vR (some l0)), some (vI (1 : Int32)), none, none]) (callX_det _) (show _ ∧ _ ∧ True from ⟨rfl, rfl, trivial⟩) (t242_35  n2 l0 (1 : Int32) _ hM h)
    · replace h := h.2 hc
      refine RN_k (callX_det _) 2 _ _ _ _ (show kd M l0 10 ∧ R242 sl sx d M0 P 16 [some (vR (some l0)), some (vI l1), none, none] [vR (mR M l0 45)] M from ⟨h.1, ?_⟩)
      replace h := h.2
      refine RN_k (callX_det _) 3 _ _ _ _ (show (l1 ≠ 0 → R242 sl sx d M0 P 25 [some (vR (some l0)), some (vI l1), none, none] [vI l1, vR (mR M l0 45)] M) ∧ (¬ (l1 ≠ 0) → R242 sl sx d M0 P 21 [some (vR (some l0)), some (vI l1), none, none] [vI l1, vR (mR M l0 45)] M) from ⟨fun hc => ?_, fun hc => ?_⟩)
      · replace h := h.1 hc
        refine RN_k (callX_det _) 1 _ _ _ _ (show R242 sl sx d M0 P 26 [some (vR (some l0)), some (vI l1), none, none] [vI (0 : Int32), vI l1, vR (mR M l0 45)] M from ?_)
        exact RN_weak (K := [some (vR (some l0)), some (vI l1), none, none]) (callX_det _) (show _ ∧ _ ∧ True from ⟨rfl, rfl, trivial⟩) (t242_26 ih l0 l1 (mR M l0 45) l1 (0 : Int32) _ hM h)
      · replace h := h.2 hc
        refine RN_k (callX_det _) 2 _ _ _ _ (show R242 sl sx d M0 P 26 [some (vR (some l0)), some (vI l1), none, none] [vI (1 : Int32), vI l1, vR (mR M l0 45)] M from ?_)
        exact RN_weak (K := [some (vR (some l0)), some (vI l1), none, none]) (callX_det _) (show _ ∧ _ ∧ True from ⟨rfl, rfl, trivial⟩) (t242_26 ih l0 l1 (mR M l0 45) l1 (1 : Int32) _ hM h)
def w242 (l0 : Nat) (M : MM) (P : Int32 → MM → Prop) : Prop := kd M l0 10 ∧ w216 l0 M (fun M1 => ∃ n2, w242_6  n2 l0 (0 : Int32) M1 P)
theorem t242_E {sl : Nat} {sx : Nat → Int32} {d : Nat} {M0 : MM} {P : Int32 → MM → Prop} (l0 : Nat) (M : MM) (hM : lenO M0 M) (h : w242  l0 M P) : R242 sl sx d M0 P 0 [some (vR (some l0)), none, none, none] [] M := by
  refine RN_k (callX_det _) 2 _ _ _ _ (show kd M l0 10 ∧ callX TBg sl sx (d + 7) 216 [vR (some l0)] M (fun v M9 => R242 sl sx d M0 P 4 [some (vR (some l0)), none, none, none] (pushO v []) M9) from ⟨h.1, ?_⟩)
  replace h := h.2
  refine callX_mono (callX_len (d := (d + 7)) rfl rfl rfl (c216 (d := d) h)) ?_
  clear h
  rintro v9 M1 ⟨hl, rfl, h⟩
  replace hM := lenT hM hl
  show R242 sl sx d M0 P 4 [some (vR (some l0)), none, none, none] [] M1
  refine RN_k (callX_det _) 2 _ _ _ _ (show R242 sl sx d M0 P 6 [some (vR (some l0)), some (vI (0 : Int32)), none, none] [] M1 from ?_)
  obtain ⟨n2, h⟩ := h
  exact RN_weak (K := [some (vR (some l0)), some (vI (0 : Int32)), none, none]) (callX_det _) (show _ ∧ _ ∧ True from ⟨rfl, rfl, trivial⟩) (t242_6  n2 l0 (0 : Int32) _ hM h)
theorem c242 {sl : Nat} {sx : Nat → Int32} {d : Nat} {l0 : Nat} {M : MM} {P : Int32 → MM → Prop} (h : w242 l0 M P) : callX TBg sl sx (d + 8) 242 [vR (some l0)] M (PI P) :=
  cX (d := d + 7) q242 (false, tb242) rfl rfl rfl (t242_E l0 M lenR h)
-- TwoLeashModel.isEnough(I)Z
abbrev q239 : MQ7 := (2, 1, 2, 10, 0, 0, 4)
abbrev R239 (sl : Nat) (sx : Nat → Int32) (d : Nat) (M0 : MM) (P : Int32 → MM → Prop) : Nat → LL → List VV → MM → Prop := RN 10 false (mS M0).length (mT M0) 0 0 sl sx (callX TBg sl sx (d + 8)) (rtW q239 M0 (PI P)) (as2 tb239)
def w239_90 (s0 : Int32) (M : MM) (P : Int32 → MM → Prop) : Prop := (s0 = 0 ∨ s0 = 1) ∧ P s0 M
theorem t239_90 {sl : Nat} {sx : Nat → Int32} {d : Nat} {M0 : MM} {P : Int32 → MM → Prop} (s0 : Int32) (M : MM) (hM : lenO M0 M) (h : w239_90  s0 M P) : R239 sl sx d M0 P 90 [none, none] [vI s0] M := by
  exact RN_k (callX_det _) 1 _ _ _ _ (show rtW q239 M0 (PI P) (some (vI s0)) M from ⟨⟨_, rfl, h.1⟩, hM.1, hM.2, _, rfl, h.2⟩)
def w239_85 (M : MM) (P : Int32 → MM → Prop) : Prop := w239_90  (1 : Int32) M P
theorem t239_85 {sl : Nat} {sx : Nat → Int32} {d : Nat} {M0 : MM} {P : Int32 → MM → Prop}  (M : MM) (hM : lenO M0 M) (h : w239_85   M P) : R239 sl sx d M0 P 85 [none, none] [] M := by
  refine RN_k (callX_det _) 2 _ _ _ _ (show R239 sl sx d M0 P 90 [none, none] [vI (1 : Int32)] M from ?_)
  exact RN_weak (K := [none, none]) (callX_det _) (show True from trivial) (t239_90  (1 : Int32) _ hM h)
def w239 (l0 : Nat) (l1 : Int32) (M : MM) (P : Int32 → MM → Prop) : Prop := kd M l0 10 ∧ w240 l0 M (fun r2 M1 => (r2 ≠ 0 → ((l1 ≠ (2 : Int32) → ((l1 ≠ (1 : Int32) → (kd M1 l0 10 ∧ w230 l0 M1 (fun M3 => kd M3 l0 10 ∧ (kd M3 l0 10 ∧ (kd M3 l0 10 ∧ (w218 (1 : Int32) ((mI M3 l0 27) - (2 : Int32)) ((mI M3 l0 28) - (2 : Int32)) M3 (fun r5 M4 => ∃ a6, mR M3 l0 35 = some a6 ∧ (inb M4 a6 14 r5 ∧ (((mI M4 a6 r5.toNatClampNeg) ≠ 0 → (w239_85  M4 P)) ∧ (¬ ((mI M4 a6 r5.toNatClampNeg) ≠ 0) → (kd M4 l0 10 ∧ (kd M4 l0 10 ∧ (kd M4 l0 10 ∧ (w218 (0 : Int32) ((mI M4 l0 27) - (2 : Int32)) ((mI M4 l0 28) - (2 : Int32)) M4 (fun r8 M7 => ∃ a9, mR M4 l0 35 = some a9 ∧ (inb M7 a9 14 r8 ∧ (((mI M7 a9 r8.toNatClampNeg) = 0 → (w239_90  (0 : Int32) M7 P)) ∧ (¬ ((mI M7 a9 r8.toNatClampNeg) = 0) → (w239_85  M7 P))))))))))))))))))) ∧ (¬ (l1 ≠ (1 : Int32)) → (kd M1 l0 10 ∧ w242 l0 M1 (fun r11 M10 => (r11 = 0 ∨ r11 = 1) ∧ P r11 M10))))) ∧ (¬ (l1 ≠ (2 : Int32)) → (kd M1 l0 10 ∧ w241 l0 M1 (fun r13 M12 => kd M12 l0 10 ∧ w232 l0 r13 M12 (fun r15 M14 => (r15 = 0 ∨ r15 = 1) ∧ P r15 M14)))))) ∧ (¬ (r2 ≠ 0) → (P (0 : Int32) M1)))
theorem t239_E {sl : Nat} {sx : Nat → Int32} {d : Nat} {M0 : MM} {P : Int32 → MM → Prop} (l0 : Nat) (l1 : Int32) (M : MM) (hM : lenO M0 M) (h : w239  l0 l1 M P) : R239 sl sx d M0 P 0 [some (vR (some l0)), some (vI l1)] [] M := by
  refine RN_k (callX_det _) 2 _ _ _ _ (show kd M l0 10 ∧ callX TBg sl sx (d + 8) 240 [vR (some l0)] M (fun v M9 => R239 sl sx d M0 P 4 [some (vR (some l0)), some (vI l1)] (pushO v []) M9) from ⟨h.1, ?_⟩)
  replace h := h.2
  refine callX_mono (callX_len (d := (d + 8)) rfl rfl rfl (c240 (d := d + 5) h)) ?_
  clear h
  rintro v9 M1 ⟨hl, r2, rfl, h⟩
  replace hM := lenT hM hl
  show R239 sl sx d M0 P 4 [some (vR (some l0)), some (vI l1)] [vI r2] M1
  refine RN_k (callX_det _) 1 _ _ _ _ (show (r2 ≠ 0 → R239 sl sx d M0 P 9 [some (vR (some l0)), some (vI l1)] [] M1) ∧ (¬ (r2 ≠ 0) → R239 sl sx d M0 P 7 [some (vR (some l0)), some (vI l1)] [] M1) from ⟨fun hc => ?_, fun hc => ?_⟩)
  · replace h := h.1 hc
    refine RN_k (callX_det _) 3 _ _ _ _ (show (l1 ≠ (2 : Int32) → R239 sl sx d M0 P 23 [some (vR (some l0)), some (vI l1)] [] M1) ∧ (¬ (l1 ≠ (2 : Int32)) → R239 sl sx d M0 P 14 [some (vR (some l0)), some (vI l1)] [] M1) from ⟨fun hc => ?_, fun hc => ?_⟩)
    · replace h := h.1 hc
      refine RN_k (callX_det _) 3 _ _ _ _ (show (l1 ≠ (1 : Int32) → R239 sl sx d M0 P 33 [some (vR (some l0)), some (vI l1)] [] M1) ∧ (¬ (l1 ≠ (1 : Int32)) → R239 sl sx d M0 P 28 [some (vR (some l0)), some (vI l1)] [] M1) from ⟨fun hc => ?_, fun hc => ?_⟩)
      · replace h := h.1 hc
        refine RN_k (callX_det _) 2 _ _ _ _ (show kd M1 l0 10 ∧ callX TBg sl sx (d + 8) 230 [vR (some l0)] M1 (fun v M9 => R239 sl sx d M0 P 37 [some (vR (some l0)), some (vI l1)] (pushO v []) M9) from ⟨h.1, ?_⟩)
        replace h := h.2
        refine callX_mono (callX_len (d := (d + 8)) rfl rfl rfl (c230 (d := d) h)) ?_
        clear h
        rintro v9 M3 ⟨hl, rfl, h⟩
        replace hM := lenT hM hl
        show R239 sl sx d M0 P 37 [some (vR (some l0)), some (vI l1)] [] M3
        refine RN_k (callX_det _) 2 _ _ _ _ (show kd M3 l0 10 ∧ R239 sl sx d M0 P 41 [some (vR (some l0)), some (vI l1)] [vR (mR M3 l0 35)] M3 from ⟨h.1, ?_⟩)
        replace h := h.2
        refine RN_k (callX_det _) 3 _ _ _ _ (show kd M3 l0 10 ∧ R239 sl sx d M0 P 46 [some (vR (some l0)), some (vI l1)] [vI (mI M3 l0 27), vI (1 : Int32), vR (mR M3 l0 35)] M3 from ⟨h.1, ?_⟩)
        replace h := h.2
        refine RN_k (callX_det _) 4 _ _ _ _ (show kd M3 l0 10 ∧ R239 sl sx d M0 P 52 [some (vR (some l0)), some (vI l1)] [vI (mI M3 l0 28), vI ((mI M3 l0 27) - (2 : Int32)), vI (1 : Int32), vR (mR M3 l0 35)] M3 from ⟨h.1, ?_⟩)
        replace h := h.2
        refine RN_k (callX_det _) 3 _ _ _ _ (show callX TBg sl sx (d + 8) 218 [vI (1 : Int32), vI ((mI M3 l0 27) - (2 : Int32)), vI ((mI M3 l0 28) - (2 : Int32))] M3 (fun v M9 => R239 sl sx d M0 P 57 [some (vR (some l0)), some (vI l1)] (pushO v [vR (mR M3 l0 35)]) M9) from ?_)
        refine callX_mono (callX_len (d := (d + 8)) rfl rfl rfl (c218 (d := d + 7) h)) ?_
        clear h
        rintro v9 M4 ⟨hl, r5, rfl, h⟩
        replace hM := lenT hM hl
        show R239 sl sx d M0 P 57 [some (vR (some l0)), some (vI l1)] [vI r5, vR (mR M3 l0 35)] M4
        obtain ⟨a6, he, h⟩ := h
        rw [he]
        refine RN_k (callX_det _) 1 _ _ _ _ (show inb M4 a6 14 r5 ∧ R239 sl sx d M0 P 58 [some (vR (some l0)), some (vI l1)] [vI (mI M4 a6 r5.toNatClampNeg)] M4 from ⟨h.1, ?_⟩)
        replace h := h.2
        refine RN_k (callX_det _) 1 _ _ _ _ (show ((mI M4 a6 r5.toNatClampNeg) ≠ 0 → R239 sl sx d M0 P 85 [some (vR (some l0)), some (vI l1)] [] M4) ∧ (¬ ((mI M4 a6 r5.toNatClampNeg) ≠ 0) → R239 sl sx d M0 P 61 [some (vR (some l0)), some (vI l1)] [] M4) from ⟨fun hc => ?_, fun hc => ?_⟩)
        · replace h := h.1 hc
          exact RN_weak (K := [none, none]) (callX_det _) (show True from trivial) (t239_85   _ hM h)
        · replace h := h.2 hc
          refine RN_k (callX_det _) 2 _ _ _ _ (show kd M4 l0 10 ∧ R239 sl sx d M0 P 65 [some (vR (some l0)), some (vI l1)] [vR (mR M4 l0 35)] M4 from ⟨h.1, ?_⟩)
          replace h := h.2
          refine RN_k (callX_det _) 3 _ _ _ _ (show kd M4 l0 10 ∧ R239 sl sx d M0 P 70 [some (vR (some l0)), some (vI l1)] [vI (mI M4 l0 27), vI (0 : Int32), vR (mR M4 l0 35)] M4 from ⟨h.1, ?_⟩)
          replace h := h.2
          refine RN_k (callX_det _) 4 _ _ _ _ (show kd M4 l0 10 ∧ R239 sl sx d M0 P 76 [some (vR (some l0)), some (vI l1)] [vI (mI M4 l0 28), vI ((mI M4 l0 27) - (2 : Int32)), vI (0 : Int32), vR (mR M4 l0 35)] M4 from ⟨h.1, ?_⟩)
          replace h := h.2
          refine RN_k (callX_det _) 3 _ _ _ _ (show callX TBg sl sx (d + 8) 218 [vI (0 : Int32), vI ((mI M4 l0 27) - (2 : Int32)), vI ((mI M4 l0 28) - (2 : Int32))] M4 (fun v M9 => R239 sl sx d M0 P 81 [some (vR (some l0)), some (vI l1)] (pushO v [vR (mR M4 l0 35)]) M9) from ?_)
          refine callX_mono (callX_len (d := (d + 8)) rfl rfl rfl (c218 (d := d + 7) h)) ?_
          clear h
          rintro v9 M7 ⟨hl, r8, rfl, h⟩
          replace hM := lenT hM hl
          show R239 sl sx d M0 P 81 [some (vR (some l0)), some (vI l1)] [vI r8, vR (mR M4 l0 35)] M7
          obtain ⟨a9, he, h⟩ := h
          rw [he]
          refine RN_k (callX_det _) 1 _ _ _ _ (show inb M7 a9 14 r8 ∧ R239 sl sx d M0 P 82 [some (vR (some l0)), some (vI l1)] [vI (mI M7 a9 r8.toNatClampNeg)] M7 from ⟨h.1, ?_⟩)
          replace h := h.2
          refine RN_k (callX_det _) 1 _ _ _ _ (show ((mI M7 a9 r8.toNatClampNeg) = 0 → R239 sl sx d M0 P 89 [some (vR (some l0)), some (vI l1)] [] M7) ∧ (¬ ((mI M7 a9 r8.toNatClampNeg) = 0) → R239 sl sx d M0 P 85 [some (vR (some l0)), some (vI l1)] [] M7) from ⟨fun hc => ?_, fun hc => ?_⟩)
          · replace h := h.1 hc
            refine RN_k (callX_det _) 1 _ _ _ _ (show R239 sl sx d M0 P 90 [some (vR (some l0)), some (vI l1)] [vI (0 : Int32)] M7 from ?_)
            exact RN_weak (K := [none, none]) (callX_det _) (show True from trivial) (t239_90  (0 : Int32) _ hM h)
          · replace h := h.2 hc
            exact RN_weak (K := [none, none]) (callX_det _) (show True from trivial) (t239_85   _ hM h)
      · replace h := h.2 hc
        refine RN_k (callX_det _) 2 _ _ _ _ (show kd M1 l0 10 ∧ callX TBg sl sx (d + 8) 242 [vR (some l0)] M1 (fun v M9 => R239 sl sx d M0 P 32 [some (vR (some l0)), some (vI l1)] (pushO v []) M9) from ⟨h.1, ?_⟩)
        replace h := h.2
        refine callX_mono (callX_len (d := (d + 8)) rfl rfl rfl (c242 (d := d) h)) ?_
        clear h
        rintro v9 M10 ⟨hl, r11, rfl, h⟩
        replace hM := lenT hM hl
        show R239 sl sx d M0 P 32 [some (vR (some l0)), some (vI l1)] [vI r11] M10
        exact RN_k (callX_det _) 1 _ _ _ _ (show rtW q239 M0 (PI P) (some (vI r11)) M10 from ⟨⟨_, rfl, h.1⟩, hM.1, hM.2, _, rfl, h.2⟩)
    · replace h := h.2 hc
      refine RN_k (callX_det _) 3 _ _ _ _ (show kd M1 l0 10 ∧ callX TBg sl sx (d + 8) 241 [vR (some l0)] M1 (fun v M9 => R239 sl sx d M0 P 19 [some (vR (some l0)), some (vI l1)] (pushO v [vR (some l0)]) M9) from ⟨h.1, ?_⟩)
      replace h := h.2
      refine callX_mono (callX_len (d := (d + 8)) rfl rfl rfl (c241 (d := d + 5) h)) ?_
      clear h
      rintro v9 M12 ⟨hl, r13, rfl, h⟩
      replace hM := lenT hM hl
      show R239 sl sx d M0 P 19 [some (vR (some l0)), some (vI l1)] [vI r13, vR (some l0)] M12
      refine RN_k (callX_det _) 1 _ _ _ _ (show kd M12 l0 10 ∧ callX TBg sl sx (d + 8) 232 [vR (some l0), vI r13] M12 (fun v M9 => R239 sl sx d M0 P 22 [some (vR (some l0)), some (vI l1)] (pushO v []) M9) from ⟨h.1, ?_⟩)
      replace h := h.2
      refine callX_mono (callX_len (d := (d + 8)) rfl rfl rfl (c232 (d := d + 7) h)) ?_
      clear h
      rintro v9 M14 ⟨hl, r15, rfl, h⟩
      replace hM := lenT hM hl
      show R239 sl sx d M0 P 22 [some (vR (some l0)), some (vI l1)] [vI r15] M14
      exact RN_k (callX_det _) 1 _ _ _ _ (show rtW q239 M0 (PI P) (some (vI r15)) M14 from ⟨⟨_, rfl, h.1⟩, hM.1, hM.2, _, rfl, h.2⟩)
  · replace h := h.2 hc
    exact RN_k (callX_det _) 2 _ _ _ _ (show rtW q239 M0 (PI P) (some (vI (0 : Int32))) M1 from ⟨⟨_, rfl, Or.inl rfl⟩, hM.1, hM.2, _, rfl, h⟩)
theorem c239 {sl : Nat} {sx : Nat → Int32} {d : Nat} {l0 : Nat} {l1 : Int32} {M : MM} {P : Int32 → MM → Prop} (h : w239 l0 l1 M P) : callX TBg sl sx (d + 9) 239 [vR (some l0), vI l1] M (PI P) :=
  cX (d := d + 8) q239 (false, tb239) rfl rfl rfl (t239_E l0 l1 M lenR h)
-- TwoLeashModel.enough(IIIII)I
abbrev q238 : MQ7 := (6, 1, 7, 10, 0, 0, 1)
abbrev R238 (sl : Nat) (sx : Nat → Int32) (d : Nat) (M0 : MM) (P : Int32 → MM → Prop) : Nat → LL → List VV → MM → Prop := RN 10 false (mS M0).length (mT M0) 0 0 sl sx (callX TBg sl sx (d + 9)) (rtW q238 M0 (PI P)) (as2 tb238)
def w238_65 (s0 : Option Nat) (s1 : Int32) (M : MM) (P : Int32 → MM → Prop) : Prop := ∃ a1, s0 = some a1 ∧ (kd M a1 10 ∧ w177 a1 s1 M (fun r3 M2 => P r3 M2))
theorem t238_65 {sl : Nat} {sx : Nat → Int32} {d : Nat} {M0 : MM} {P : Int32 → MM → Prop} (s0 : Option Nat) (s1 : Int32) (M : MM) (hM : lenO M0 M) (h : w238_65  s0 s1 M P) : R238 sl sx d M0 P 65 [none, none, none, none, none, none, none] [vI s1, vR s0] M := by
  obtain ⟨a1, he, h⟩ := h
  subst he
  refine RN_k (callX_det _) 1 _ _ _ _ (show kd M a1 10 ∧ callX TBg sl sx (d + 9) 177 [vR (some a1), vI s1] M (fun v M9 => R238 sl sx d M0 P 68 [none, none, none, none, none, none, none] (pushO v []) M9) from ⟨h.1, ?_⟩)
  replace h := h.2
  refine callX_mono (callX_len (d := (d + 9)) rfl rfl rfl (c177 (d := d + 8) h)) ?_
  clear h
  rintro v9 M2 ⟨hl, r3, rfl, h⟩
  replace hM := lenT hM hl
  show R238 sl sx d M0 P 68 [none, none, none, none, none, none, none] [vI r3] M2
  exact RN_k (callX_det _) 1 _ _ _ _ (show rtW q238 M0 (PI P) (some (vI r3)) M2 from ⟨⟨_, rfl⟩, hM.1, hM.2, _, rfl, h⟩)
def w238_23 (l0 : Nat) (l1 : Int32) (l2 : Int32) (l3 : Int32) (l4 : Int32) (l5 : Int32) (s0 : Int32) (M : MM) (P : Int32 → MM → Prop) : Prop := (s0 ≤ 0 → (kd M l0 10 ∧ w211 l0 l1 l2 M (fun M1 => kd M1 l0 10 ∧ w215 l0 l4 l5 M1 (fun M2 => kd M2 l0 10 ∧ w239 l0 l3 M2 (fun r4 M3 => (r4 = 0 → (w238_65  (some l0) (0 : Int32) M3 P)) ∧ (¬ (r4 = 0) → (w238_65  (some l0) (1 : Int32) M3 P))))))) ∧ (¬ (s0 ≤ 0) → (kd M l0 10 ∧ w167 l0 s0 M (fun r6 M5 => P r6 M5)))
theorem t238_23 {sl : Nat} {sx : Nat → Int32} {d : Nat} {M0 : MM} {P : Int32 → MM → Prop} (l0 : Nat) (l1 : Int32) (l2 : Int32) (l3 : Int32) (l4 : Int32) (l5 : Int32) (s0 : Int32) (M : MM) (hM : lenO M0 M) (h : w238_23  l0 l1 l2 l3 l4 l5 s0 M P) : R238 sl sx d M0 P 23 [some (vR (some l0)), some (vI l1), some (vI l2), some (vI l3), some (vI l4), some (vI l5), none] [vI s0] M := by
  refine RN_k (callX_det _) 3 _ _ _ _ (show (s0 ≤ 0 → R238 sl sx d M0 P 37 [some (vR (some l0)), some (vI l1), some (vI l2), some (vI l3), some (vI l4), some (vI l5), some (vI s0)] [] M) ∧ (¬ (s0 ≤ 0) → R238 sl sx d M0 P 30 [some (vR (some l0)), some (vI l1), some (vI l2), some (vI l3), some (vI l4), some (vI l5), some (vI s0)] [] M) from ⟨fun hc => ?_, fun hc => ?_⟩)
  · replace h := h.1 hc
    refine RN_k (callX_det _) 4 _ _ _ _ (show kd M l0 10 ∧ callX TBg sl sx (d + 9) 211 [vR (some l0), vI l1, vI l2] M (fun v M9 => R238 sl sx d M0 P 43 [some (vR (some l0)), some (vI l1), some (vI l2), some (vI l3), some (vI l4), some (vI l5), some (vI s0)] (pushO v []) M9) from ⟨h.1, ?_⟩)
    replace h := h.2
    refine callX_mono (callX_len (d := (d + 9)) rfl rfl rfl (c211 (d := d + 4) h)) ?_
    clear h
    rintro v9 M1 ⟨hl, rfl, h⟩
    replace hM := lenT hM hl
    show R238 sl sx d M0 P 43 [some (vR (some l0)), some (vI l1), some (vI l2), some (vI l3), some (vI l4), some (vI l5), some (vI s0)] [] M1
    refine RN_k (callX_det _) 4 _ _ _ _ (show kd M1 l0 10 ∧ callX TBg sl sx (d + 9) 215 [vR (some l0), vI l4, vI l5] M1 (fun v M9 => R238 sl sx d M0 P 51 [some (vR (some l0)), some (vI l1), some (vI l2), some (vI l3), some (vI l4), some (vI l5), some (vI s0)] (pushO v []) M9) from ⟨h.1, ?_⟩)
    replace h := h.2
    refine callX_mono (callX_len (d := (d + 9)) rfl rfl rfl (c215 (d := d + 8) h)) ?_
    clear h
    rintro v9 M2 ⟨hl, rfl, h⟩
    replace hM := lenT hM hl
    show R238 sl sx d M0 P 51 [some (vR (some l0)), some (vI l1), some (vI l2), some (vI l3), some (vI l4), some (vI l5), some (vI s0)] [] M2
    refine RN_k (callX_det _) 4 _ _ _ _ (show kd M2 l0 10 ∧ callX TBg sl sx (d + 9) 239 [vR (some l0), vI l3] M2 (fun v M9 => R238 sl sx d M0 P 57 [some (vR (some l0)), some (vI l1), some (vI l2), some (vI l3), some (vI l4), some (vI l5), some (vI s0)] (pushO v [vR (some l0)]) M9) from ⟨h.1, ?_⟩)
    replace h := h.2
    refine callX_mono (callX_len (d := (d + 9)) rfl rfl rfl (c239 (d := d) h)) ?_
    clear h
    rintro v9 M3 ⟨hl, r4, rfl, h⟩
    replace hM := lenT hM hl
    show R238 sl sx d M0 P 57 [some (vR (some l0)), some (vI l1), some (vI l2), some (vI l3), some (vI l4), some (vI l5), some (vI s0)] [vI r4, vR (some l0)] M3
    refine RN_k (callX_det _) 1 _ _ _ _ (show (r4 = 0 → R238 sl sx d M0 P 64 [some (vR (some l0)), some (vI l1), some (vI l2), some (vI l3), some (vI l4), some (vI l5), some (vI s0)] [vR (some l0)] M3) ∧ (¬ (r4 = 0) → R238 sl sx d M0 P 60 [some (vR (some l0)), some (vI l1), some (vI l2), some (vI l3), some (vI l4), some (vI l5), some (vI s0)] [vR (some l0)] M3) from ⟨fun hc => ?_, fun hc => ?_⟩)
    · replace h := h.1 hc
      refine RN_k (callX_det _) 1 _ _ _ _ (show R238 sl sx d M0 P 65 [some (vR (some l0)), some (vI l1), some (vI l2), some (vI l3), some (vI l4), some (vI l5), some (vI s0)] [vI (0 : Int32), vR (some l0)] M3 from ?_)
      exact RN_weak (K := [none, none, none, none, none, none, none]) (callX_det _) (show True from trivial) (t238_65  (some l0) (0 : Int32) _ hM h)
    · replace h := h.2 hc
      refine RN_k (callX_det _) 2 _ _ _ _ (show R238 sl sx d M0 P 65 [some (vR (some l0)), some (vI l1), some (vI l2), some (vI l3), some (vI l4), some (vI l5), some (vI s0)] [vI (1 : Int32), vR (some l0)] M3 from ?_)
      exact RN_weak (K := [none, none, none, none, none, none, none]) (callX_det _) (show True from trivial) (t238_65  (some l0) (1 : Int32) _ hM h)
  · replace h := h.2 hc
    refine RN_k (callX_det _) 3 _ _ _ _ (show kd M l0 10 ∧ callX TBg sl sx (d + 9) 167 [vR (some l0), vI s0] M (fun v M9 => R238 sl sx d M0 P 36 [some (vR (some l0)), some (vI l1), some (vI l2), some (vI l3), some (vI l4), some (vI l5), some (vI s0)] (pushO v []) M9) from ⟨h.1, ?_⟩)
    replace h := h.2
    refine callX_mono (callX_len (d := (d + 9)) rfl rfl rfl (c167 (d := d + 8) h)) ?_
    clear h
    rintro v9 M5 ⟨hl, r6, rfl, h⟩
    replace hM := lenT hM hl
    show R238 sl sx d M0 P 36 [some (vR (some l0)), some (vI l1), some (vI l2), some (vI l3), some (vI l4), some (vI l5), some (vI s0)] [vI r6] M5
    exact RN_k (callX_det _) 1 _ _ _ _ (show rtW q238 M0 (PI P) (some (vI r6)) M5 from ⟨⟨_, rfl⟩, hM.1, hM.2, _, rfl, h⟩)
def w238 (l0 : Nat) (l1 : Int32) (l2 : Int32) (l3 : Int32) (l4 : Int32) (l5 : Int32) (M : MM) (P : Int32 → MM → Prop) : Prop := w166 l3 (0 : Int32) (2 : Int32) M (fun r2 M1 => (r2 ≠ 0 → (kd M1 l0 10 ∧ w237 l0 l1 l2 l4 l5 M1 (fun r4 M3 => w238_23  l0 l1 l2 l3 l4 l5 r4 M3 P))) ∧ (¬ (r2 ≠ 0) → (w238_23  l0 l1 l2 l3 l4 l5 (1 : Int32) M1 P)))
theorem t238_E {sl : Nat} {sx : Nat → Int32} {d : Nat} {M0 : MM} {P : Int32 → MM → Prop} (l0 : Nat) (l1 : Int32) (l2 : Int32) (l3 : Int32) (l4 : Int32) (l5 : Int32) (M : MM) (hM : lenO M0 M) (h : w238  l0 l1 l2 l3 l4 l5 M P) : R238 sl sx d M0 P 0 [some (vR (some l0)), some (vI l1), some (vI l2), some (vI l3), some (vI l4), some (vI l5), none] [] M := by
  refine RN_k (callX_det _) 4 _ _ _ _ (show callX TBg sl sx (d + 9) 166 [vI l3, vI (0 : Int32), vI (2 : Int32)] M (fun v M9 => R238 sl sx d M0 P 6 [some (vR (some l0)), some (vI l1), some (vI l2), some (vI l3), some (vI l4), some (vI l5), none] (pushO v []) M9) from ?_)
  refine callX_mono (callX_len (d := (d + 9)) rfl rfl rfl (c166 (d := d + 8) h)) ?_
  clear h
  rintro v9 M1 ⟨hl, r2, rfl, h⟩
  replace hM := lenT hM hl
  show R238 sl sx d M0 P 6 [some (vR (some l0)), some (vI l1), some (vI l2), some (vI l3), some (vI l4), some (vI l5), none] [vI r2] M1
  refine RN_k (callX_det _) 1 _ _ _ _ (show (r2 ≠ 0 → R238 sl sx d M0 P 13 [some (vR (some l0)), some (vI l1), some (vI l2), some (vI l3), some (vI l4), some (vI l5), none] [] M1) ∧ (¬ (r2 ≠ 0) → R238 sl sx d M0 P 9 [some (vR (some l0)), some (vI l1), some (vI l2), some (vI l3), some (vI l4), some (vI l5), none] [] M1) from ⟨fun hc => ?_, fun hc => ?_⟩)
  · replace h := h.1 hc
    refine RN_k (callX_det _) 6 _ _ _ _ (show kd M1 l0 10 ∧ callX TBg sl sx (d + 9) 237 [vR (some l0), vI l1, vI l2, vI l4, vI l5] M1 (fun v M9 => R238 sl sx d M0 P 23 [some (vR (some l0)), some (vI l1), some (vI l2), some (vI l3), some (vI l4), some (vI l5), none] (pushO v []) M9) from ⟨h.1, ?_⟩)
    replace h := h.2
    refine callX_mono (callX_len (d := (d + 9)) rfl rfl rfl (c237 (d := d + 5) h)) ?_
    clear h
    rintro v9 M3 ⟨hl, r4, rfl, h⟩
    replace hM := lenT hM hl
    show R238 sl sx d M0 P 23 [some (vR (some l0)), some (vI l1), some (vI l2), some (vI l3), some (vI l4), some (vI l5), none] [vI r4] M3
    exact RN_weak (K := [some (vR (some l0)), some (vI l1), some (vI l2), some (vI l3), some (vI l4), some (vI l5), none]) (callX_det _) (show _ ∧ _ ∧ _ ∧ _ ∧ _ ∧ _ ∧ True from ⟨rfl, rfl, rfl, rfl, rfl, rfl, trivial⟩) (t238_23  l0 l1 l2 l3 l4 l5 r4 _ hM h)
  · replace h := h.2 hc
    refine RN_k (callX_det _) 2 _ _ _ _ (show R238 sl sx d M0 P 23 [some (vR (some l0)), some (vI l1), some (vI l2), some (vI l3), some (vI l4), some (vI l5), none] [vI (1 : Int32)] M1 from ?_)
    exact RN_weak (K := [some (vR (some l0)), some (vI l1), some (vI l2), some (vI l3), some (vI l4), some (vI l5), none]) (callX_det _) (show _ ∧ _ ∧ _ ∧ _ ∧ _ ∧ _ ∧ True from ⟨rfl, rfl, rfl, rfl, rfl, rfl, trivial⟩) (t238_23  l0 l1 l2 l3 l4 l5 (1 : Int32) _ hM h)
theorem c238 {sl : Nat} {sx : Nat → Int32} {d : Nat} {l0 : Nat} {l1 : Int32} {l2 : Int32} {l3 : Int32} {l4 : Int32} {l5 : Int32} {M : MM} {P : Int32 → MM → Prop} (h : w238 l0 l1 l2 l3 l4 l5 M P) : callX TBg sl sx (d + 10) 238 [vR (some l0), vI l1, vI l2, vI l3, vI l4, vI l5] M (PI P) :=
  cX (d := d + 9) q238 (false, tb238) rfl rfl rfl (t238_E l0 l1 l2 l3 l4 l5 M lenR h)
