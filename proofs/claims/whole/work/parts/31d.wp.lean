/-! ===== printed by program: what must hold that a call ends with what is asked ===== -/
-- TwoLeash.walk(IIIIIZ)I
abbrev q116 : MQ7 := (7, 1, 9, 9, 0, 0, 1)
abbrev R116 (sl : Nat) (sx : Nat → Int32) (d : Nat) (M0 : MM) (P : Int32 → MM → Prop) : Nat → LL → List VV → MM → Prop := RN 9 false (mS M0).length (mT M0) 0 0 sl sx (callX TBg sl sx (d + 5)) (rtW q116 M0 (PI P)) (as2 tb116)
def w116_139 (s0 : Option Nat) (s1 : Int32) (M : MM) (P : Int32 → MM → Prop) : Prop := ∃ a1, s0 = some a1 ∧ (kd M a1 9 ∧ w35 a1 s1 M (fun r3 M2 => P r3 M2))
theorem t116_139 {sl : Nat} {sx : Nat → Int32} {d : Nat} {M0 : MM} {P : Int32 → MM → Prop} (s0 : Option Nat) (s1 : Int32) (M : MM) (hM : lenO M0 M) (h : w116_139  s0 s1 M P) : R116 sl sx d M0 P 139 [none, none, none, none, none, none, none, none, none] [vI s1, vR s0] M := by
  obtain ⟨a1, he, h⟩ := h
  subst he
  refine RN_k (callX_det _) 1 _ _ _ _ (show kd M a1 9 ∧ callX TBg sl sx (d + 5) 35 [vR (some a1), vI s1] M (fun v M9 => R116 sl sx d M0 P 142 [none, none, none, none, none, none, none, none, none] (pushO v []) M9) from ⟨h.1, ?_⟩)
  replace h := h.2
  refine callX_mono (callX_len (d := (d + 5)) rfl rfl rfl (c35 (d := d + 4) h)) ?_
  clear h
  rintro v9 M2 ⟨hl, r3, rfl, h⟩
  replace hM := lenT hM hl
  show R116 sl sx d M0 P 142 [none, none, none, none, none, none, none, none, none] [vI r3] M2
  exact RN_k (callX_det _) 1 _ _ _ _ (show rtW q116 M0 (PI P) (some (vI r3)) M2 from ⟨⟨_, rfl⟩, hM.1, hM.2, _, rfl, h⟩)
def w116_22 (l0 : Nat) (l1 : Int32) (l2 : Int32) (l3 : Int32) (l4 : Int32) (l5 : Int32) (l6 : Int32) (s0 : Option Nat) (s1 : Option Nat) (s2 : Int32) (M : MM) (P : Int32 → MM → Prop) : Prop := ∃ a1, s1 = some a1 ∧ (kd M a1 9 ∧ w62 a1 s2 l1 l2 M (fun r3 M2 => ∃ a4, s0 = some a4 ∧ (kd M2 a4 9 ∧ (kd (sI M2 a4 10 r3) l0 9 ∧ (((mI (sI M2 a4 10 r3) l0 10) = 0 → (kd (sI M2 a4 10 r3) l0 9 ∧ w77 l0 l1 l2 l3 l4 (sI M2 a4 10 r3) (fun r6 M5 => ∃ a7, r6 = some a7 ∧ (kd M5 a7 1 ∧ w100 a7 (0 : Int32) M5 (fun r9 M8 => (r9 ≠ 0 → (kd M8 a7 1 ∧ w117 a7 M8 (fun M10 => (l5 ≠ (-1 : Int32) → (kd M10 a7 1 ∧ ((l5 < (mI M10 a7 5) → (kd M10 a7 1 ∧ ((l6 = 0 → (kd M10 a7 1 ∧ (∃ a11, mR M10 a7 3 = some a11 ∧ (inb M10 a11 11 (((mI M10 a7 5) - (1 : Int32)) - l5) ∧ (w116_139  (some l0) (mI M10 a11 (((mI M10 a7 5) - (1 : Int32)) - l5).toNatClampNeg) M10 P))))) ∧ (¬ (l6 = 0) → (kd M10 a7 1 ∧ (∃ a12, mR M10 a7 4 = some a12 ∧ (inb M10 a12 11 (((mI M10 a7 5) - (1 : Int32)) - l5) ∧ (w116_139  (some l0) (mI M10 a12 (((mI M10 a7 5) - (1 : Int32)) - l5).toNatClampNeg) M10 P)))))))) ∧ (¬ (l5 < (mI M10 a7 5)) → (kd M10 l0 9 ∧ w17 l0 (5 : Int32) M10 (fun r14 M13 => P r14 M13)))))) ∧ (¬ (l5 ≠ (-1 : Int32)) → (kd M10 a7 1 ∧ (kd M10 l0 9 ∧ w35 l0 (mI M10 a7 5) M10 (fun r16 M15 => P r16 M15))))))) ∧ (¬ (r9 ≠ 0) → (kd M8 l0 9 ∧ w17 l0 (5 : Int32) M8 (fun r18 M17 => P r18 M17)))))))) ∧ (¬ ((mI (sI M2 a4 10 r3) l0 10) = 0) → (P (-1 : Int32) (sI M2 a4 10 r3))))))))
theorem t116_22 {sl : Nat} {sx : Nat → Int32} {d : Nat} {M0 : MM} {P : Int32 → MM → Prop} (l0 : Nat) (l1 : Int32) (l2 : Int32) (l3 : Int32) (l4 : Int32) (l5 : Int32) (l6 : Int32) (s0 : Option Nat) (s1 : Option Nat) (s2 : Int32) (M : MM) (hM : lenO M0 M) (h : w116_22  l0 l1 l2 l3 l4 l5 l6 s0 s1 s2 M P) : R116 sl sx d M0 P 22 [some (vR (some l0)), some (vI l1), some (vI l2), some (vI l3), some (vI l4), some (vI l5), some (vI l6), none, none] [vI s2, vR s1, vR s0] M := by
  obtain ⟨a1, he, h⟩ := h
  refine RN_k (callX_det _) 2 _ _ _ _ (show R116 sl sx d M0 P 24 [some (vR (some l0)), some (vI l1), some (vI l2), some (vI l3), some (vI l4), some (vI l5), some (vI l6), none, none] [vI l2, vI l1, vI s2, vR s1, vR s0] M from ?_)
  subst he
  refine RN_k (callX_det _) 1 _ _ _ _ (show kd M a1 9 ∧ callX TBg sl sx (d + 5) 62 [vR (some a1), vI s2, vI l1, vI l2] M (fun v M9 => R116 sl sx d M0 P 27 [some (vR (some l0)), some (vI l1), some (vI l2), some (vI l3), some (vI l4), some (vI l5), some (vI l6), none, none] (pushO v [vR s0]) M9) from ⟨h.1, ?_⟩)
  replace h := h.2
  refine callX_mono (callX_len (d := (d + 5)) rfl rfl rfl (c62 (d := d + 3) h)) ?_
  clear h
  rintro v9 M2 ⟨hl, r3, rfl, h⟩
  replace hM := lenT hM hl
  show R116 sl sx d M0 P 27 [some (vR (some l0)), some (vI l1), some (vI l2), some (vI l3), some (vI l4), some (vI l5), some (vI l6), none, none] [vI r3, vR s0] M2
  obtain ⟨a4, he, h⟩ := h
  subst he
  refine RN_k (callX_det _) 1 _ _ _ _ (show kd M2 a4 9 ∧ R116 sl sx d M0 P 30 [some (vR (some l0)), some (vI l1), some (vI l2), some (vI l3), some (vI l4), some (vI l5), some (vI l6), none, none] [] (sI M2 a4 10 r3) from ⟨h.1, ?_⟩)
  replace h := h.2
  refine RN_k (callX_det _) 2 _ _ _ _ (show kd (sI M2 a4 10 r3) l0 9 ∧ R116 sl sx d M0 P 34 [some (vR (some l0)), some (vI l1), some (vI l2), some (vI l3), some (vI l4), some (vI l5), some (vI l6), none, none] [vI (mI (sI M2 a4 10 r3) l0 10)] (sI M2 a4 10 r3) from ⟨h.1, ?_⟩)
  replace h := h.2
  refine RN_k (callX_det _) 1 _ _ _ _ (show ((mI (sI M2 a4 10 r3) l0 10) = 0 → R116 sl sx d M0 P 39 [some (vR (some l0)), some (vI l1), some (vI l2), some (vI l3), some (vI l4), some (vI l5), some (vI l6), none, none] [] (sI M2 a4 10 r3)) ∧ (¬ ((mI (sI M2 a4 10 r3) l0 10) = 0) → R116 sl sx d M0 P 37 [some (vR (some l0)), some (vI l1), some (vI l2), some (vI l3), some (vI l4), some (vI l5), some (vI l6), none, none] [] (sI M2 a4 10 r3)) from ⟨fun hc => ?_, fun hc => ?_⟩)
  · replace h := h.1 hc
    refine RN_k (callX_det _) 6 _ _ _ _ (show kd (sI M2 a4 10 r3) l0 9 ∧ callX TBg sl sx (d + 5) 77 [vR (some l0), vI l1, vI l2, vI l3, vI l4] (sI M2 a4 10 r3) (fun v M9 => R116 sl sx d M0 P 48 [some (vR (some l0)), some (vI l1), some (vI l2), some (vI l3), some (vI l4), some (vI l5), some (vI l6), none, none] (pushO v []) M9) from ⟨h.1, ?_⟩)
    replace h := h.2
    refine callX_mono (callX_len (d := (d + 5)) rfl rfl rfl (c77 (d := d) h)) ?_
    clear h
    rintro v9 M5 ⟨hl, r6, rfl, h⟩
    replace hM := lenT hM hl
    show R116 sl sx d M0 P 48 [some (vR (some l0)), some (vI l1), some (vI l2), some (vI l3), some (vI l4), some (vI l5), some (vI l6), none, none] [vR r6] M5
    obtain ⟨a7, he, h⟩ := h
    refine RN_k (callX_det _) 3 _ _ _ _ (show R116 sl sx d M0 P 53 [some (vR (some l0)), some (vI l1), some (vI l2), some (vI l3), some (vI l4), some (vI l5), some (vI l6), some (vR r6), none] [vI (0 : Int32), vR r6] M5 from ?_)
    subst he
    refine RN_k (callX_det _) 1 _ _ _ _ (show kd M5 a7 1 ∧ callX TBg sl sx (d + 5) 100 [vR (some a7), vI (0 : Int32)] M5 (fun v M9 => R116 sl sx d M0 P 56 [some (vR (some l0)), some (vI l1), some (vI l2), some (vI l3), some (vI l4), some (vI l5), some (vI l6), some (vR (some a7)), none] (pushO v []) M9) from ⟨h.1, ?_⟩)
    replace h := h.2
    refine callX_mono (callX_len (d := (d + 5)) rfl rfl rfl (c100 (d := d + 2) h)) ?_
    clear h
    rintro v9 M8 ⟨hl, r9, rfl, h⟩
    replace hM := lenT hM hl
    show R116 sl sx d M0 P 56 [some (vR (some l0)), some (vI l1), some (vI l2), some (vI l3), some (vI l4), some (vI l5), some (vI l6), some (vR (some a7)), none] [vI r9] M8
    refine RN_k (callX_det _) 1 _ _ _ _ (show (r9 ≠ 0 → R116 sl sx d M0 P 65 [some (vR (some l0)), some (vI l1), some (vI l2), some (vI l3), some (vI l4), some (vI l5), some (vI l6), some (vR (some a7)), none] [] M8) ∧ (¬ (r9 ≠ 0) → R116 sl sx d M0 P 59 [some (vR (some l0)), some (vI l1), some (vI l2), some (vI l3), some (vI l4), some (vI l5), some (vI l6), some (vR (some a7)), none] [] M8) from ⟨fun hc => ?_, fun hc => ?_⟩)
    · replace h := h.1 hc
      refine RN_k (callX_det _) 2 _ _ _ _ (show kd M8 a7 1 ∧ callX TBg sl sx (d + 5) 117 [vR (some a7)] M8 (fun v M9 => R116 sl sx d M0 P 70 [some (vR (some l0)), some (vI l1), some (vI l2), some (vI l3), some (vI l4), some (vI l5), some (vI l6), some (vR (some a7)), none] (pushO v []) M9) from ⟨h.1, ?_⟩)
      replace h := h.2
      refine callX_mono (callX_len (d := (d + 5)) rfl rfl rfl (c117 (d := d + 3) h)) ?_
      clear h
      rintro v9 M10 ⟨hl, rfl, h⟩
      replace hM := lenT hM hl
      show R116 sl sx d M0 P 70 [some (vR (some l0)), some (vI l1), some (vI l2), some (vI l3), some (vI l4), some (vI l5), some (vI l6), some (vR (some a7)), none] [] M10
      refine RN_k (callX_det _) 3 _ _ _ _ (show (l5 ≠ (-1 : Int32) → R116 sl sx d M0 P 86 [some (vR (some l0)), some (vI l1), some (vI l2), some (vI l3), some (vI l4), some (vI l5), some (vI l6), some (vR (some a7)), none] [] M10) ∧ (¬ (l5 ≠ (-1 : Int32)) → R116 sl sx d M0 P 76 [some (vR (some l0)), some (vI l1), some (vI l2), some (vI l3), some (vI l4), some (vI l5), some (vI l6), some (vR (some a7)), none] [] M10) from ⟨fun hc => ?_, fun hc => ?_⟩)
      · replace h := h.1 hc
        refine RN_k (callX_det _) 3 _ _ _ _ (show kd M10 a7 1 ∧ R116 sl sx d M0 P 93 [some (vR (some l0)), some (vI l1), some (vI l2), some (vI l3), some (vI l4), some (vI l5), some (vI l6), some (vR (some a7)), none] [vI (mI M10 a7 5), vI l5] M10 from ⟨h.1, ?_⟩)
        replace h := h.2
        refine RN_k (callX_det _) 1 _ _ _ _ (show (l5 < (mI M10 a7 5) → R116 sl sx d M0 P 102 [some (vR (some l0)), some (vI l1), some (vI l2), some (vI l3), some (vI l4), some (vI l5), some (vI l6), some (vR (some a7)), none] [] M10) ∧ (¬ (l5 < (mI M10 a7 5)) → R116 sl sx d M0 P 96 [some (vR (some l0)), some (vI l1), some (vI l2), some (vI l3), some (vI l4), some (vI l5), some (vI l6), some (vR (some a7)), none] [] M10) from ⟨fun hc => ?_, fun hc => ?_⟩)
        · replace h := h.1 hc
          refine RN_k (callX_det _) 2 _ _ _ _ (show kd M10 a7 1 ∧ R116 sl sx d M0 P 107 [some (vR (some l0)), some (vI l1), some (vI l2), some (vI l3), some (vI l4), some (vI l5), some (vI l6), some (vR (some a7)), none] [vI (mI M10 a7 5)] M10 from ⟨h.1, ?_⟩)
          replace h := h.2
          refine RN_k (callX_det _) 8 _ _ _ _ (show (l6 = 0 → R116 sl sx d M0 P 131 [some (vR (some l0)), some (vI l1), some (vI l2), some (vI l3), some (vI l4), some (vI l5), some (vI l6), some (vR (some a7)), some (vI (((mI M10 a7 5) - (1 : Int32)) - l5))] [vR (some l0)] M10) ∧ (¬ (l6 = 0) → R116 sl sx d M0 P 120 [some (vR (some l0)), some (vI l1), some (vI l2), some (vI l3), some (vI l4), some (vI l5), some (vI l6), some (vR (some a7)), some (vI (((mI M10 a7 5) - (1 : Int32)) - l5))] [vR (some l0)] M10) from ⟨fun hc => ?_, fun hc => ?_⟩)
          · replace h := h.1 hc
            refine RN_k (callX_det _) 2 _ _ _ _ (show kd M10 a7 1 ∧ R116 sl sx d M0 P 136 [some (vR (some l0)), some (vI l1), some (vI l2), some (vI l3), some (vI l4), some (vI l5), some (vI l6), some (vR (some a7)), some (vI (((mI M10 a7 5) - (1 : Int32)) - l5))] [vR (mR M10 a7 3), vR (some l0)] M10 from ⟨h.1, ?_⟩)
            replace h := h.2
            obtain ⟨a11, he, h⟩ := h
            refine RN_k (callX_det _) 1 _ _ _ _ (show R116 sl sx d M0 P 138 [some (vR (some l0)), some (vI l1), some (vI l2), some (vI l3), some (vI l4), some (vI l5), some (vI l6), some (vR (some a7)), some (vI (((mI M10 a7 5) - (1 : Int32)) - l5))] [vI (((mI M10 a7 5) - (1 : Int32)) - l5), vR (mR M10 a7 3), vR (some l0)] M10 from ?_)
            rw [he]
            refine RN_k (callX_det _) 1 _ _ _ _ (show inb M10 a11 11 (((mI M10 a7 5) - (1 : Int32)) - l5) ∧ R116 sl sx d M0 P 139 [some (vR (some l0)), some (vI l1), some (vI l2), some (vI l3), some (vI l4), some (vI l5), some (vI l6), some (vR (some a7)), some (vI (((mI M10 a7 5) - (1 : Int32)) - l5))] [vI (mI M10 a11 (((mI M10 a7 5) - (1 : Int32)) - l5).toNatClampNeg), vR (some l0)] M10 from ⟨h.1, ?_⟩)
            replace h := h.2
            exact RN_weak (K := [none, none, none, none, none, none, none, none, none]) (callX_det _) (show True from trivial) (t116_139  (some l0) (mI M10 a11 (((mI M10 a7 5) - (1 : Int32)) - l5).toNatClampNeg) _ hM h)
          · replace h := h.2 hc
            refine RN_k (callX_det _) 2 _ _ _ _ (show kd M10 a7 1 ∧ R116 sl sx d M0 P 125 [some (vR (some l0)), some (vI l1), some (vI l2), some (vI l3), some (vI l4), some (vI l5), some (vI l6), some (vR (some a7)), some (vI (((mI M10 a7 5) - (1 : Int32)) - l5))] [vR (mR M10 a7 4), vR (some l0)] M10 from ⟨h.1, ?_⟩)
            replace h := h.2
            obtain ⟨a12, he, h⟩ := h
            refine RN_k (callX_det _) 1 _ _ _ _ (show R116 sl sx d M0 P 127 [some (vR (some l0)), some (vI l1), some (vI l2), some (vI l3), some (vI l4), some (vI l5), some (vI l6), some (vR (some a7)), some (vI (((mI M10 a7 5) - (1 : Int32)) - l5))] [vI (((mI M10 a7 5) - (1 : Int32)) - l5), vR (mR M10 a7 4), vR (some l0)] M10 from ?_)
            rw [he]
            refine RN_k (callX_det _) 1 _ _ _ _ (show inb M10 a12 11 (((mI M10 a7 5) - (1 : Int32)) - l5) ∧ R116 sl sx d M0 P 128 [some (vR (some l0)), some (vI l1), some (vI l2), some (vI l3), some (vI l4), some (vI l5), some (vI l6), some (vR (some a7)), some (vI (((mI M10 a7 5) - (1 : Int32)) - l5))] [vI (mI M10 a12 (((mI M10 a7 5) - (1 : Int32)) - l5).toNatClampNeg), vR (some l0)] M10 from ⟨h.1, ?_⟩)
            replace h := h.2
            refine RN_k (callX_det _) 1 _ _ _ _ (show R116 sl sx d M0 P 139 [some (vR (some l0)), some (vI l1), some (vI l2), some (vI l3), some (vI l4), some (vI l5), some (vI l6), some (vR (some a7)), some (vI (((mI M10 a7 5) - (1 : Int32)) - l5))] [vI (mI M10 a12 (((mI M10 a7 5) - (1 : Int32)) - l5).toNatClampNeg), vR (some l0)] M10 from ?_)
            exact RN_weak (K := [none, none, none, none, none, none, none, none, none]) (callX_det _) (show True from trivial) (t116_139  (some l0) (mI M10 a12 (((mI M10 a7 5) - (1 : Int32)) - l5).toNatClampNeg) _ hM h)
        · replace h := h.2 hc
          refine RN_k (callX_det _) 3 _ _ _ _ (show kd M10 l0 9 ∧ callX TBg sl sx (d + 5) 17 [vR (some l0), vI (5 : Int32)] M10 (fun v M9 => R116 sl sx d M0 P 101 [some (vR (some l0)), some (vI l1), some (vI l2), some (vI l3), some (vI l4), some (vI l5), some (vI l6), some (vR (some a7)), none] (pushO v []) M9) from ⟨h.1, ?_⟩)
          replace h := h.2
          refine callX_mono (callX_len (d := (d + 5)) rfl rfl rfl (c17 (d := d + 4) h)) ?_
          clear h
          rintro v9 M13 ⟨hl, r14, rfl, h⟩
          replace hM := lenT hM hl
          show R116 sl sx d M0 P 101 [some (vR (some l0)), some (vI l1), some (vI l2), some (vI l3), some (vI l4), some (vI l5), some (vI l6), some (vR (some a7)), none] [vI r14] M13
          exact RN_k (callX_det _) 1 _ _ _ _ (show rtW q116 M0 (PI P) (some (vI r14)) M13 from ⟨⟨_, rfl⟩, hM.1, hM.2, _, rfl, h⟩)
      · replace h := h.2 hc
        refine RN_k (callX_det _) 3 _ _ _ _ (show kd M10 a7 1 ∧ R116 sl sx d M0 P 82 [some (vR (some l0)), some (vI l1), some (vI l2), some (vI l3), some (vI l4), some (vI l5), some (vI l6), some (vR (some a7)), none] [vI (mI M10 a7 5), vR (some l0)] M10 from ⟨h.1, ?_⟩)
        replace h := h.2
        refine RN_k (callX_det _) 1 _ _ _ _ (show kd M10 l0 9 ∧ callX TBg sl sx (d + 5) 35 [vR (some l0), vI (mI M10 a7 5)] M10 (fun v M9 => R116 sl sx d M0 P 85 [some (vR (some l0)), some (vI l1), some (vI l2), some (vI l3), some (vI l4), some (vI l5), some (vI l6), some (vR (some a7)), none] (pushO v []) M9) from ⟨h.1, ?_⟩)
        replace h := h.2
        refine callX_mono (callX_len (d := (d + 5)) rfl rfl rfl (c35 (d := d + 4) h)) ?_
        clear h
        rintro v9 M15 ⟨hl, r16, rfl, h⟩
        replace hM := lenT hM hl
        show R116 sl sx d M0 P 85 [some (vR (some l0)), some (vI l1), some (vI l2), some (vI l3), some (vI l4), some (vI l5), some (vI l6), some (vR (some a7)), none] [vI r16] M15
        exact RN_k (callX_det _) 1 _ _ _ _ (show rtW q116 M0 (PI P) (some (vI r16)) M15 from ⟨⟨_, rfl⟩, hM.1, hM.2, _, rfl, h⟩)
    · replace h := h.2 hc
      refine RN_k (callX_det _) 3 _ _ _ _ (show kd M8 l0 9 ∧ callX TBg sl sx (d + 5) 17 [vR (some l0), vI (5 : Int32)] M8 (fun v M9 => R116 sl sx d M0 P 64 [some (vR (some l0)), some (vI l1), some (vI l2), some (vI l3), some (vI l4), some (vI l5), some (vI l6), some (vR (some a7)), none] (pushO v []) M9) from ⟨h.1, ?_⟩)
      replace h := h.2
      refine callX_mono (callX_len (d := (d + 5)) rfl rfl rfl (c17 (d := d + 4) h)) ?_
      clear h
      rintro v9 M17 ⟨hl, r18, rfl, h⟩
      replace hM := lenT hM hl
      show R116 sl sx d M0 P 64 [some (vR (some l0)), some (vI l1), some (vI l2), some (vI l3), some (vI l4), some (vI l5), some (vI l6), some (vR (some a7)), none] [vI r18] M17
      exact RN_k (callX_det _) 1 _ _ _ _ (show rtW q116 M0 (PI P) (some (vI r18)) M17 from ⟨⟨_, rfl⟩, hM.1, hM.2, _, rfl, h⟩)
  · replace h := h.2 hc
    exact RN_k (callX_det _) 2 _ _ _ _ (show rtW q116 M0 (PI P) (some (vI (-1 : Int32))) (sI M2 a4 10 r3) from ⟨⟨_, rfl⟩, hM.1, hM.2, _, rfl, h⟩)
def w116_21 (l0 : Nat) (l1 : Int32) (l2 : Int32) (l3 : Int32) (l4 : Int32) (l5 : Int32) (l6 : Int32) (s0 : Option Nat) (s1 : Option Nat) (M : MM) (P : Int32 → MM → Prop) : Prop := w116_22  l0 l1 l2 l3 l4 l5 l6 s0 s1 (0 : Int32) M P
theorem t116_21 {sl : Nat} {sx : Nat → Int32} {d : Nat} {M0 : MM} {P : Int32 → MM → Prop} (l0 : Nat) (l1 : Int32) (l2 : Int32) (l3 : Int32) (l4 : Int32) (l5 : Int32) (l6 : Int32) (s0 : Option Nat) (s1 : Option Nat) (M : MM) (hM : lenO M0 M) (h : w116_21  l0 l1 l2 l3 l4 l5 l6 s0 s1 M P) : R116 sl sx d M0 P 21 [some (vR (some l0)), some (vI l1), some (vI l2), some (vI l3), some (vI l4), some (vI l5), some (vI l6), none, none] [vR s1, vR s0] M := by
  refine RN_k (callX_det _) 1 _ _ _ _ (show R116 sl sx d M0 P 22 [some (vR (some l0)), some (vI l1), some (vI l2), some (vI l3), some (vI l4), some (vI l5), some (vI l6), none, none] [vI (0 : Int32), vR s1, vR s0] M from ?_)
  exact RN_weak (K := [some (vR (some l0)), some (vI l1), some (vI l2), some (vI l3), some (vI l4), some (vI l5), some (vI l6), none, none]) (callX_det _) (show _ ∧ _ ∧ _ ∧ _ ∧ _ ∧ _ ∧ _ ∧ True from ⟨rfl, rfl, rfl, rfl, rfl, rfl, rfl, trivial⟩) (t116_22  l0 l1 l2 l3 l4 l5 l6 s0 s1 (0 : Int32) _ hM h)
def w116 (l0 : Nat) (l1 : Int32) (l2 : Int32) (l3 : Int32) (l4 : Int32) (l5 : Int32) (l6 : Int32) (M : MM) (P : Int32 → MM → Prop) : Prop := w74 l3 l4 M (fun r2 M1 => (r2 = 0 → (w116_21  l0 l1 l2 l3 l4 l5 l6 (some l0) (some l0) M1 P)) ∧ (¬ (r2 = 0) → ((l5 < (-1 : Int32) → (w116_21  l0 l1 l2 l3 l4 l5 l6 (some l0) (some l0) M1 P)) ∧ (¬ (l5 < (-1 : Int32)) → (w116_22  l0 l1 l2 l3 l4 l5 l6 (some l0) (some l0) (1 : Int32) M1 P)))))
theorem t116_E {sl : Nat} {sx : Nat → Int32} {d : Nat} {M0 : MM} {P : Int32 → MM → Prop} (l0 : Nat) (l1 : Int32) (l2 : Int32) (l3 : Int32) (l4 : Int32) (l5 : Int32) (l6 : Int32) (M : MM) (hM : lenO M0 M) (h : w116  l0 l1 l2 l3 l4 l5 l6 M P) : R116 sl sx d M0 P 0 [some (vR (some l0)), some (vI l1), some (vI l2), some (vI l3), some (vI l4), some (vI l5), some (vI l6), none, none] [] M := by
  refine RN_k (callX_det _) 5 _ _ _ _ (show callX TBg sl sx (d + 5) 74 [vI l3, vI l4] M (fun v M9 => R116 sl sx d M0 P 8 [some (vR (some l0)), some (vI l1), some (vI l2), some (vI l3), some (vI l4), some (vI l5), some (vI l6), none, none] (pushO v [vR (some l0), vR (some l0)]) M9) from ?_)
  refine callX_mono (callX_len (d := (d + 5)) rfl rfl rfl (c74 (d := d + 4) h)) ?_
  clear h
  rintro v9 M1 ⟨hl, r2, rfl, h⟩
  replace hM := lenT hM hl
  show R116 sl sx d M0 P 8 [some (vR (some l0)), some (vI l1), some (vI l2), some (vI l3), some (vI l4), some (vI l5), some (vI l6), none, none] [vI r2, vR (some l0), vR (some l0)] M1
  refine RN_k (callX_det _) 1 _ _ _ _ (show (r2 = 0 → R116 sl sx d M0 P 21 [some (vR (some l0)), some (vI l1), some (vI l2), some (vI l3), some (vI l4), some (vI l5), some (vI l6), none, none] [vR (some l0), vR (some l0)] M1) ∧ (¬ (r2 = 0) → R116 sl sx d M0 P 11 [some (vR (some l0)), some (vI l1), some (vI l2), some (vI l3), some (vI l4), some (vI l5), some (vI l6), none, none] [vR (some l0), vR (some l0)] M1) from ⟨fun hc => ?_, fun hc => ?_⟩)
  · replace h := h.1 hc
    exact RN_weak (K := [some (vR (some l0)), some (vI l1), some (vI l2), some (vI l3), some (vI l4), some (vI l5), some (vI l6), none, none]) (callX_det _) (show _ ∧ _ ∧ _ ∧ _ ∧ _ ∧ _ ∧ _ ∧ True from ⟨rfl, rfl, rfl, rfl, rfl, rfl, rfl, trivial⟩) (t116_21  l0 l1 l2 l3 l4 l5 l6 (some l0) (some l0) _ hM h)
  · replace h := h.2 hc
    refine RN_k (callX_det _) 3 _ _ _ _ (show (l5 < (-1 : Int32) → R116 sl sx d M0 P 21 [some (vR (some l0)), some (vI l1), some (vI l2), some (vI l3), some (vI l4), some (vI l5), some (vI l6), none, none] [vR (some l0), vR (some l0)] M1) ∧ (¬ (l5 < (-1 : Int32)) → R116 sl sx d M0 P 17 [some (vR (some l0)), some (vI l1), some (vI l2), some (vI l3), some (vI l4), some (vI l5), some (vI l6), none, none] [vR (some l0), vR (some l0)] M1) from ⟨fun hc => ?_, fun hc => ?_⟩)
    · replace h := h.1 hc
      exact RN_weak (K := [some (vR (some l0)), some (vI l1), some (vI l2), some (vI l3), some (vI l4), some (vI l5), some (vI l6), none, none]) (callX_det _) (show _ ∧ _ ∧ _ ∧ _ ∧ _ ∧ _ ∧ _ ∧ True from ⟨rfl, rfl, rfl, rfl, rfl, rfl, rfl, trivial⟩) (t116_21  l0 l1 l2 l3 l4 l5 l6 (some l0) (some l0) _ hM h)
    · replace h := h.2 hc
      refine RN_k (callX_det _) 2 _ _ _ _ (show R116 sl sx d M0 P 22 [some (vR (some l0)), some (vI l1), some (vI l2), some (vI l3), some (vI l4), some (vI l5), some (vI l6), none, none] [vI (1 : Int32), vR (some l0), vR (some l0)] M1 from ?_)
      exact RN_weak (K := [some (vR (some l0)), some (vI l1), some (vI l2), some (vI l3), some (vI l4), some (vI l5), some (vI l6), none, none]) (callX_det _) (show _ ∧ _ ∧ _ ∧ _ ∧ _ ∧ _ ∧ _ ∧ True from ⟨rfl, rfl, rfl, rfl, rfl, rfl, rfl, trivial⟩) (t116_22  l0 l1 l2 l3 l4 l5 l6 (some l0) (some l0) (1 : Int32) _ hM h)
theorem c116 {sl : Nat} {sx : Nat → Int32} {d : Nat} {l0 : Nat} {l1 : Int32} {l2 : Int32} {l3 : Int32} {l4 : Int32} {l5 : Int32} {l6 : Int32} {M : MM} {P : Int32 → MM → Prop} (h : w116 l0 l1 l2 l3 l4 l5 l6 M P) : callX TBg sl sx (d + 6) 116 [vR (some l0), vI l1, vI l2, vI l3, vI l4, vI l5, vI l6] M (PI P) :=
  cX (d := d + 5) q116 (false, tb116) rfl rfl rfl (t116_E l0 l1 l2 l3 l4 l5 l6 M lenR h)
-- TwoLeash$Jumps.jump(I)I
abbrev q119 : MQ7 := (2, 1, 6, 4, 0, 0, 1)
abbrev R119 (sl : Nat) (sx : Nat → Int32) (d : Nat) (M0 : MM) (P : Int32 → MM → Prop) : Nat → LL → List VV → MM → Prop := RN 4 false (mS M0).length (mT M0) 0 0 sl sx (callX TBg sl sx (d + 1)) (rtW q119 M0 (PI P)) (as2 tb119)
def w119_168 (l2 : Int32) (M : MM) (P : Int32 → MM → Prop) : Prop := P l2 M
theorem t119_168 {sl : Nat} {sx : Nat → Int32} {d : Nat} {M0 : MM} {P : Int32 → MM → Prop} (l2 : Int32) (M : MM) (hM : lenO M0 M) (h : w119_168  l2 M P) : R119 sl sx d M0 P 168 [none, none, some (vI l2), none, none, none] [] M := by
  exact RN_k (callX_det _) 2 _ _ _ _ (show rtW q119 M0 (PI P) (some (vI l2)) M from ⟨⟨_, rfl⟩, hM.1, hM.2, _, rfl, h⟩)
def w119_159 (k19 : Nat → Int32 → Int32 → MM → Prop) (l0 : Nat) (l2 : Int32) (l3 : Int32) (s0 : Option Nat) (s1 : Int32) (M : MM) (P : Int32 → MM → Prop) : Prop := ∃ a1, s0 = some a1 ∧ (kd M a1 4 ∧ (k19 l0 (l2 + (1 : Int32)) l3 (sI M a1 8 s1)))
theorem t119_159 {sl : Nat} {sx : Nat → Int32} {d : Nat} {M0 : MM} {P : Int32 → MM → Prop} {k19 : Nat → Int32 → Int32 → MM → Prop} (hk19 : ∀ (l0 : Nat) (l2 : Int32) (l3 : Int32) (M : MM), lenO M0 M → k19 l0 l2 l3 M → R119 sl sx d M0 P 19 [some (vR (some l0)), none, some (vI l2), some (vI l3), none, none] [] M) (l0 : Nat) (l2 : Int32) (l3 : Int32) (s0 : Option Nat) (s1 : Int32) (M : MM) (hM : lenO M0 M) (h : w119_159 k19 l0 l2 l3 s0 s1 M P) : R119 sl sx d M0 P 159 [some (vR (some l0)), none, some (vI l2), some (vI l3), none, none] [vI s1, vR s0] M := by
  obtain ⟨a1, he, h⟩ := h
  subst he
  refine RN_k (callX_det _) 1 _ _ _ _ (show kd M a1 4 ∧ R119 sl sx d M0 P 162 [some (vR (some l0)), none, some (vI l2), some (vI l3), none, none] [] (sI M a1 8 s1) from ⟨h.1, ?_⟩)
  replace h := h.2
  refine RN_k (callX_det _) 2 _ _ _ _ (show R119 sl sx d M0 P 19 [some (vR (some l0)), none, some (vI (l2 + (1 : Int32))), some (vI l3), none, none] [] (sI M a1 8 s1) from ?_)
  exact RN_weak (K := [some (vR (some l0)), none, some (vI (l2 + (1 : Int32))), some (vI l3), none, none]) (callX_det _) (show _ ∧ _ ∧ _ ∧ True from ⟨rfl, rfl, rfl, trivial⟩) (hk19 l0 (l2 + (1 : Int32)) l3 _ hM h)
def w119_137 (k19 : Nat → Int32 → Int32 → MM → Prop) (l0 : Nat) (l2 : Int32) (l3 : Int32) (l5 : Int32) (s0 : Option Nat) (s1 : Int32) (M : MM) (P : Int32 → MM → Prop) : Prop := ∃ a1, s0 = some a1 ∧ (kd M a1 4 ∧ ((l5 = 0 → (kd (sI M a1 7 s1) l0 4 ∧ (w119_159 k19 l0 l2 l3 (some l0) ((mI (sI M a1 7 s1) l0 8) + (1 : Int32)) (sI M a1 7 s1) P))) ∧ (¬ (l5 = 0) → (kd (sI M a1 7 s1) l0 4 ∧ (w119_159 k19 l0 l2 l3 (some l0) (mI (sI M a1 7 s1) l0 8) (sI M a1 7 s1) P)))))
theorem t119_137 {sl : Nat} {sx : Nat → Int32} {d : Nat} {M0 : MM} {P : Int32 → MM → Prop} {k19 : Nat → Int32 → Int32 → MM → Prop} (hk19 : ∀ (l0 : Nat) (l2 : Int32) (l3 : Int32) (M : MM), lenO M0 M → k19 l0 l2 l3 M → R119 sl sx d M0 P 19 [some (vR (some l0)), none, some (vI l2), some (vI l3), none, none] [] M) (l0 : Nat) (l2 : Int32) (l3 : Int32) (l5 : Int32) (s0 : Option Nat) (s1 : Int32) (M : MM) (hM : lenO M0 M) (h : w119_137 k19 l0 l2 l3 l5 s0 s1 M P) : R119 sl sx d M0 P 137 [some (vR (some l0)), none, some (vI l2), some (vI l3), none, some (vI l5)] [vI s1, vR s0] M := by
  obtain ⟨a1, he, h⟩ := h
  subst he
  refine RN_k (callX_det _) 1 _ _ _ _ (show kd M a1 4 ∧ R119 sl sx d M0 P 140 [some (vR (some l0)), none, some (vI l2), some (vI l3), none, some (vI l5)] [] (sI M a1 7 s1) from ⟨h.1, ?_⟩)
  replace h := h.2
  refine RN_k (callX_det _) 3 _ _ _ _ (show (l5 = 0 → R119 sl sx d M0 P 153 [some (vR (some l0)), none, some (vI l2), some (vI l3), none, some (vI l5)] [vR (some l0)] (sI M a1 7 s1)) ∧ (¬ (l5 = 0) → R119 sl sx d M0 P 146 [some (vR (some l0)), none, some (vI l2), some (vI l3), none, some (vI l5)] [vR (some l0)] (sI M a1 7 s1)) from ⟨fun hc => ?_, fun hc => ?_⟩)
  · replace h := h.1 hc
    refine RN_k (callX_det _) 2 _ _ _ _ (show kd (sI M a1 7 s1) l0 4 ∧ R119 sl sx d M0 P 157 [some (vR (some l0)), none, some (vI l2), some (vI l3), none, some (vI l5)] [vI (mI (sI M a1 7 s1) l0 8), vR (some l0)] (sI M a1 7 s1) from ⟨h.1, ?_⟩)
    replace h := h.2
    refine RN_k (callX_det _) 2 _ _ _ _ (show R119 sl sx d M0 P 159 [some (vR (some l0)), none, some (vI l2), some (vI l3), none, some (vI l5)] [vI ((mI (sI M a1 7 s1) l0 8) + (1 : Int32)), vR (some l0)] (sI M a1 7 s1) from ?_)
    exact RN_weak (K := [some (vR (some l0)), none, some (vI l2), some (vI l3), none, none]) (callX_det _) (show _ ∧ _ ∧ _ ∧ True from ⟨rfl, rfl, rfl, trivial⟩) (t119_159 hk19 l0 l2 l3 (some l0) ((mI (sI M a1 7 s1) l0 8) + (1 : Int32)) _ hM h)
  · replace h := h.2 hc
    refine RN_k (callX_det _) 2 _ _ _ _ (show kd (sI M a1 7 s1) l0 4 ∧ R119 sl sx d M0 P 150 [some (vR (some l0)), none, some (vI l2), some (vI l3), none, some (vI l5)] [vI (mI (sI M a1 7 s1) l0 8), vR (some l0)] (sI M a1 7 s1) from ⟨h.1, ?_⟩)
    replace h := h.2
    refine RN_k (callX_det _) 1 _ _ _ _ (show R119 sl sx d M0 P 159 [some (vR (some l0)), none, some (vI l2), some (vI l3), none, some (vI l5)] [vI (mI (sI M a1 7 s1) l0 8), vR (some l0)] (sI M a1 7 s1) from ?_)
    exact RN_weak (K := [some (vR (some l0)), none, some (vI l2), some (vI l3), none, none]) (callX_det _) (show _ ∧ _ ∧ _ ∧ True from ⟨rfl, rfl, rfl, trivial⟩) (t119_159 hk19 l0 l2 l3 (some l0) (mI (sI M a1 7 s1) l0 8) _ hM h)
def w119_124 (k19 : Nat → Int32 → Int32 → MM → Prop) (l0 : Nat) (l2 : Int32) (l3 : Int32) (l5 : Int32) (s0 : Option Nat) (M : MM) (P : Int32 → MM → Prop) : Prop := kd M l0 4 ∧ (w119_137 k19 l0 l2 l3 l5 s0 ((mI M l0 7) + (1 : Int32)) M P)
theorem t119_124 {sl : Nat} {sx : Nat → Int32} {d : Nat} {M0 : MM} {P : Int32 → MM → Prop} {k19 : Nat → Int32 → Int32 → MM → Prop} (hk19 : ∀ (l0 : Nat) (l2 : Int32) (l3 : Int32) (M : MM), lenO M0 M → k19 l0 l2 l3 M → R119 sl sx d M0 P 19 [some (vR (some l0)), none, some (vI l2), some (vI l3), none, none] [] M) (l0 : Nat) (l2 : Int32) (l3 : Int32) (l5 : Int32) (s0 : Option Nat) (M : MM) (hM : lenO M0 M) (h : w119_124 k19 l0 l2 l3 l5 s0 M P) : R119 sl sx d M0 P 124 [some (vR (some l0)), none, some (vI l2), some (vI l3), none, some (vI l5)] [vR s0] M := by
  refine RN_k (callX_det _) 2 _ _ _ _ (show kd M l0 4 ∧ R119 sl sx d M0 P 128 [some (vR (some l0)), none, some (vI l2), some (vI l3), none, some (vI l5)] [vI (mI M l0 7), vR s0] M from ⟨h.1, ?_⟩)
  replace h := h.2
  refine RN_k (callX_det _) 3 _ _ _ _ (show R119 sl sx d M0 P 137 [some (vR (some l0)), none, some (vI l2), some (vI l3), none, some (vI l5)] [vI ((mI M l0 7) + (1 : Int32)), vR s0] M from ?_)
  exact RN_weak (K := [some (vR (some l0)), none, some (vI l2), some (vI l3), none, some (vI l5)]) (callX_det _) (show _ ∧ _ ∧ _ ∧ _ ∧ True from ⟨rfl, rfl, rfl, rfl, trivial⟩) (t119_137 hk19 l0 l2 l3 l5 s0 ((mI M l0 7) + (1 : Int32)) _ hM h)
def w119_111 (k19 : Nat → Int32 → Int32 → MM → Prop) (l0 : Nat) (l2 : Int32) (l3 : Int32) (l4 : Int32) (s0 : Int32) (M : MM) (P : Int32 → MM → Prop) : Prop := (l4 ≠ 0 → (w119_124 k19 l0 l2 l3 s0 (some l0) M P)) ∧ (¬ (l4 ≠ 0) → ((s0 = 0 → (kd M l0 4 ∧ (w119_137 k19 l0 l2 l3 s0 (some l0) (mI M l0 7) M P))) ∧ (¬ (s0 = 0) → (w119_124 k19 l0 l2 l3 s0 (some l0) M P))))
theorem t119_111 {sl : Nat} {sx : Nat → Int32} {d : Nat} {M0 : MM} {P : Int32 → MM → Prop} {k19 : Nat → Int32 → Int32 → MM → Prop} (hk19 : ∀ (l0 : Nat) (l2 : Int32) (l3 : Int32) (M : MM), lenO M0 M → k19 l0 l2 l3 M → R119 sl sx d M0 P 19 [some (vR (some l0)), none, some (vI l2), some (vI l3), none, none] [] M) (l0 : Nat) (l2 : Int32) (l3 : Int32) (l4 : Int32) (s0 : Int32) (M : MM) (hM : lenO M0 M) (h : w119_111 k19 l0 l2 l3 l4 s0 M P) : R119 sl sx d M0 P 111 [some (vR (some l0)), none, some (vI l2), some (vI l3), some (vI l4), none] [vI s0] M := by
  refine RN_k (callX_det _) 4 _ _ _ _ (show (l4 ≠ 0 → R119 sl sx d M0 P 124 [some (vR (some l0)), none, some (vI l2), some (vI l3), some (vI l4), some (vI s0)] [vR (some l0)] M) ∧ (¬ (l4 ≠ 0) → R119 sl sx d M0 P 119 [some (vR (some l0)), none, some (vI l2), some (vI l3), some (vI l4), some (vI s0)] [vR (some l0)] M) from ⟨fun hc => ?_, fun hc => ?_⟩)
  · replace h := h.1 hc
    exact RN_weak (K := [some (vR (some l0)), none, some (vI l2), some (vI l3), none, some (vI s0)]) (callX_det _) (show _ ∧ _ ∧ _ ∧ _ ∧ True from ⟨rfl, rfl, rfl, rfl, trivial⟩) (t119_124 hk19 l0 l2 l3 s0 (some l0) _ hM h)
  · replace h := h.2 hc
    refine RN_k (callX_det _) 2 _ _ _ _ (show (s0 = 0 → R119 sl sx d M0 P 133 [some (vR (some l0)), none, some (vI l2), some (vI l3), some (vI l4), some (vI s0)] [vR (some l0)] M) ∧ (¬ (s0 = 0) → R119 sl sx d M0 P 124 [some (vR (some l0)), none, some (vI l2), some (vI l3), some (vI l4), some (vI s0)] [vR (some l0)] M) from ⟨fun hc => ?_, fun hc => ?_⟩)
    · replace h := h.1 hc
      refine RN_k (callX_det _) 2 _ _ _ _ (show kd M l0 4 ∧ R119 sl sx d M0 P 137 [some (vR (some l0)), none, some (vI l2), some (vI l3), some (vI l4), some (vI s0)] [vI (mI M l0 7), vR (some l0)] M from ⟨h.1, ?_⟩)
      replace h := h.2
      exact RN_weak (K := [some (vR (some l0)), none, some (vI l2), some (vI l3), none, some (vI s0)]) (callX_det _) (show _ ∧ _ ∧ _ ∧ _ ∧ True from ⟨rfl, rfl, rfl, rfl, trivial⟩) (t119_137 hk19 l0 l2 l3 s0 (some l0) (mI M l0 7) _ hM h)
    · replace h := h.2 hc
      exact RN_weak (K := [some (vR (some l0)), none, some (vI l2), some (vI l3), none, some (vI s0)]) (callX_det _) (show _ ∧ _ ∧ _ ∧ _ ∧ True from ⟨rfl, rfl, rfl, rfl, trivial⟩) (t119_124 hk19 l0 l2 l3 s0 (some l0) _ hM h)
def w119_110 (k19 : Nat → Int32 → Int32 → MM → Prop) (l0 : Nat) (l2 : Int32) (l3 : Int32) (l4 : Int32) (M : MM) (P : Int32 → MM → Prop) : Prop := w119_111 k19 l0 l2 l3 l4 (0 : Int32) M P
theorem t119_110 {sl : Nat} {sx : Nat → Int32} {d : Nat} {M0 : MM} {P : Int32 → MM → Prop} {k19 : Nat → Int32 → Int32 → MM → Prop} (hk19 : ∀ (l0 : Nat) (l2 : Int32) (l3 : Int32) (M : MM), lenO M0 M → k19 l0 l2 l3 M → R119 sl sx d M0 P 19 [some (vR (some l0)), none, some (vI l2), some (vI l3), none, none] [] M) (l0 : Nat) (l2 : Int32) (l3 : Int32) (l4 : Int32) (M : MM) (hM : lenO M0 M) (h : w119_110 k19 l0 l2 l3 l4 M P) : R119 sl sx d M0 P 110 [some (vR (some l0)), none, some (vI l2), some (vI l3), some (vI l4), none] [] M := by
  refine RN_k (callX_det _) 1 _ _ _ _ (show R119 sl sx d M0 P 111 [some (vR (some l0)), none, some (vI l2), some (vI l3), some (vI l4), none] [vI (0 : Int32)] M from ?_)
  exact RN_weak (K := [some (vR (some l0)), none, some (vI l2), some (vI l3), some (vI l4), none]) (callX_det _) (show _ ∧ _ ∧ _ ∧ _ ∧ True from ⟨rfl, rfl, rfl, rfl, trivial⟩) (t119_111 hk19 l0 l2 l3 l4 (0 : Int32) _ hM h)
def w119_75 (k19 : Nat → Int32 → Int32 → MM → Prop) (l0 : Nat) (l2 : Int32) (l3 : Int32) (s0 : Int32) (M : MM) (P : Int32 → MM → Prop) : Prop := (s0 ≠ 0 → (w119_110 k19 l0 l2 l3 s0 M P)) ∧ (¬ (s0 ≠ 0) → (kd M l0 4 ∧ (kd M l0 4 ∧ (kd M l0 4 ∧ (kd M l0 4 ∧ w98 l0 (mR M l0 1) (mI M l0 7) (mI M l0 8) (1 : Int32) M (fun r2 M1 => kd M1 l0 4 ∧ w99 l0 M1 (fun r4 M3 => (r4 < r2 → (w119_110 k19 l0 l2 l3 s0 M3 P)) ∧ (¬ (r4 < r2) → (w119_111 k19 l0 l2 l3 s0 (1 : Int32) M3 P)))))))))
theorem t119_75 {sl : Nat} {sx : Nat → Int32} {d : Nat} {M0 : MM} {P : Int32 → MM → Prop} {k19 : Nat → Int32 → Int32 → MM → Prop} (hk19 : ∀ (l0 : Nat) (l2 : Int32) (l3 : Int32) (M : MM), lenO M0 M → k19 l0 l2 l3 M → R119 sl sx d M0 P 19 [some (vR (some l0)), none, some (vI l2), some (vI l3), none, none] [] M) (l0 : Nat) (l2 : Int32) (l3 : Int32) (s0 : Int32) (M : MM) (hM : lenO M0 M) (h : w119_75 k19 l0 l2 l3 s0 M P) : R119 sl sx d M0 P 75 [some (vR (some l0)), none, some (vI l2), some (vI l3), none, none] [vI s0] M := by
  refine RN_k (callX_det _) 3 _ _ _ _ (show (s0 ≠ 0 → R119 sl sx d M0 P 110 [some (vR (some l0)), none, some (vI l2), some (vI l3), some (vI s0), none] [] M) ∧ (¬ (s0 ≠ 0) → R119 sl sx d M0 P 82 [some (vR (some l0)), none, some (vI l2), some (vI l3), some (vI s0), none] [] M) from ⟨fun hc => ?_, fun hc => ?_⟩)
  · replace h := h.1 hc
    exact RN_weak (K := [some (vR (some l0)), none, some (vI l2), some (vI l3), some (vI s0), none]) (callX_det _) (show _ ∧ _ ∧ _ ∧ _ ∧ True from ⟨rfl, rfl, rfl, rfl, trivial⟩) (t119_110 hk19 l0 l2 l3 s0 _ hM h)
  · replace h := h.2 hc
    refine RN_k (callX_det _) 3 _ _ _ _ (show kd M l0 4 ∧ R119 sl sx d M0 P 87 [some (vR (some l0)), none, some (vI l2), some (vI l3), some (vI s0), none] [vR (mR M l0 1), vR (some l0)] M from ⟨h.1, ?_⟩)
    replace h := h.2
    refine RN_k (callX_det _) 2 _ _ _ _ (show kd M l0 4 ∧ R119 sl sx d M0 P 91 [some (vR (some l0)), none, some (vI l2), some (vI l3), some (vI s0), none] [vI (mI M l0 7), vR (mR M l0 1), vR (some l0)] M from ⟨h.1, ?_⟩)
    replace h := h.2
    refine RN_k (callX_det _) 2 _ _ _ _ (show kd M l0 4 ∧ R119 sl sx d M0 P 95 [some (vR (some l0)), none, some (vI l2), some (vI l3), some (vI s0), none] [vI (mI M l0 8), vI (mI M l0 7), vR (mR M l0 1), vR (some l0)] M from ⟨h.1, ?_⟩)
    replace h := h.2
    refine RN_k (callX_det _) 2 _ _ _ _ (show kd M l0 4 ∧ callX TBg sl sx (d + 1) 98 [vR (some l0), vR (mR M l0 1), vI (mI M l0 7), vI (mI M l0 8), vI (1 : Int32)] M (fun v M9 => R119 sl sx d M0 P 99 [some (vR (some l0)), none, some (vI l2), some (vI l3), some (vI s0), none] (pushO v []) M9) from ⟨h.1, ?_⟩)
    replace h := h.2
    refine callX_mono (callX_len (d := (d + 1)) rfl rfl rfl (c98 (d := d) h)) ?_
    clear h
    rintro v9 M1 ⟨hl, r2, rfl, h⟩
    replace hM := lenT hM hl
    show R119 sl sx d M0 P 99 [some (vR (some l0)), none, some (vI l2), some (vI l3), some (vI s0), none] [vI r2] M1
    refine RN_k (callX_det _) 2 _ _ _ _ (show kd M1 l0 4 ∧ callX TBg sl sx (d + 1) 99 [vR (some l0)] M1 (fun v M9 => R119 sl sx d M0 P 103 [some (vR (some l0)), none, some (vI l2), some (vI l3), some (vI s0), none] (pushO v [vI r2]) M9) from ⟨h.1, ?_⟩)
    replace h := h.2
    refine callX_mono (callX_len (d := (d + 1)) rfl rfl rfl (c99 (d := d) h)) ?_
    clear h
    rintro v9 M3 ⟨hl, r4, rfl, h⟩
    replace hM := lenT hM hl
    show R119 sl sx d M0 P 103 [some (vR (some l0)), none, some (vI l2), some (vI l3), some (vI s0), none] [vI r4, vI r2] M3
    refine RN_k (callX_det _) 1 _ _ _ _ (show (r4 < r2 → R119 sl sx d M0 P 110 [some (vR (some l0)), none, some (vI l2), some (vI l3), some (vI s0), none] [] M3) ∧ (¬ (r4 < r2) → R119 sl sx d M0 P 106 [some (vR (some l0)), none, some (vI l2), some (vI l3), some (vI s0), none] [] M3) from ⟨fun hc => ?_, fun hc => ?_⟩)
    · replace h := h.1 hc
      exact RN_weak (K := [some (vR (some l0)), none, some (vI l2), some (vI l3), some (vI s0), none]) (callX_det _) (show _ ∧ _ ∧ _ ∧ _ ∧ True from ⟨rfl, rfl, rfl, rfl, trivial⟩) (t119_110 hk19 l0 l2 l3 s0 _ hM h)
    · replace h := h.2 hc
      refine RN_k (callX_det _) 2 _ _ _ _ (show R119 sl sx d M0 P 111 [some (vR (some l0)), none, some (vI l2), some (vI l3), some (vI s0), none] [vI (1 : Int32)] M3 from ?_)
      exact RN_weak (K := [some (vR (some l0)), none, some (vI l2), some (vI l3), some (vI s0), none]) (callX_det _) (show _ ∧ _ ∧ _ ∧ _ ∧ True from ⟨rfl, rfl, rfl, rfl, trivial⟩) (t119_111 hk19 l0 l2 l3 s0 (1 : Int32) _ hM h)
def w119_46 (k19 : Nat → Int32 → Int32 → MM → Prop) (l0 : Nat) (l2 : Int32) (l3 : Int32) (M : MM) (P : Int32 → MM → Prop) : Prop := kd M l0 4 ∧ (kd M l0 4 ∧ (kd M l0 4 ∧ (kd M l0 4 ∧ w98 l0 (mR M l0 1) (mI M l0 7) (mI M l0 8) (0 : Int32) M (fun r2 M1 => kd M1 l0 4 ∧ w99 l0 M1 (fun r4 M3 => (r4 < r2 → (w119_75 k19 l0 l2 l3 (0 : Int32) M3 P)) ∧ (¬ (r4 < r2) → (w119_75 k19 l0 l2 l3 (1 : Int32) M3 P)))))))
theorem t119_46 {sl : Nat} {sx : Nat → Int32} {d : Nat} {M0 : MM} {P : Int32 → MM → Prop} {k19 : Nat → Int32 → Int32 → MM → Prop} (hk19 : ∀ (l0 : Nat) (l2 : Int32) (l3 : Int32) (M : MM), lenO M0 M → k19 l0 l2 l3 M → R119 sl sx d M0 P 19 [some (vR (some l0)), none, some (vI l2), some (vI l3), none, none] [] M) (l0 : Nat) (l2 : Int32) (l3 : Int32) (M : MM) (hM : lenO M0 M) (h : w119_46 k19 l0 l2 l3 M P) : R119 sl sx d M0 P 46 [some (vR (some l0)), none, some (vI l2), some (vI l3), none, none] [] M := by
  refine RN_k (callX_det _) 3 _ _ _ _ (show kd M l0 4 ∧ R119 sl sx d M0 P 51 [some (vR (some l0)), none, some (vI l2), some (vI l3), none, none] [vR (mR M l0 1), vR (some l0)] M from ⟨h.1, ?_⟩)
  replace h := h.2
  refine RN_k (callX_det _) 2 _ _ _ _ (show kd M l0 4 ∧ R119 sl sx d M0 P 55 [some (vR (some l0)), none, some (vI l2), some (vI l3), none, none] [vI (mI M l0 7), vR (mR M l0 1), vR (some l0)] M from ⟨h.1, ?_⟩)
  replace h := h.2
  refine RN_k (callX_det _) 2 _ _ _ _ (show kd M l0 4 ∧ R119 sl sx d M0 P 59 [some (vR (some l0)), none, some (vI l2), some (vI l3), none, none] [vI (mI M l0 8), vI (mI M l0 7), vR (mR M l0 1), vR (some l0)] M from ⟨h.1, ?_⟩)
  replace h := h.2
  refine RN_k (callX_det _) 2 _ _ _ _ (show kd M l0 4 ∧ callX TBg sl sx (d + 1) 98 [vR (some l0), vR (mR M l0 1), vI (mI M l0 7), vI (mI M l0 8), vI (0 : Int32)] M (fun v M9 => R119 sl sx d M0 P 63 [some (vR (some l0)), none, some (vI l2), some (vI l3), none, none] (pushO v []) M9) from ⟨h.1, ?_⟩)
  replace h := h.2
  refine callX_mono (callX_len (d := (d + 1)) rfl rfl rfl (c98 (d := d) h)) ?_
  clear h
  rintro v9 M1 ⟨hl, r2, rfl, h⟩
  replace hM := lenT hM hl
  show R119 sl sx d M0 P 63 [some (vR (some l0)), none, some (vI l2), some (vI l3), none, none] [vI r2] M1
  refine RN_k (callX_det _) 2 _ _ _ _ (show kd M1 l0 4 ∧ callX TBg sl sx (d + 1) 99 [vR (some l0)] M1 (fun v M9 => R119 sl sx d M0 P 67 [some (vR (some l0)), none, some (vI l2), some (vI l3), none, none] (pushO v [vI r2]) M9) from ⟨h.1, ?_⟩)
  replace h := h.2
  refine callX_mono (callX_len (d := (d + 1)) rfl rfl rfl (c99 (d := d) h)) ?_
  clear h
  rintro v9 M3 ⟨hl, r4, rfl, h⟩
  replace hM := lenT hM hl
  show R119 sl sx d M0 P 67 [some (vR (some l0)), none, some (vI l2), some (vI l3), none, none] [vI r4, vI r2] M3
  refine RN_k (callX_det _) 1 _ _ _ _ (show (r4 < r2 → R119 sl sx d M0 P 74 [some (vR (some l0)), none, some (vI l2), some (vI l3), none, none] [] M3) ∧ (¬ (r4 < r2) → R119 sl sx d M0 P 70 [some (vR (some l0)), none, some (vI l2), some (vI l3), none, none] [] M3) from ⟨fun hc => ?_, fun hc => ?_⟩)
  · replace h := h.1 hc
    refine RN_k (callX_det _) 1 _ _ _ _ (show R119 sl sx d M0 P 75 [some (vR (some l0)), none, some (vI l2), some (vI l3), none, none] [vI (0 : Int32)] M3 from ?_)
    exact RN_weak (K := [some (vR (some l0)), none, some (vI l2), some (vI l3), none, none]) (callX_det _) (show _ ∧ _ ∧ _ ∧ True from ⟨rfl, rfl, rfl, trivial⟩) (t119_75 hk19 l0 l2 l3 (0 : Int32) _ hM h)
  · replace h := h.2 hc
    refine RN_k (callX_det _) 2 _ _ _ _ (show R119 sl sx d M0 P 75 [some (vR (some l0)), none, some (vI l2), some (vI l3), none, none] [vI (1 : Int32)] M3 from ?_)
    exact RN_weak (K := [some (vR (some l0)), none, some (vI l2), some (vI l3), none, none]) (callX_det _) (show _ ∧ _ ∧ _ ∧ True from ⟨rfl, rfl, rfl, trivial⟩) (t119_75 hk19 l0 l2 l3 (1 : Int32) _ hM h)
def w119_19 : Nat → Nat → Int32 → Int32 → MM → (Int32 → MM → Prop) → Prop
  | 0 => fun _ _ _ _ _ => False
  | n + 1 => fun l0 l2 l3 M P => (l3 ≤ l2 → (w119_168  l2 M P)) ∧ (¬ (l3 ≤ l2) → (kd M l0 4 ∧ (kd M l0 4 ∧ (((mI M l0 7) < (mI M l0 5) → (w119_46 (fun z0 z1 z2 z3 => w119_19  n z0 z1 z2 z3 P) l0 l2 l3 M P)) ∧ (¬ ((mI M l0 7) < (mI M l0 5)) → (kd M l0 4 ∧ (kd M l0 4 ∧ (((mI M l0 6) ≤ (mI M l0 8) → (w119_168  l2 M P)) ∧ (¬ ((mI M l0 6) ≤ (mI M l0 8)) → (w119_46 (fun z0 z1 z2 z3 => w119_19  n z0 z1 z2 z3 P) l0 l2 l3 M P))))))))))
theorem t119_19 {sl : Nat} {sx : Nat → Int32} {d : Nat} {M0 : MM} {P : Int32 → MM → Prop} (n : Nat) : ∀ (l0 : Nat) (l2 : Int32) (l3 : Int32) (M : MM) (_ : lenO M0 M) (_ : w119_19  n l0 l2 l3 M P), R119 sl sx d M0 P 19 [some (vR (some l0)), none, some (vI l2), some (vI l3), none, none] [] M := by
  induction n with
  | zero => intro l0 l2 l3 M hM h; cases h
  | succ n ih =>
    intro l0 l2 l3 M hM h
    refine RN_k (callX_det _) 3 _ _ _ _ (show (l3 ≤ l2 → R119 sl sx d M0 P 168 [some (vR (some l0)), none, some (vI l2), some (vI l3), none, none] [] M) ∧ (¬ (l3 ≤ l2) → R119 sl sx d M0 P 24 [some (vR (some l0)), none, some (vI l2), some (vI l3), none, none] [] M) from ⟨fun hc => ?_, fun hc => ?_⟩)
    · replace h := h.1 hc
      exact RN_weak (K := [none, none, some (vI l2), none, none, none]) (callX_det _) (show _ ∧ True from ⟨rfl, trivial⟩) (t119_168  l2 _ hM h)
    · replace h := h.2 hc
      refine RN_k (callX_det _) 2 _ _ _ _ (show kd M l0 4 ∧ R119 sl sx d M0 P 28 [some (vR (some l0)), none, some (vI l2), some (vI l3), none, none] [vI (mI M l0 7)] M from ⟨h.1, ?_⟩)
      replace h := h.2
      refine RN_k (callX_det _) 2 _ _ _ _ (show kd M l0 4 ∧ R119 sl sx d M0 P 32 [some (vR (some l0)), none, some (vI l2), some (vI l3), none, none] [vI (mI M l0 5), vI (mI M l0 7)] M from ⟨h.1, ?_⟩)
      replace h := h.2
      refine RN_k (callX_det _) 1 _ _ _ _ (show ((mI M l0 7) < (mI M l0 5) → R119 sl sx d M0 P 46 [some (vR (some l0)), none, some (vI l2), some (vI l3), none, none] [] M) ∧ (¬ ((mI M l0 7) < (mI M l0 5)) → R119 sl sx d M0 P 35 [some (vR (some l0)), none, some (vI l2), some (vI l3), none, none] [] M) from ⟨fun hc => ?_, fun hc => ?_⟩)
      · replace h := h.1 hc
        exact RN_weak (K := [some (vR (some l0)), none, some (vI l2), some (vI l3), none, none]) (callX_det _) (show _ ∧ _ ∧ _ ∧ True from ⟨rfl, rfl, rfl, trivial⟩) (t119_46 ih l0 l2 l3 _ hM h)
      · replace h := h.2 hc
        refine RN_k (callX_det _) 2 _ _ _ _ (show kd M l0 4 ∧ R119 sl sx d M0 P 39 [some (vR (some l0)), none, some (vI l2), some (vI l3), none, none] [vI (mI M l0 8)] M from ⟨h.1, ?_⟩)
        replace h := h.2
        refine RN_k (callX_det _) 2 _ _ _ _ (show kd M l0 4 ∧ R119 sl sx d M0 P 43 [some (vR (some l0)), none, some (vI l2), some (vI l3), none, none] [vI (mI M l0 6), vI (mI M l0 8)] M from ⟨h.1, ?_⟩)
        replace h := h.2
        refine RN_k (callX_det _) 1 _ _ _ _ (show ((mI M l0 6) ≤ (mI M l0 8) → R119 sl sx d M0 P 168 [some (vR (some l0)), none, some (vI l2), some (vI l3), none, none] [] M) ∧ (¬ ((mI M l0 6) ≤ (mI M l0 8)) → R119 sl sx d M0 P 46 [some (vR (some l0)), none, some (vI l2), some (vI l3), none, none] [] M) from ⟨fun hc => ?_, fun hc => ?_⟩)
        · replace h := h.1 hc
          exact RN_weak (K := [none, none, some (vI l2), none, none, none]) (callX_det _) (show _ ∧ True from ⟨rfl, trivial⟩) (t119_168  l2 _ hM h)
        · replace h := h.2 hc
          exact RN_weak (K := [some (vR (some l0)), none, some (vI l2), some (vI l3), none, none]) (callX_det _) (show _ ∧ _ ∧ _ ∧ True from ⟨rfl, rfl, rfl, trivial⟩) (t119_46 ih l0 l2 l3 _ hM h)
def w119 (l0 : Nat) (l1 : Int32) (M : MM) (P : Int32 → MM → Prop) : Prop := kd M l0 4 ∧ (kd (sI M l0 7 (0 : Int32)) l0 4 ∧ (w70 l1 (16 : Int32) (sI (sI M l0 7 (0 : Int32)) l0 8 (0 : Int32)) (fun r2 M1 => ∃ n2, w119_19  n2 l0 (0 : Int32) r2 M1 P)))
theorem t119_E {sl : Nat} {sx : Nat → Int32} {d : Nat} {M0 : MM} {P : Int32 → MM → Prop} (l0 : Nat) (l1 : Int32) (M : MM) (hM : lenO M0 M) (h : w119  l0 l1 M P) : R119 sl sx d M0 P 0 [some (vR (some l0)), some (vI l1), none, none, none, none] [] M := by
  refine RN_k (callX_det _) 3 _ _ _ _ (show kd M l0 4 ∧ R119 sl sx d M0 P 5 [some (vR (some l0)), some (vI l1), none, none, none, none] [] (sI M l0 7 (0 : Int32)) from ⟨h.1, ?_⟩)
  replace h := h.2
  refine RN_k (callX_det _) 3 _ _ _ _ (show kd (sI M l0 7 (0 : Int32)) l0 4 ∧ R119 sl sx d M0 P 10 [some (vR (some l0)), some (vI l1), none, none, none, none] [] (sI (sI M l0 7 (0 : Int32)) l0 8 (0 : Int32)) from ⟨h.1, ?_⟩)
  replace h := h.2
  refine RN_k (callX_det _) 5 _ _ _ _ (show callX TBg sl sx (d + 1) 70 [vI l1, vI (16 : Int32)] (sI (sI M l0 7 (0 : Int32)) l0 8 (0 : Int32)) (fun v M9 => R119 sl sx d M0 P 18 [some (vR (some l0)), some (vI l1), some (vI (0 : Int32)), none, none, none] (pushO v []) M9) from ?_)
  refine callX_mono (callX_len (d := (d + 1)) rfl rfl rfl (c70 (d := d) h)) ?_
  clear h
  rintro v9 M1 ⟨hl, r2, rfl, h⟩
  replace hM := lenT hM hl
  show R119 sl sx d M0 P 18 [some (vR (some l0)), some (vI l1), some (vI (0 : Int32)), none, none, none] [vI r2] M1
  refine RN_k (callX_det _) 1 _ _ _ _ (show R119 sl sx d M0 P 19 [some (vR (some l0)), some (vI l1), some (vI (0 : Int32)), some (vI r2), none, none] [] M1 from ?_)
  obtain ⟨n2, h⟩ := h
  exact RN_weak (K := [some (vR (some l0)), none, some (vI (0 : Int32)), some (vI r2), none, none]) (callX_det _) (show _ ∧ _ ∧ _ ∧ True from ⟨rfl, rfl, rfl, trivial⟩) (t119_19  n2 l0 (0 : Int32) r2 _ hM h)
theorem c119 {sl : Nat} {sx : Nat → Int32} {d : Nat} {l0 : Nat} {l1 : Int32} {M : MM} {P : Int32 → MM → Prop} (h : w119 l0 l1 M P) : callX TBg sl sx (d + 2) 119 [vR (some l0), vI l1] M (PI P) :=
  cX (d := d + 1) q119 (false, tb119) rfl rfl rfl (t119_E l0 l1 M lenR h)
-- TwoLeash.hops(IIIZ)I
abbrev q118 : MQ7 := (5, 1, 6, 9, 0, 0, 1)
abbrev R118 (sl : Nat) (sx : Nat → Int32) (d : Nat) (M0 : MM) (P : Int32 → MM → Prop) : Nat → LL → List VV → MM → Prop := RN 9 false (mS M0).length (mT M0) 0 0 sl sx (callX TBg sl sx (d + 3)) (rtW q118 M0 (PI P)) (as2 tb118)
def w118_107 (s0 : Option Nat) (s1 : Int32) (M : MM) (P : Int32 → MM → Prop) : Prop := ∃ a1, s0 = some a1 ∧ (kd M a1 9 ∧ w35 a1 s1 M (fun r3 M2 => P r3 M2))
theorem t118_107 {sl : Nat} {sx : Nat → Int32} {d : Nat} {M0 : MM} {P : Int32 → MM → Prop} (s0 : Option Nat) (s1 : Int32) (M : MM) (hM : lenO M0 M) (h : w118_107  s0 s1 M P) : R118 sl sx d M0 P 107 [none, none, none, none, none, none] [vI s1, vR s0] M := by
  obtain ⟨a1, he, h⟩ := h
  subst he
  refine RN_k (callX_det _) 1 _ _ _ _ (show kd M a1 9 ∧ callX TBg sl sx (d + 3) 35 [vR (some a1), vI s1] M (fun v M9 => R118 sl sx d M0 P 110 [none, none, none, none, none, none] (pushO v []) M9) from ⟨h.1, ?_⟩)
  replace h := h.2
  refine callX_mono (callX_len (d := (d + 3)) rfl rfl rfl (c35 (d := d + 2) h)) ?_
  clear h
  rintro v9 M2 ⟨hl, r3, rfl, h⟩
  replace hM := lenT hM hl
  show R118 sl sx d M0 P 110 [none, none, none, none, none, none] [vI r3] M2
  exact RN_k (callX_det _) 1 _ _ _ _ (show rtW q118 M0 (PI P) (some (vI r3)) M2 from ⟨⟨_, rfl⟩, hM.1, hM.2, _, rfl, h⟩)
def w118_12 (l0 : Nat) (l1 : Int32) (l2 : Int32) (l3 : Int32) (l4 : Int32) (s0 : Option Nat) (s1 : Option Nat) (s2 : Int32) (M : MM) (P : Int32 → MM → Prop) : Prop := ∃ a1, s1 = some a1 ∧ (kd M a1 9 ∧ w62 a1 s2 l1 l2 M (fun r3 M2 => ∃ a4, s0 = some a4 ∧ (kd M2 a4 9 ∧ (kd (sI M2 a4 10 r3) l0 9 ∧ (((mI (sI M2 a4 10 r3) l0 10) = 0 → (kd (sI M2 a4 10 r3) l0 9 ∧ (∃ a5, mR (sI M2 a4 10 r3) l0 15 = some a5 ∧ (kd (sI M2 a4 10 r3) a5 5 ∧ (kd (sI M2 a4 10 r3) l0 9 ∧ (∃ a6, mR (sI M2 a4 10 r3) l0 5 = some a6 ∧ (inb (sI M2 a4 10 r3) a6 16 l1 ∧ (kd (sI M2 a4 10 r3) l0 9 ∧ (∃ a7, mR (sI M2 a4 10 r3) l0 5 = some a7 ∧ (inb (sI M2 a4 10 r3) a7 16 l2 ∧ (∃ a8, mR (sI M2 a4 10 r3) a5 1 = some a8 ∧ (kd (sI M2 a4 10 r3) a8 4 ∧ w96 a8 (mR (sI M2 a4 10 r3) a6 l1.toNatClampNeg) (mR (sI M2 a4 10 r3) a7 l2.toNatClampNeg) (sI M2 a4 10 r3) (fun M9 => (l3 ≠ (-1 : Int32) → (kd M9 a8 4 ∧ w119 a8 l3 M9 (fun r11 M10 => (l3 ≤ r11 → ((l4 = 0 → (kd M10 a8 4 ∧ (w118_107  (some l0) (mI M10 a8 7) M10 P))) ∧ (¬ (l4 = 0) → (kd M10 a8 4 ∧ (w118_107  (some l0) (mI M10 a8 8) M10 P))))) ∧ (¬ (l3 ≤ r11) → (kd M10 l0 9 ∧ w17 l0 (5 : Int32) M10 (fun r13 M12 => P r13 M12)))))) ∧ (¬ (l3 ≠ (-1 : Int32)) → (kd M9 a8 4 ∧ w119 a8 (16 : Int32) M9 (fun r15 M14 => kd M14 l0 9 ∧ w35 l0 r15 M14 (fun r17 M16 => P r17 M16))))))))))))))))) ∧ (¬ ((mI (sI M2 a4 10 r3) l0 10) = 0) → (P (-1 : Int32) (sI M2 a4 10 r3))))))))
theorem t118_12 {sl : Nat} {sx : Nat → Int32} {d : Nat} {M0 : MM} {P : Int32 → MM → Prop} (l0 : Nat) (l1 : Int32) (l2 : Int32) (l3 : Int32) (l4 : Int32) (s0 : Option Nat) (s1 : Option Nat) (s2 : Int32) (M : MM) (hM : lenO M0 M) (h : w118_12  l0 l1 l2 l3 l4 s0 s1 s2 M P) : R118 sl sx d M0 P 12 [some (vR (some l0)), some (vI l1), some (vI l2), some (vI l3), some (vI l4), none] [vI s2, vR s1, vR s0] M := by
  obtain ⟨a1, he, h⟩ := h
  refine RN_k (callX_det _) 2 _ _ _ _ (show R118 sl sx d M0 P 14 [some (vR (some l0)), some (vI l1), some (vI l2), some (vI l3), some (vI l4), none] [vI l2, vI l1, vI s2, vR s1, vR s0] M from ?_)
  subst he
  refine RN_k (callX_det _) 1 _ _ _ _ (show kd M a1 9 ∧ callX TBg sl sx (d + 3) 62 [vR (some a1), vI s2, vI l1, vI l2] M (fun v M9 => R118 sl sx d M0 P 17 [some (vR (some l0)), some (vI l1), some (vI l2), some (vI l3), some (vI l4), none] (pushO v [vR s0]) M9) from ⟨h.1, ?_⟩)
  replace h := h.2
  refine callX_mono (callX_len (d := (d + 3)) rfl rfl rfl (c62 (d := d + 1) h)) ?_
  clear h
  rintro v9 M2 ⟨hl, r3, rfl, h⟩
  replace hM := lenT hM hl
  show R118 sl sx d M0 P 17 [some (vR (some l0)), some (vI l1), some (vI l2), some (vI l3), some (vI l4), none] [vI r3, vR s0] M2
  obtain ⟨a4, he, h⟩ := h
  subst he
  refine RN_k (callX_det _) 1 _ _ _ _ (show kd M2 a4 9 ∧ R118 sl sx d M0 P 20 [some (vR (some l0)), some (vI l1), some (vI l2), some (vI l3), some (vI l4), none] [] (sI M2 a4 10 r3) from ⟨h.1, ?_⟩)
  replace h := h.2
  refine RN_k (callX_det _) 2 _ _ _ _ (show kd (sI M2 a4 10 r3) l0 9 ∧ R118 sl sx d M0 P 24 [some (vR (some l0)), some (vI l1), some (vI l2), some (vI l3), some (vI l4), none] [vI (mI (sI M2 a4 10 r3) l0 10)] (sI M2 a4 10 r3) from ⟨h.1, ?_⟩)
  replace h := h.2
  refine RN_k (callX_det _) 1 _ _ _ _ (show ((mI (sI M2 a4 10 r3) l0 10) = 0 → R118 sl sx d M0 P 29 [some (vR (some l0)), some (vI l1), some (vI l2), some (vI l3), some (vI l4), none] [] (sI M2 a4 10 r3)) ∧ (¬ ((mI (sI M2 a4 10 r3) l0 10) = 0) → R118 sl sx d M0 P 27 [some (vR (some l0)), some (vI l1), some (vI l2), some (vI l3), some (vI l4), none] [] (sI M2 a4 10 r3)) from ⟨fun hc => ?_, fun hc => ?_⟩)
  · replace h := h.1 hc
    refine RN_k (callX_det _) 2 _ _ _ _ (show kd (sI M2 a4 10 r3) l0 9 ∧ R118 sl sx d M0 P 33 [some (vR (some l0)), some (vI l1), some (vI l2), some (vI l3), some (vI l4), none] [vR (mR (sI M2 a4 10 r3) l0 15)] (sI M2 a4 10 r3) from ⟨h.1, ?_⟩)
    replace h := h.2
    obtain ⟨a5, he, h⟩ := h
    rw [he]
    refine RN_k (callX_det _) 1 _ _ _ _ (show kd (sI M2 a4 10 r3) a5 5 ∧ R118 sl sx d M0 P 36 [some (vR (some l0)), some (vI l1), some (vI l2), some (vI l3), some (vI l4), none] [vR (mR (sI M2 a4 10 r3) a5 1)] (sI M2 a4 10 r3) from ⟨h.1, ?_⟩)
    replace h := h.2
    refine RN_k (callX_det _) 4 _ _ _ _ (show kd (sI M2 a4 10 r3) l0 9 ∧ R118 sl sx d M0 P 44 [some (vR (some l0)), some (vI l1), some (vI l2), some (vI l3), some (vI l4), some (vR (mR (sI M2 a4 10 r3) a5 1))] [vR (mR (sI M2 a4 10 r3) l0 5), vR (mR (sI M2 a4 10 r3) a5 1)] (sI M2 a4 10 r3) from ⟨h.1, ?_⟩)
    replace h := h.2
    obtain ⟨a6, he, h⟩ := h
    refine RN_k (callX_det _) 1 _ _ _ _ (show R118 sl sx d M0 P 45 [some (vR (some l0)), some (vI l1), some (vI l2), some (vI l3), some (vI l4), some (vR (mR (sI M2 a4 10 r3) a5 1))] [vI l1, vR (mR (sI M2 a4 10 r3) l0 5), vR (mR (sI M2 a4 10 r3) a5 1)] (sI M2 a4 10 r3) from ?_)
    rw [he]
    refine RN_k (callX_det _) 1 _ _ _ _ (show inb (sI M2 a4 10 r3) a6 16 l1 ∧ R118 sl sx d M0 P 46 [some (vR (some l0)), some (vI l1), some (vI l2), some (vI l3), some (vI l4), some (vR (mR (sI M2 a4 10 r3) a5 1))] [vR (mR (sI M2 a4 10 r3) a6 l1.toNatClampNeg), vR (mR (sI M2 a4 10 r3) a5 1)] (sI M2 a4 10 r3) from ⟨h.1, ?_⟩)
    replace h := h.2
    refine RN_k (callX_det _) 2 _ _ _ _ (show kd (sI M2 a4 10 r3) l0 9 ∧ R118 sl sx d M0 P 50 [some (vR (some l0)), some (vI l1), some (vI l2), some (vI l3), some (vI l4), some (vR (mR (sI M2 a4 10 r3) a5 1))] [vR (mR (sI M2 a4 10 r3) l0 5), vR (mR (sI M2 a4 10 r3) a6 l1.toNatClampNeg), vR (mR (sI M2 a4 10 r3) a5 1)] (sI M2 a4 10 r3) from ⟨h.1, ?_⟩)
    replace h := h.2
    obtain ⟨a7, he, h⟩ := h
    refine RN_k (callX_det _) 1 _ _ _ _ (show R118 sl sx d M0 P 51 [some (vR (some l0)), some (vI l1), some (vI l2), some (vI l3), some (vI l4), some (vR (mR (sI M2 a4 10 r3) a5 1))] [vI l2, vR (mR (sI M2 a4 10 r3) l0 5), vR (mR (sI M2 a4 10 r3) a6 l1.toNatClampNeg), vR (mR (sI M2 a4 10 r3) a5 1)] (sI M2 a4 10 r3) from ?_)
    rw [he]
    refine RN_k (callX_det _) 1 _ _ _ _ (show inb (sI M2 a4 10 r3) a7 16 l2 ∧ R118 sl sx d M0 P 52 [some (vR (some l0)), some (vI l1), some (vI l2), some (vI l3), some (vI l4), some (vR (mR (sI M2 a4 10 r3) a5 1))] [vR (mR (sI M2 a4 10 r3) a7 l2.toNatClampNeg), vR (mR (sI M2 a4 10 r3) a6 l1.toNatClampNeg), vR (mR (sI M2 a4 10 r3) a5 1)] (sI M2 a4 10 r3) from ⟨h.1, ?_⟩)
    replace h := h.2
    obtain ⟨a8, he, h⟩ := h
    rw [he]
    refine RN_k (callX_det _) 1 _ _ _ _ (show kd (sI M2 a4 10 r3) a8 4 ∧ callX TBg sl sx (d + 3) 96 [vR (some a8), vR (mR (sI M2 a4 10 r3) a6 l1.toNatClampNeg), vR (mR (sI M2 a4 10 r3) a7 l2.toNatClampNeg)] (sI M2 a4 10 r3) (fun v M9 => R118 sl sx d M0 P 55 [some (vR (some l0)), some (vI l1), some (vI l2), some (vI l3), some (vI l4), some (vR (some a8))] (pushO v []) M9) from ⟨h.1, ?_⟩)
    replace h := h.2
    refine callX_mono (callX_len (d := (d + 3)) rfl rfl rfl (c96 (d := d) h)) ?_
    clear h
    rintro v9 M9 ⟨hl, rfl, h⟩
    replace hM := lenT hM hl
    show R118 sl sx d M0 P 55 [some (vR (some l0)), some (vI l1), some (vI l2), some (vI l3), some (vI l4), some (vR (some a8))] [] M9
    refine RN_k (callX_det _) 3 _ _ _ _ (show (l3 ≠ (-1 : Int32) → R118 sl sx d M0 P 72 [some (vR (some l0)), some (vI l1), some (vI l2), some (vI l3), some (vI l4), some (vR (some a8))] [] M9) ∧ (¬ (l3 ≠ (-1 : Int32)) → R118 sl sx d M0 P 60 [some (vR (some l0)), some (vI l1), some (vI l2), some (vI l3), some (vI l4), some (vR (some a8))] [] M9) from ⟨fun hc => ?_, fun hc => ?_⟩)
    · replace h := h.1 hc
      refine RN_k (callX_det _) 3 _ _ _ _ (show kd M9 a8 4 ∧ callX TBg sl sx (d + 3) 119 [vR (some a8), vI l3] M9 (fun v M9 => R118 sl sx d M0 P 78 [some (vR (some l0)), some (vI l1), some (vI l2), some (vI l3), some (vI l4), some (vR (some a8))] (pushO v []) M9) from ⟨h.1, ?_⟩)
      replace h := h.2
      refine callX_mono (callX_len (d := (d + 3)) rfl rfl rfl (c119 (d := d + 1) h)) ?_
      clear h
      rintro v9 M10 ⟨hl, r11, rfl, h⟩
      replace hM := lenT hM hl
      show R118 sl sx d M0 P 78 [some (vR (some l0)), some (vI l1), some (vI l2), some (vI l3), some (vI l4), some (vR (some a8))] [vI r11] M10
      refine RN_k (callX_det _) 2 _ _ _ _ (show (l3 ≤ r11 → R118 sl sx d M0 P 88 [some (vR (some l0)), some (vI l1), some (vI l2), some (vI l3), some (vI l4), some (vR (some a8))] [] M10) ∧ (¬ (l3 ≤ r11) → R118 sl sx d M0 P 82 [some (vR (some l0)), some (vI l1), some (vI l2), some (vI l3), some (vI l4), some (vR (some a8))] [] M10) from ⟨fun hc => ?_, fun hc => ?_⟩)
      · replace h := h.1 hc
        refine RN_k (callX_det _) 3 _ _ _ _ (show (l4 = 0 → R118 sl sx d M0 P 102 [some (vR (some l0)), some (vI l1), some (vI l2), some (vI l3), some (vI l4), some (vR (some a8))] [vR (some l0)] M10) ∧ (¬ (l4 = 0) → R118 sl sx d M0 P 94 [some (vR (some l0)), some (vI l1), some (vI l2), some (vI l3), some (vI l4), some (vR (some a8))] [vR (some l0)] M10) from ⟨fun hc => ?_, fun hc => ?_⟩)
        · replace h := h.1 hc
          refine RN_k (callX_det _) 2 _ _ _ _ (show kd M10 a8 4 ∧ R118 sl sx d M0 P 107 [some (vR (some l0)), some (vI l1), some (vI l2), some (vI l3), some (vI l4), some (vR (some a8))] [vI (mI M10 a8 7), vR (some l0)] M10 from ⟨h.1, ?_⟩)
          replace h := h.2
          exact RN_weak (K := [none, none, none, none, none, none]) (callX_det _) (show True from trivial) (t118_107  (some l0) (mI M10 a8 7) _ hM h)
        · replace h := h.2 hc
          refine RN_k (callX_det _) 2 _ _ _ _ (show kd M10 a8 4 ∧ R118 sl sx d M0 P 99 [some (vR (some l0)), some (vI l1), some (vI l2), some (vI l3), some (vI l4), some (vR (some a8))] [vI (mI M10 a8 8), vR (some l0)] M10 from ⟨h.1, ?_⟩)
          replace h := h.2
          refine RN_k (callX_det _) 1 _ _ _ _ (show R118 sl sx d M0 P 107 [some (vR (some l0)), some (vI l1), some (vI l2), some (vI l3), some (vI l4), some (vR (some a8))] [vI (mI M10 a8 8), vR (some l0)] M10 from ?_)
          exact RN_weak (K := [none, none, none, none, none, none]) (callX_det _) (show True from trivial) (t118_107  (some l0) (mI M10 a8 8) _ hM h)
      · replace h := h.2 hc
        refine RN_k (callX_det _) 3 _ _ _ _ (show kd M10 l0 9 ∧ callX TBg sl sx (d + 3) 17 [vR (some l0), vI (5 : Int32)] M10 (fun v M9 => R118 sl sx d M0 P 87 [some (vR (some l0)), some (vI l1), some (vI l2), some (vI l3), some (vI l4), some (vR (some a8))] (pushO v []) M9) from ⟨h.1, ?_⟩)
        replace h := h.2
        refine callX_mono (callX_len (d := (d + 3)) rfl rfl rfl (c17 (d := d + 2) h)) ?_
        clear h
        rintro v9 M12 ⟨hl, r13, rfl, h⟩
        replace hM := lenT hM hl
        show R118 sl sx d M0 P 87 [some (vR (some l0)), some (vI l1), some (vI l2), some (vI l3), some (vI l4), some (vR (some a8))] [vI r13] M12
        exact RN_k (callX_det _) 1 _ _ _ _ (show rtW q118 M0 (PI P) (some (vI r13)) M12 from ⟨⟨_, rfl⟩, hM.1, hM.2, _, rfl, h⟩)
    · replace h := h.2 hc
      refine RN_k (callX_det _) 4 _ _ _ _ (show kd M9 a8 4 ∧ callX TBg sl sx (d + 3) 119 [vR (some a8), vI (16 : Int32)] M9 (fun v M9 => R118 sl sx d M0 P 68 [some (vR (some l0)), some (vI l1), some (vI l2), some (vI l3), some (vI l4), some (vR (some a8))] (pushO v [vR (some l0)]) M9) from ⟨h.1, ?_⟩)
      replace h := h.2
      refine callX_mono (callX_len (d := (d + 3)) rfl rfl rfl (c119 (d := d + 1) h)) ?_
      clear h
      rintro v9 M14 ⟨hl, r15, rfl, h⟩
      replace hM := lenT hM hl
      show R118 sl sx d M0 P 68 [some (vR (some l0)), some (vI l1), some (vI l2), some (vI l3), some (vI l4), some (vR (some a8))] [vI r15, vR (some l0)] M14
      refine RN_k (callX_det _) 1 _ _ _ _ (show kd M14 l0 9 ∧ callX TBg sl sx (d + 3) 35 [vR (some l0), vI r15] M14 (fun v M9 => R118 sl sx d M0 P 71 [some (vR (some l0)), some (vI l1), some (vI l2), some (vI l3), some (vI l4), some (vR (some a8))] (pushO v []) M9) from ⟨h.1, ?_⟩)
      replace h := h.2
      refine callX_mono (callX_len (d := (d + 3)) rfl rfl rfl (c35 (d := d + 2) h)) ?_
      clear h
      rintro v9 M16 ⟨hl, r17, rfl, h⟩
      replace hM := lenT hM hl
      show R118 sl sx d M0 P 71 [some (vR (some l0)), some (vI l1), some (vI l2), some (vI l3), some (vI l4), some (vR (some a8))] [vI r17] M16
      exact RN_k (callX_det _) 1 _ _ _ _ (show rtW q118 M0 (PI P) (some (vI r17)) M16 from ⟨⟨_, rfl⟩, hM.1, hM.2, _, rfl, h⟩)
  · replace h := h.2 hc
    exact RN_k (callX_det _) 2 _ _ _ _ (show rtW q118 M0 (PI P) (some (vI (-1 : Int32))) (sI M2 a4 10 r3) from ⟨⟨_, rfl⟩, hM.1, hM.2, _, rfl, h⟩)
def w118 (l0 : Nat) (l1 : Int32) (l2 : Int32) (l3 : Int32) (l4 : Int32) (M : MM) (P : Int32 → MM → Prop) : Prop := (l3 < (-1 : Int32) → (w118_12  l0 l1 l2 l3 l4 (some l0) (some l0) (0 : Int32) M P)) ∧ (¬ (l3 < (-1 : Int32)) → (w118_12  l0 l1 l2 l3 l4 (some l0) (some l0) (1 : Int32) M P))
theorem t118_E {sl : Nat} {sx : Nat → Int32} {d : Nat} {M0 : MM} {P : Int32 → MM → Prop} (l0 : Nat) (l1 : Int32) (l2 : Int32) (l3 : Int32) (l4 : Int32) (M : MM) (hM : lenO M0 M) (h : w118  l0 l1 l2 l3 l4 M P) : R118 sl sx d M0 P 0 [some (vR (some l0)), some (vI l1), some (vI l2), some (vI l3), some (vI l4), none] [] M := by
  refine RN_k (callX_det _) 5 _ _ _ _ (show (l3 < (-1 : Int32) → R118 sl sx d M0 P 11 [some (vR (some l0)), some (vI l1), some (vI l2), some (vI l3), some (vI l4), none] [vR (some l0), vR (some l0)] M) ∧ (¬ (l3 < (-1 : Int32)) → R118 sl sx d M0 P 7 [some (vR (some l0)), some (vI l1), some (vI l2), some (vI l3), some (vI l4), none] [vR (some l0), vR (some l0)] M) from ⟨fun hc => ?_, fun hc => ?_⟩)
  · replace h := h.1 hc
    refine RN_k (callX_det _) 1 _ _ _ _ (show R118 sl sx d M0 P 12 [some (vR (some l0)), some (vI l1), some (vI l2), some (vI l3), some (vI l4), none] [vI (0 : Int32), vR (some l0), vR (some l0)] M from ?_)
    exact RN_weak (K := [some (vR (some l0)), some (vI l1), some (vI l2), some (vI l3), some (vI l4), none]) (callX_det _) (show _ ∧ _ ∧ _ ∧ _ ∧ _ ∧ True from ⟨rfl, rfl, rfl, rfl, rfl, trivial⟩) (t118_12  l0 l1 l2 l3 l4 (some l0) (some l0) (0 : Int32) _ hM h)
  · replace h := h.2 hc
    refine RN_k (callX_det _) 2 _ _ _ _ (show R118 sl sx d M0 P 12 [some (vR (some l0)), some (vI l1), some (vI l2), some (vI l3), some (vI l4), none] [vI (1 : Int32), vR (some l0), vR (some l0)] M from ?_)
    exact RN_weak (K := [some (vR (some l0)), some (vI l1), some (vI l2), some (vI l3), some (vI l4), none]) (callX_det _) (show _ ∧ _ ∧ _ ∧ _ ∧ _ ∧ True from ⟨rfl, rfl, rfl, rfl, rfl, trivial⟩) (t118_12  l0 l1 l2 l3 l4 (some l0) (some l0) (1 : Int32) _ hM h)
theorem c118 {sl : Nat} {sx : Nat → Int32} {d : Nat} {l0 : Nat} {l1 : Int32} {l2 : Int32} {l3 : Int32} {l4 : Int32} {M : MM} {P : Int32 → MM → Prop} (h : w118 l0 l1 l2 l3 l4 M P) : callX TBg sl sx (d + 4) 118 [vR (some l0), vI l1, vI l2, vI l3, vI l4] M (PI P) :=
  cX (d := d + 3) q118 (false, tb118) rfl rfl rfl (t118_E l0 l1 l2 l3 l4 M lenR h)
-- TwoLeash$Jumps.countAhead([IIII)I
abbrev q122 : MQ7 := (5, 1, 9, 4, 0, 0, 1)
abbrev R122 (sl : Nat) (sx : Nat → Int32) (d : Nat) (M0 : MM) (P : Int32 → MM → Prop) : Nat → LL → List VV → MM → Prop := RN 4 false (mS M0).length (mT M0) 0 0 sl sx (callX TBg sl sx (d + 1)) (rtW q122 M0 (PI P)) (as2 tb122)
def w122_61 (k6 : Nat → Option Nat → Int32 → Int32 → Int32 → Int64 → Int32 → MM → Prop) (l0 : Nat) (l1 : Option Nat) (l2 : Int32) (l3 : Int32) (l4 : Int32) (l5 : Int64) (l7 : Int32) (M : MM) (P : Int32 → MM → Prop) : Prop := k6 l0 l1 l2 l3 l4 l5 (l7 + (1 : Int32)) M
theorem t122_61 {sl : Nat} {sx : Nat → Int32} {d : Nat} {M0 : MM} {P : Int32 → MM → Prop} {k6 : Nat → Option Nat → Int32 → Int32 → Int32 → Int64 → Int32 → MM → Prop} (hk6 : ∀ (l0 : Nat) (l1 : Option Nat) (l2 : Int32) (l3 : Int32) (l4 : Int32) (l5 : Int64) (l7 : Int32) (M : MM), lenO M0 M → k6 l0 l1 l2 l3 l4 l5 l7 M → R122 sl sx d M0 P 6 [some (vR (some l0)), some (vR l1), some (vI l2), some (vI l3), some (vI l4), some (vL l5), none, some (vI l7), none] [] M) (l0 : Nat) (l1 : Option Nat) (l2 : Int32) (l3 : Int32) (l4 : Int32) (l5 : Int64) (l7 : Int32) (M : MM) (hM : lenO M0 M) (h : w122_61 k6 l0 l1 l2 l3 l4 l5 l7 M P) : R122 sl sx d M0 P 61 [some (vR (some l0)), some (vR l1), some (vI l2), some (vI l3), some (vI l4), some (vL l5), none, some (vI l7), none] [] M := by
  refine RN_k (callX_det _) 2 _ _ _ _ (show R122 sl sx d M0 P 6 [some (vR (some l0)), some (vR l1), some (vI l2), some (vI l3), some (vI l4), some (vL l5), none, some (vI (l7 + (1 : Int32))), none] [] M from ?_)
  exact RN_weak (K := [some (vR (some l0)), some (vR l1), some (vI l2), some (vI l3), some (vI l4), some (vL l5), none, some (vI (l7 + (1 : Int32))), none]) (callX_det _) (show _ ∧ _ ∧ _ ∧ _ ∧ _ ∧ _ ∧ _ ∧ True from ⟨rfl, rfl, rfl, rfl, rfl, rfl, rfl, trivial⟩) (hk6 l0 l1 l2 l3 l4 l5 (l7 + (1 : Int32)) _ hM h)
def w122_46 (k6 : Nat → Option Nat → Int32 → Int32 → Int32 → Int64 → Int32 → MM → Prop) (l0 : Nat) (l1 : Option Nat) (l2 : Int32) (l3 : Int32) (l4 : Int32) (l5 : Int64) (l7 : Int32) (M : MM) (P : Int32 → MM → Prop) : Prop := kd M l0 4 ∧ w98 l0 l1 l2 l3 l7 M (fun r2 M1 => w122_61 k6 l0 l1 l2 l3 l4 (l5 + r2.toInt64) l7 M1 P)
theorem t122_46 {sl : Nat} {sx : Nat → Int32} {d : Nat} {M0 : MM} {P : Int32 → MM → Prop} {k6 : Nat → Option Nat → Int32 → Int32 → Int32 → Int64 → Int32 → MM → Prop} (hk6 : ∀ (l0 : Nat) (l1 : Option Nat) (l2 : Int32) (l3 : Int32) (l4 : Int32) (l5 : Int64) (l7 : Int32) (M : MM), lenO M0 M → k6 l0 l1 l2 l3 l4 l5 l7 M → R122 sl sx d M0 P 6 [some (vR (some l0)), some (vR l1), some (vI l2), some (vI l3), some (vI l4), some (vL l5), none, some (vI l7), none] [] M) (l0 : Nat) (l1 : Option Nat) (l2 : Int32) (l3 : Int32) (l4 : Int32) (l5 : Int64) (l7 : Int32) (M : MM) (hM : lenO M0 M) (h : w122_46 k6 l0 l1 l2 l3 l4 l5 l7 M P) : R122 sl sx d M0 P 46 [some (vR (some l0)), some (vR l1), some (vI l2), some (vI l3), some (vI l4), some (vL l5), none, some (vI l7), none] [] M := by
  refine RN_k (callX_det _) 7 _ _ _ _ (show kd M l0 4 ∧ callX TBg sl sx (d + 1) 98 [vR (some l0), vR l1, vI l2, vI l3, vI l7] M (fun v M9 => R122 sl sx d M0 P 57 [some (vR (some l0)), some (vR l1), some (vI l2), some (vI l3), some (vI l4), some (vL l5), none, some (vI l7), none] (pushO v [vL l5]) M9) from ⟨h.1, ?_⟩)
  replace h := h.2
  refine callX_mono (callX_len (d := (d + 1)) rfl rfl rfl (c98 (d := d) h)) ?_
  clear h
  rintro v9 M1 ⟨hl, r2, rfl, h⟩
  replace hM := lenT hM hl
  show R122 sl sx d M0 P 57 [some (vR (some l0)), some (vR l1), some (vI l2), some (vI l3), some (vI l4), some (vL l5), none, some (vI l7), none] [vI r2, vL l5] M1
  refine RN_k (callX_det _) 3 _ _ _ _ (show R122 sl sx d M0 P 61 [some (vR (some l0)), some (vR l1), some (vI l2), some (vI l3), some (vI l4), some (vL (l5 + r2.toInt64)), none, some (vI l7), none] [] M1 from ?_)
  exact RN_weak (K := [some (vR (some l0)), some (vR l1), some (vI l2), some (vI l3), some (vI l4), some (vL (l5 + r2.toInt64)), none, some (vI l7), none]) (callX_det _) (show _ ∧ _ ∧ _ ∧ _ ∧ _ ∧ _ ∧ _ ∧ True from ⟨rfl, rfl, rfl, rfl, rfl, rfl, rfl, trivial⟩) (t122_61 hk6 l0 l1 l2 l3 l4 (l5 + r2.toInt64) l7 _ hM h)
def w122_6 : Nat → Nat → Option Nat → Int32 → Int32 → Int32 → Int64 → Int32 → MM → (Int32 → MM → Prop) → Prop
  | 0 => fun _ _ _ _ _ _ _ _ _ => False
  | n + 1 => fun l0 l1 l2 l3 l4 l5 l7 M P => ((3 : Int32) ≤ l7 → (w52 l5 (1000000000 : Int64) M (fun r2 M1 => P r2.toInt32 M1))) ∧ (¬ ((3 : Int32) ≤ l7) → (kd M l0 4 ∧ (kd M l0 4 ∧ w98 l0 (mR M l0 2) l2 l3 l7 M (fun r4 M3 => (r4 = (2147483647 : Int32) → (w122_61 (fun z0 z1 z2 z3 z4 z5 z6 z7 => w122_6  n z0 z1 z2 z3 z4 z5 z6 z7 P) l0 l1 l2 l3 l4 l5 l7 M3 P)) ∧ (¬ (r4 = (2147483647 : Int32)) → ((l4 = (-1 : Int32) → (w122_46 (fun z0 z1 z2 z3 z4 z5 z6 z7 => w122_6  n z0 z1 z2 z3 z4 z5 z6 z7 P) l0 l1 l2 l3 l4 l5 l7 M3 P)) ∧ (¬ (l4 = (-1 : Int32)) → ((r4 ≠ l4 → (w122_61 (fun z0 z1 z2 z3 z4 z5 z6 z7 => w122_6  n z0 z1 z2 z3 z4 z5 z6 z7 P) l0 l1 l2 l3 l4 l5 l7 M3 P)) ∧ (¬ (r4 ≠ l4) → (w122_46 (fun z0 z1 z2 z3 z4 z5 z6 z7 => w122_6  n z0 z1 z2 z3 z4 z5 z6 z7 P) l0 l1 l2 l3 l4 l5 l7 M3 P))))))))))
theorem t122_6 {sl : Nat} {sx : Nat → Int32} {d : Nat} {M0 : MM} {P : Int32 → MM → Prop} (n : Nat) : ∀ (l0 : Nat) (l1 : Option Nat) (l2 : Int32) (l3 : Int32) (l4 : Int32) (l5 : Int64) (l7 : Int32) (M : MM) (_ : lenO M0 M) (_ : w122_6  n l0 l1 l2 l3 l4 l5 l7 M P), R122 sl sx d M0 P 6 [some (vR (some l0)), some (vR l1), some (vI l2), some (vI l3), some (vI l4), some (vL l5), none, some (vI l7), none] [] M := by
  induction n with
  | zero => intro l0 l1 l2 l3 l4 l5 l7 M hM h; cases h
  | succ n ih =>
    intro l0 l1 l2 l3 l4 l5 l7 M hM h
    refine RN_k (callX_det _) 3 _ _ _ _ (show ((3 : Int32) ≤ l7 → R122 sl sx d M0 P 67 [some (vR (some l0)), some (vR l1), some (vI l2), some (vI l3), some (vI l4), some (vL l5), none, some (vI l7), none] [] M) ∧ (¬ ((3 : Int32) ≤ l7) → R122 sl sx d M0 P 12 [some (vR (some l0)), some (vR l1), some (vI l2), some (vI l3), some (vI l4), some (vL l5), none, some (vI l7), none] [] M) from ⟨fun hc => ?_, fun hc => ?_⟩)
    · replace h := h.1 hc
      refine RN_k (callX_det _) 3 _ _ _ _ (show callX TBg sl sx (d + 1) 52 [vL l5, vL (1000000000 : Int64)] M (fun v M9 => R122 sl sx d M0 P 75 [some (vR (some l0)), some (vR l1), some (vI l2), some (vI l3), some (vI l4), some (vL l5), none, some (vI l7), none] (pushO v []) M9) from ?_)
      refine callX_mono (callX_len (d := (d + 1)) rfl rfl rfl (c52 (d := d) h)) ?_
      clear h
      rintro v9 M1 ⟨hl, r2, rfl, h⟩
      replace hM := lenT hM hl
      show R122 sl sx d M0 P 75 [some (vR (some l0)), some (vR l1), some (vI l2), some (vI l3), some (vI l4), some (vL l5), none, some (vI l7), none] [vL r2] M1
      exact RN_k (callX_det _) 2 _ _ _ _ (show rtW q122 M0 (PI P) (some (vI r2.toInt32)) M1 from ⟨⟨_, rfl⟩, hM.1, hM.2, _, rfl, h⟩)
    · replace h := h.2 hc
      refine RN_k (callX_det _) 3 _ _ _ _ (show kd M l0 4 ∧ R122 sl sx d M0 P 17 [some (vR (some l0)), some (vR l1), some (vI l2), some (vI l3), some (vI l4), some (vL l5), none, some (vI l7), none] [vR (mR M l0 2), vR (some l0)] M from ⟨h.1, ?_⟩)
      replace h := h.2
      refine RN_k (callX_det _) 4 _ _ _ _ (show kd M l0 4 ∧ callX TBg sl sx (d + 1) 98 [vR (some l0), vR (mR M l0 2), vI l2, vI l3, vI l7] M (fun v M9 => R122 sl sx d M0 P 24 [some (vR (some l0)), some (vR l1), some (vI l2), some (vI l3), some (vI l4), some (vL l5), none, some (vI l7), none] (pushO v []) M9) from ⟨h.1, ?_⟩)
      replace h := h.2
      refine callX_mono (callX_len (d := (d + 1)) rfl rfl rfl (c98 (d := d) h)) ?_
      clear h
      rintro v9 M3 ⟨hl, r4, rfl, h⟩
      replace hM := lenT hM hl
      show R122 sl sx d M0 P 24 [some (vR (some l0)), some (vR l1), some (vI l2), some (vI l3), some (vI l4), some (vL l5), none, some (vI l7), none] [vI r4] M3
      refine RN_k (callX_det _) 4 _ _ _ _ (show (r4 = (2147483647 : Int32) → R122 sl sx d M0 P 61 [some (vR (some l0)), some (vR l1), some (vI l2), some (vI l3), some (vI l4), some (vL l5), none, some (vI l7), some (vI r4)] [] M3) ∧ (¬ (r4 = (2147483647 : Int32)) → R122 sl sx d M0 P 33 [some (vR (some l0)), some (vR l1), some (vI l2), some (vI l3), some (vI l4), some (vL l5), none, some (vI l7), some (vI r4)] [] M3) from ⟨fun hc => ?_, fun hc => ?_⟩)
      · replace h := h.1 hc
        exact RN_weak (K := [some (vR (some l0)), some (vR l1), some (vI l2), some (vI l3), some (vI l4), some (vL l5), none, some (vI l7), none]) (callX_det _) (show _ ∧ _ ∧ _ ∧ _ ∧ _ ∧ _ ∧ _ ∧ True from ⟨rfl, rfl, rfl, rfl, rfl, rfl, rfl, trivial⟩) (t122_61 ih l0 l1 l2 l3 l4 l5 l7 _ hM h)
      · replace h := h.2 hc
        refine RN_k (callX_det _) 3 _ _ _ _ (show (l4 = (-1 : Int32) → R122 sl sx d M0 P 46 [some (vR (some l0)), some (vR l1), some (vI l2), some (vI l3), some (vI l4), some (vL l5), none, some (vI l7), some (vI r4)] [] M3) ∧ (¬ (l4 = (-1 : Int32)) → R122 sl sx d M0 P 39 [some (vR (some l0)), some (vR l1), some (vI l2), some (vI l3), some (vI l4), some (vL l5), none, some (vI l7), some (vI r4)] [] M3) from ⟨fun hc => ?_, fun hc => ?_⟩)
        · replace h := h.1 hc
          exact RN_weak (K := [some (vR (some l0)), some (vR l1), some (vI l2), some (vI l3), some (vI l4), some (vL l5), none, some (vI l7), none]) (callX_det _) (show _ ∧ _ ∧ _ ∧ _ ∧ _ ∧ _ ∧ _ ∧ True from ⟨rfl, rfl, rfl, rfl, rfl, rfl, rfl, trivial⟩) (t122_46 ih l0 l1 l2 l3 l4 l5 l7 _ hM h)
        · replace h := h.2 hc
          refine RN_k (callX_det _) 3 _ _ _ _ (show (r4 ≠ l4 → R122 sl sx d M0 P 61 [some (vR (some l0)), some (vR l1), some (vI l2), some (vI l3), some (vI l4), some (vL l5), none, some (vI l7), some (vI r4)] [] M3) ∧ (¬ (r4 ≠ l4) → R122 sl sx d M0 P 46 [some (vR (some l0)), some (vR l1), some (vI l2), some (vI l3), some (vI l4), some (vL l5), none, some (vI l7), some (vI r4)] [] M3) from ⟨fun hc => ?_, fun hc => ?_⟩)
          · replace h := h.1 hc
            exact RN_weak (K := [some (vR (some l0)), some (vR l1), some (vI l2), some (vI l3), some (vI l4), some (vL l5), none, some (vI l7), none]) (callX_det _) (show _ ∧ _ ∧ _ ∧ _ ∧ _ ∧ _ ∧ _ ∧ True from ⟨rfl, rfl, rfl, rfl, rfl, rfl, rfl, trivial⟩) (t122_61 ih l0 l1 l2 l3 l4 l5 l7 _ hM h)
          · replace h := h.2 hc
            exact RN_weak (K := [some (vR (some l0)), some (vR l1), some (vI l2), some (vI l3), some (vI l4), some (vL l5), none, some (vI l7), none]) (callX_det _) (show _ ∧ _ ∧ _ ∧ _ ∧ _ ∧ _ ∧ _ ∧ True from ⟨rfl, rfl, rfl, rfl, rfl, rfl, rfl, trivial⟩) (t122_46 ih l0 l1 l2 l3 l4 l5 l7 _ hM h)
def w122 (l0 : Nat) (l1 : Option Nat) (l2 : Int32) (l3 : Int32) (l4 : Int32) (M : MM) (P : Int32 → MM → Prop) : Prop := ∃ n2, w122_6  n2 l0 l1 l2 l3 l4 (0 : Int64) (0 : Int32) M P
theorem t122_E {sl : Nat} {sx : Nat → Int32} {d : Nat} {M0 : MM} {P : Int32 → MM → Prop} (l0 : Nat) (l1 : Option Nat) (l2 : Int32) (l3 : Int32) (l4 : Int32) (M : MM) (hM : lenO M0 M) (h : w122  l0 l1 l2 l3 l4 M P) : R122 sl sx d M0 P 0 [some (vR (some l0)), some (vR l1), some (vI l2), some (vI l3), some (vI l4), none, none, none, none] [] M := by
  refine RN_k (callX_det _) 4 _ _ _ _ (show R122 sl sx d M0 P 6 [some (vR (some l0)), some (vR l1), some (vI l2), some (vI l3), some (vI l4), some (vL (0 : Int64)), none, some (vI (0 : Int32)), none] [] M from ?_)
  obtain ⟨n2, h⟩ := h
  exact RN_weak (K := [some (vR (some l0)), some (vR l1), some (vI l2), some (vI l3), some (vI l4), some (vL (0 : Int64)), none, some (vI (0 : Int32)), none]) (callX_det _) (show _ ∧ _ ∧ _ ∧ _ ∧ _ ∧ _ ∧ _ ∧ True from ⟨rfl, rfl, rfl, rfl, rfl, rfl, rfl, trivial⟩) (t122_6  n2 l0 l1 l2 l3 l4 (0 : Int64) (0 : Int32) _ hM h)
theorem c122 {sl : Nat} {sx : Nat → Int32} {d : Nat} {l0 : Nat} {l1 : Option Nat} {l2 : Int32} {l3 : Int32} {l4 : Int32} {M : MM} {P : Int32 → MM → Prop} (h : w122 l0 l1 l2 l3 l4 M P) : callX TBg sl sx (d + 2) 122 [vR (some l0), vR l1, vI l2, vI l3, vI l4] M (PI P) :=
  cX (d := d + 1) q122 (false, tb122) rfl rfl rfl (t122_E l0 l1 l2 l3 l4 M lenR h)
-- TwoLeash$Jumps.addUp()V
abbrev q121 : MQ7 := (1, 1, 6, 4, 0, 0, 0)
abbrev R121 (sl : Nat) (sx : Nat → Int32) (d : Nat) (M0 : MM) (P : MM → Prop) : Nat → LL → List VV → MM → Prop := RN 4 false (mS M0).length (mT M0) 0 0 sl sx (callX TBg sl sx (d + 2)) (rtW q121 M0 (PV P)) (as2 tb121)
def w121_127 (k5 : Nat → Int32 → MM → Prop) (k14 : Nat → Int32 → Int32 → MM → Prop) (l0 : Nat) (l1 : Int32) (l2 : Int32) (s0 : Option Nat) (s1 : Int32) (s2 : Int32) (M : MM) (P : MM → Prop) : Prop := ∃ a1, s0 = some a1 ∧ (inb M a1 11 s1 ∧ (k14 l0 l1 (l2 + (-1 : Int32)) (sI M a1 s1.toNatClampNeg s2)))
theorem t121_127 {sl : Nat} {sx : Nat → Int32} {d : Nat} {M0 : MM} {P : MM → Prop} {k5 : Nat → Int32 → MM → Prop} {k14 : Nat → Int32 → Int32 → MM → Prop} (hk5 : ∀ (l0 : Nat) (l1 : Int32) (M : MM), lenO M0 M → k5 l0 l1 M → R121 sl sx d M0 P 5 [some (vR (some l0)), some (vI l1), none, none, none, none] [] M) (hk14 : ∀ (l0 : Nat) (l1 : Int32) (l2 : Int32) (M : MM), lenO M0 M → k14 l0 l1 l2 M → R121 sl sx d M0 P 14 [some (vR (some l0)), some (vI l1), some (vI l2), none, none, none] [] M) (l0 : Nat) (l1 : Int32) (l2 : Int32) (s0 : Option Nat) (s1 : Int32) (s2 : Int32) (M : MM) (hM : lenO M0 M) (h : w121_127 k5 k14 l0 l1 l2 s0 s1 s2 M P) : R121 sl sx d M0 P 127 [some (vR (some l0)), some (vI l1), some (vI l2), none, none, none] [vI s2, vI s1, vR s0] M := by
  obtain ⟨a1, he, h⟩ := h
  subst he
  refine RN_k (callX_det _) 1 _ _ _ _ (show inb M a1 11 s1 ∧ R121 sl sx d M0 P 128 [some (vR (some l0)), some (vI l1), some (vI l2), none, none, none] [] (sI M a1 s1.toNatClampNeg s2) from ⟨h.1, ?_⟩)
  replace h := h.2
  refine RN_k (callX_det _) 2 _ _ _ _ (show R121 sl sx d M0 P 14 [some (vR (some l0)), some (vI l1), some (vI (l2 + (-1 : Int32))), none, none, none] [] (sI M a1 s1.toNatClampNeg s2) from ?_)
  exact RN_weak (K := [some (vR (some l0)), some (vI l1), some (vI (l2 + (-1 : Int32))), none, none, none]) (callX_det _) (show _ ∧ _ ∧ _ ∧ True from ⟨rfl, rfl, rfl, trivial⟩) (hk14 l0 l1 (l2 + (-1 : Int32)) _ hM h)
def w121_101 (k5 : Nat → Int32 → MM → Prop) (k14 : Nat → Int32 → Int32 → MM → Prop) (l0 : Nat) (l1 : Int32) (l2 : Int32) (l3 : Int32) (l4 : Int32) (s0 : Option Nat) (s1 : Int32) (s2 : Int32) (M : MM) (P : MM → Prop) : Prop := ∃ a1, s0 = some a1 ∧ (inb M a1 11 s1 ∧ (kd (sI M a1 s1.toNatClampNeg s2) l0 4 ∧ ((l4 = 0 → (kd (sI M a1 s1.toNatClampNeg s2) l0 4 ∧ (kd (sI M a1 s1.toNatClampNeg s2) l0 4 ∧ w122 l0 (mR (sI M a1 s1.toNatClampNeg s2) l0 4) l1 l2 (-1 : Int32) (sI M a1 s1.toNatClampNeg s2) (fun r3 M2 => w121_127 k5 k14 l0 l1 l2 (mR (sI M a1 s1.toNatClampNeg s2) l0 4) l3 r3 M2 P)))) ∧ (¬ (l4 = 0) → (w121_127 k5 k14 l0 l1 l2 (mR (sI M a1 s1.toNatClampNeg s2) l0 4) l3 (1 : Int32) (sI M a1 s1.toNatClampNeg s2) P)))))
theorem t121_101 {sl : Nat} {sx : Nat → Int32} {d : Nat} {M0 : MM} {P : MM → Prop} {k5 : Nat → Int32 → MM → Prop} {k14 : Nat → Int32 → Int32 → MM → Prop} (hk5 : ∀ (l0 : Nat) (l1 : Int32) (M : MM), lenO M0 M → k5 l0 l1 M → R121 sl sx d M0 P 5 [some (vR (some l0)), some (vI l1), none, none, none, none] [] M) (hk14 : ∀ (l0 : Nat) (l1 : Int32) (l2 : Int32) (M : MM), lenO M0 M → k14 l0 l1 l2 M → R121 sl sx d M0 P 14 [some (vR (some l0)), some (vI l1), some (vI l2), none, none, none] [] M) (l0 : Nat) (l1 : Int32) (l2 : Int32) (l3 : Int32) (l4 : Int32) (s0 : Option Nat) (s1 : Int32) (s2 : Int32) (M : MM) (hM : lenO M0 M) (h : w121_101 k5 k14 l0 l1 l2 l3 l4 s0 s1 s2 M P) : R121 sl sx d M0 P 101 [some (vR (some l0)), some (vI l1), some (vI l2), some (vI l3), some (vI l4), none] [vI s2, vI s1, vR s0] M := by
  obtain ⟨a1, he, h⟩ := h
  subst he
  refine RN_k (callX_det _) 1 _ _ _ _ (show inb M a1 11 s1 ∧ R121 sl sx d M0 P 102 [some (vR (some l0)), some (vI l1), some (vI l2), some (vI l3), some (vI l4), none] [] (sI M a1 s1.toNatClampNeg s2) from ⟨h.1, ?_⟩)
  replace h := h.2
  refine RN_k (callX_det _) 2 _ _ _ _ (show kd (sI M a1 s1.toNatClampNeg s2) l0 4 ∧ R121 sl sx d M0 P 106 [some (vR (some l0)), some (vI l1), some (vI l2), some (vI l3), some (vI l4), none] [vR (mR (sI M a1 s1.toNatClampNeg s2) l0 4)] (sI M a1 s1.toNatClampNeg s2) from ⟨h.1, ?_⟩)
  replace h := h.2
  refine RN_k (callX_det _) 3 _ _ _ _ (show (l4 = 0 → R121 sl sx d M0 P 116 [some (vR (some l0)), some (vI l1), some (vI l2), some (vI l3), some (vI l4), none] [vI l3, vR (mR (sI M a1 s1.toNatClampNeg s2) l0 4)] (sI M a1 s1.toNatClampNeg s2)) ∧ (¬ (l4 = 0) → R121 sl sx d M0 P 112 [some (vR (some l0)), some (vI l1), some (vI l2), some (vI l3), some (vI l4), none] [vI l3, vR (mR (sI M a1 s1.toNatClampNeg s2) l0 4)] (sI M a1 s1.toNatClampNeg s2)) from ⟨fun hc => ?_, fun hc => ?_⟩)
  · replace h := h.1 hc
    refine RN_k (callX_det _) 3 _ _ _ _ (show kd (sI M a1 s1.toNatClampNeg s2) l0 4 ∧ R121 sl sx d M0 P 121 [some (vR (some l0)), some (vI l1), some (vI l2), some (vI l3), some (vI l4), none] [vR (mR (sI M a1 s1.toNatClampNeg s2) l0 4), vR (some l0), vI l3, vR (mR (sI M a1 s1.toNatClampNeg s2) l0 4)] (sI M a1 s1.toNatClampNeg s2) from ⟨h.1, ?_⟩)
    replace h := h.2
    refine RN_k (callX_det _) 4 _ _ _ _ (show kd (sI M a1 s1.toNatClampNeg s2) l0 4 ∧ callX TBg sl sx (d + 2) 122 [vR (some l0), vR (mR (sI M a1 s1.toNatClampNeg s2) l0 4), vI l1, vI l2, vI (-1 : Int32)] (sI M a1 s1.toNatClampNeg s2) (fun v M9 => R121 sl sx d M0 P 127 [some (vR (some l0)), some (vI l1), some (vI l2), some (vI l3), some (vI l4), none] (pushO v [vI l3, vR (mR (sI M a1 s1.toNatClampNeg s2) l0 4)]) M9) from ⟨h.1, ?_⟩)
    replace h := h.2
    refine callX_mono (callX_len (d := (d + 2)) rfl rfl rfl (c122 (d := d) h)) ?_
    clear h
    rintro v9 M2 ⟨hl, r3, rfl, h⟩
    replace hM := lenT hM hl
    show R121 sl sx d M0 P 127 [some (vR (some l0)), some (vI l1), some (vI l2), some (vI l3), some (vI l4), none] [vI r3, vI l3, vR (mR (sI M a1 s1.toNatClampNeg s2) l0 4)] M2
    exact RN_weak (K := [some (vR (some l0)), some (vI l1), some (vI l2), none, none, none]) (callX_det _) (show _ ∧ _ ∧ _ ∧ True from ⟨rfl, rfl, rfl, trivial⟩) (t121_127 hk5 hk14 l0 l1 l2 (mR (sI M a1 s1.toNatClampNeg s2) l0 4) l3 r3 _ hM h)
  · replace h := h.2 hc
    refine RN_k (callX_det _) 2 _ _ _ _ (show R121 sl sx d M0 P 127 [some (vR (some l0)), some (vI l1), some (vI l2), some (vI l3), some (vI l4), none] [vI (1 : Int32), vI l3, vR (mR (sI M a1 s1.toNatClampNeg s2) l0 4)] (sI M a1 s1.toNatClampNeg s2) from ?_)
    exact RN_weak (K := [some (vR (some l0)), some (vI l1), some (vI l2), none, none, none]) (callX_det _) (show _ ∧ _ ∧ _ ∧ True from ⟨rfl, rfl, rfl, trivial⟩) (t121_127 hk5 hk14 l0 l1 l2 (mR (sI M a1 s1.toNatClampNeg s2) l0 4) l3 (1 : Int32) _ hM h)
def w121_46 (k5 : Nat → Int32 → MM → Prop) (k14 : Nat → Int32 → Int32 → MM → Prop) (l0 : Nat) (l1 : Int32) (l2 : Int32) (l3 : Int32) (s0 : Int32) (M : MM) (P : MM → Prop) : Prop := kd M l0 4 ∧ (kd M l0 4 ∧ w97 l0 (mR M l0 2) l1 l2 M (fun r2 M1 => kd M1 l0 4 ∧ (kd M1 l0 4 ∧ (∃ a3, mR M1 l0 0 = some a3 ∧ (inb M1 a3 11 l3 ∧ (∃ a4, mR M1 l0 2 = some a4 ∧ (inb M1 a4 11 l3 ∧ (kd (sI M1 a4 l3.toNatClampNeg ((mI M1 a3 l3.toNatClampNeg) + r2)) l0 4 ∧ ((s0 = 0 → (kd (sI M1 a4 l3.toNatClampNeg ((mI M1 a3 l3.toNatClampNeg) + r2)) l0 4 ∧ (kd (sI M1 a4 l3.toNatClampNeg ((mI M1 a3 l3.toNatClampNeg) + r2)) l0 4 ∧ w122 l0 (mR (sI M1 a4 l3.toNatClampNeg ((mI M1 a3 l3.toNatClampNeg) + r2)) l0 3) l1 l2 r2 (sI M1 a4 l3.toNatClampNeg ((mI M1 a3 l3.toNatClampNeg) + r2)) (fun r6 M5 => w121_101 k5 k14 l0 l1 l2 l3 s0 (mR (sI M1 a4 l3.toNatClampNeg ((mI M1 a3 l3.toNatClampNeg) + r2)) l0 3) l3 r6 M5 P)))) ∧ (¬ (s0 = 0) → (w121_101 k5 k14 l0 l1 l2 l3 s0 (mR (sI M1 a4 l3.toNatClampNeg ((mI M1 a3 l3.toNatClampNeg) + r2)) l0 3) l3 (1 : Int32) (sI M1 a4 l3.toNatClampNeg ((mI M1 a3 l3.toNatClampNeg) + r2)) P)))))))))))
theorem t121_46 {sl : Nat} {sx : Nat → Int32} {d : Nat} {M0 : MM} {P : MM → Prop} {k5 : Nat → Int32 → MM → Prop} {k14 : Nat → Int32 → Int32 → MM → Prop} (hk5 : ∀ (l0 : Nat) (l1 : Int32) (M : MM), lenO M0 M → k5 l0 l1 M → R121 sl sx d M0 P 5 [some (vR (some l0)), some (vI l1), none, none, none, none] [] M) (hk14 : ∀ (l0 : Nat) (l1 : Int32) (l2 : Int32) (M : MM), lenO M0 M → k14 l0 l1 l2 M → R121 sl sx d M0 P 14 [some (vR (some l0)), some (vI l1), some (vI l2), none, none, none] [] M) (l0 : Nat) (l1 : Int32) (l2 : Int32) (l3 : Int32) (s0 : Int32) (M : MM) (hM : lenO M0 M) (h : w121_46 k5 k14 l0 l1 l2 l3 s0 M P) : R121 sl sx d M0 P 46 [some (vR (some l0)), some (vI l1), some (vI l2), some (vI l3), none, none] [vI s0] M := by
  refine RN_k (callX_det _) 4 _ _ _ _ (show kd M l0 4 ∧ R121 sl sx d M0 P 53 [some (vR (some l0)), some (vI l1), some (vI l2), some (vI l3), some (vI s0), none] [vR (mR M l0 2), vR (some l0)] M from ⟨h.1, ?_⟩)
  replace h := h.2
  refine RN_k (callX_det _) 3 _ _ _ _ (show kd M l0 4 ∧ callX TBg sl sx (d + 2) 97 [vR (some l0), vR (mR M l0 2), vI l1, vI l2] M (fun v M9 => R121 sl sx d M0 P 58 [some (vR (some l0)), some (vI l1), some (vI l2), some (vI l3), some (vI s0), none] (pushO v []) M9) from ⟨h.1, ?_⟩)
  replace h := h.2
  refine callX_mono (callX_len (d := (d + 2)) rfl rfl rfl (c97 (d := d) h)) ?_
  clear h
  rintro v9 M1 ⟨hl, r2, rfl, h⟩
  replace hM := lenT hM hl
  show R121 sl sx d M0 P 58 [some (vR (some l0)), some (vI l1), some (vI l2), some (vI l3), some (vI s0), none] [vI r2] M1
  refine RN_k (callX_det _) 3 _ _ _ _ (show kd M1 l0 4 ∧ R121 sl sx d M0 P 64 [some (vR (some l0)), some (vI l1), some (vI l2), some (vI l3), some (vI s0), some (vI r2)] [vR (mR M1 l0 2)] M1 from ⟨h.1, ?_⟩)
  replace h := h.2
  refine RN_k (callX_det _) 3 _ _ _ _ (show kd M1 l0 4 ∧ R121 sl sx d M0 P 69 [some (vR (some l0)), some (vI l1), some (vI l2), some (vI l3), some (vI s0), some (vI r2)] [vR (mR M1 l0 0), vI l3, vR (mR M1 l0 2)] M1 from ⟨h.1, ?_⟩)
  replace h := h.2
  obtain ⟨a3, he, h⟩ := h
  refine RN_k (callX_det _) 1 _ _ _ _ (show R121 sl sx d M0 P 70 [some (vR (some l0)), some (vI l1), some (vI l2), some (vI l3), some (vI s0), some (vI r2)] [vI l3, vR (mR M1 l0 0), vI l3, vR (mR M1 l0 2)] M1 from ?_)
  rw [he]
  refine RN_k (callX_det _) 1 _ _ _ _ (show inb M1 a3 11 l3 ∧ R121 sl sx d M0 P 71 [some (vR (some l0)), some (vI l1), some (vI l2), some (vI l3), some (vI s0), some (vI r2)] [vI (mI M1 a3 l3.toNatClampNeg), vI l3, vR (mR M1 l0 2)] M1 from ⟨h.1, ?_⟩)
  replace h := h.2
  obtain ⟨a4, he, h⟩ := h
  refine RN_k (callX_det _) 2 _ _ _ _ (show R121 sl sx d M0 P 74 [some (vR (some l0)), some (vI l1), some (vI l2), some (vI l3), some (vI s0), some (vI r2)] [vI ((mI M1 a3 l3.toNatClampNeg) + r2), vI l3, vR (mR M1 l0 2)] M1 from ?_)
  rw [he]
  refine RN_k (callX_det _) 1 _ _ _ _ (show inb M1 a4 11 l3 ∧ R121 sl sx d M0 P 75 [some (vR (some l0)), some (vI l1), some (vI l2), some (vI l3), some (vI s0), some (vI r2)] [] (sI M1 a4 l3.toNatClampNeg ((mI M1 a3 l3.toNatClampNeg) + r2)) from ⟨h.1, ?_⟩)
  replace h := h.2
  refine RN_k (callX_det _) 2 _ _ _ _ (show kd (sI M1 a4 l3.toNatClampNeg ((mI M1 a3 l3.toNatClampNeg) + r2)) l0 4 ∧ R121 sl sx d M0 P 79 [some (vR (some l0)), some (vI l1), some (vI l2), some (vI l3), some (vI s0), some (vI r2)] [vR (mR (sI M1 a4 l3.toNatClampNeg ((mI M1 a3 l3.toNatClampNeg) + r2)) l0 3)] (sI M1 a4 l3.toNatClampNeg ((mI M1 a3 l3.toNatClampNeg) + r2)) from ⟨h.1, ?_⟩)
  replace h := h.2
  refine RN_k (callX_det _) 3 _ _ _ _ (show (s0 = 0 → R121 sl sx d M0 P 89 [some (vR (some l0)), some (vI l1), some (vI l2), some (vI l3), some (vI s0), some (vI r2)] [vI l3, vR (mR (sI M1 a4 l3.toNatClampNeg ((mI M1 a3 l3.toNatClampNeg) + r2)) l0 3)] (sI M1 a4 l3.toNatClampNeg ((mI M1 a3 l3.toNatClampNeg) + r2))) ∧ (¬ (s0 = 0) → R121 sl sx d M0 P 85 [some (vR (some l0)), some (vI l1), some (vI l2), some (vI l3), some (vI s0), some (vI r2)] [vI l3, vR (mR (sI M1 a4 l3.toNatClampNeg ((mI M1 a3 l3.toNatClampNeg) + r2)) l0 3)] (sI M1 a4 l3.toNatClampNeg ((mI M1 a3 l3.toNatClampNeg) + r2))) from ⟨fun hc => ?_, fun hc => ?_⟩)
  · replace h := h.1 hc
    refine RN_k (callX_det _) 3 _ _ _ _ (show kd (sI M1 a4 l3.toNatClampNeg ((mI M1 a3 l3.toNatClampNeg) + r2)) l0 4 ∧ R121 sl sx d M0 P 94 [some (vR (some l0)), some (vI l1), some (vI l2), some (vI l3), some (vI s0), some (vI r2)] [vR (mR (sI M1 a4 l3.toNatClampNeg ((mI M1 a3 l3.toNatClampNeg) + r2)) l0 3), vR (some l0), vI l3, vR (mR (sI M1 a4 l3.toNatClampNeg ((mI M1 a3 l3.toNatClampNeg) + r2)) l0 3)] (sI M1 a4 l3.toNatClampNeg ((mI M1 a3 l3.toNatClampNeg) + r2)) from ⟨h.1, ?_⟩)
    replace h := h.2
    refine RN_k (callX_det _) 4 _ _ _ _ (show kd (sI M1 a4 l3.toNatClampNeg ((mI M1 a3 l3.toNatClampNeg) + r2)) l0 4 ∧ callX TBg sl sx (d + 2) 122 [vR (some l0), vR (mR (sI M1 a4 l3.toNatClampNeg ((mI M1 a3 l3.toNatClampNeg) + r2)) l0 3), vI l1, vI l2, vI r2] (sI M1 a4 l3.toNatClampNeg ((mI M1 a3 l3.toNatClampNeg) + r2)) (fun v M9 => R121 sl sx d M0 P 101 [some (vR (some l0)), some (vI l1), some (vI l2), some (vI l3), some (vI s0), some (vI r2)] (pushO v [vI l3, vR (mR (sI M1 a4 l3.toNatClampNeg ((mI M1 a3 l3.toNatClampNeg) + r2)) l0 3)]) M9) from ⟨h.1, ?_⟩)
    replace h := h.2
    refine callX_mono (callX_len (d := (d + 2)) rfl rfl rfl (c122 (d := d) h)) ?_
    clear h
    rintro v9 M5 ⟨hl, r6, rfl, h⟩
    replace hM := lenT hM hl
    show R121 sl sx d M0 P 101 [some (vR (some l0)), some (vI l1), some (vI l2), some (vI l3), some (vI s0), some (vI r2)] [vI r6, vI l3, vR (mR (sI M1 a4 l3.toNatClampNeg ((mI M1 a3 l3.toNatClampNeg) + r2)) l0 3)] M5
    exact RN_weak (K := [some (vR (some l0)), some (vI l1), some (vI l2), some (vI l3), some (vI s0), none]) (callX_det _) (show _ ∧ _ ∧ _ ∧ _ ∧ _ ∧ True from ⟨rfl, rfl, rfl, rfl, rfl, trivial⟩) (t121_101 hk5 hk14 l0 l1 l2 l3 s0 (mR (sI M1 a4 l3.toNatClampNeg ((mI M1 a3 l3.toNatClampNeg) + r2)) l0 3) l3 r6 _ hM h)
  · replace h := h.2 hc
    refine RN_k (callX_det _) 2 _ _ _ _ (show R121 sl sx d M0 P 101 [some (vR (some l0)), some (vI l1), some (vI l2), some (vI l3), some (vI s0), some (vI r2)] [vI (1 : Int32), vI l3, vR (mR (sI M1 a4 l3.toNatClampNeg ((mI M1 a3 l3.toNatClampNeg) + r2)) l0 3)] (sI M1 a4 l3.toNatClampNeg ((mI M1 a3 l3.toNatClampNeg) + r2)) from ?_)
    exact RN_weak (K := [some (vR (some l0)), some (vI l1), some (vI l2), some (vI l3), some (vI s0), none]) (callX_det _) (show _ ∧ _ ∧ _ ∧ _ ∧ _ ∧ True from ⟨rfl, rfl, rfl, rfl, rfl, trivial⟩) (t121_101 hk5 hk14 l0 l1 l2 l3 s0 (mR (sI M1 a4 l3.toNatClampNeg ((mI M1 a3 l3.toNatClampNeg) + r2)) l0 3) l3 (1 : Int32) _ hM h)
def w121_45 (k5 : Nat → Int32 → MM → Prop) (k14 : Nat → Int32 → Int32 → MM → Prop) (l0 : Nat) (l1 : Int32) (l2 : Int32) (l3 : Int32) (M : MM) (P : MM → Prop) : Prop := w121_46 k5 k14 l0 l1 l2 l3 (0 : Int32) M P
theorem t121_45 {sl : Nat} {sx : Nat → Int32} {d : Nat} {M0 : MM} {P : MM → Prop} {k5 : Nat → Int32 → MM → Prop} {k14 : Nat → Int32 → Int32 → MM → Prop} (hk5 : ∀ (l0 : Nat) (l1 : Int32) (M : MM), lenO M0 M → k5 l0 l1 M → R121 sl sx d M0 P 5 [some (vR (some l0)), some (vI l1), none, none, none, none] [] M) (hk14 : ∀ (l0 : Nat) (l1 : Int32) (l2 : Int32) (M : MM), lenO M0 M → k14 l0 l1 l2 M → R121 sl sx d M0 P 14 [some (vR (some l0)), some (vI l1), some (vI l2), none, none, none] [] M) (l0 : Nat) (l1 : Int32) (l2 : Int32) (l3 : Int32) (M : MM) (hM : lenO M0 M) (h : w121_45 k5 k14 l0 l1 l2 l3 M P) : R121 sl sx d M0 P 45 [some (vR (some l0)), some (vI l1), some (vI l2), some (vI l3), none, none] [] M := by
  refine RN_k (callX_det _) 1 _ _ _ _ (show R121 sl sx d M0 P 46 [some (vR (some l0)), some (vI l1), some (vI l2), some (vI l3), none, none] [vI (0 : Int32)] M from ?_)
  exact RN_weak (K := [some (vR (some l0)), some (vI l1), some (vI l2), some (vI l3), none, none]) (callX_det _) (show _ ∧ _ ∧ _ ∧ _ ∧ True from ⟨rfl, rfl, rfl, rfl, trivial⟩) (t121_46 hk5 hk14 l0 l1 l2 l3 (0 : Int32) _ hM h)
def w121_14 (k5 : Nat → Int32 → MM → Prop) : Nat → Nat → Int32 → Int32 → MM → (MM → Prop) → Prop
  | 0 => fun _ _ _ _ _ => False
  | n + 1 => fun l0 l1 l2 M P => (l2 < 0 → (k5 l0 (l1 + (-1 : Int32)) M)) ∧ (¬ (l2 < 0) → (kd M l0 4 ∧ ((l1 ≠ (mI M l0 5) → (w121_45 k5 (fun z0 z1 z2 z3 => w121_14 k5 n z0 z1 z2 z3 P) l0 l1 l2 ((l1 * (8 : Int32)) + l2) M P)) ∧ (¬ (l1 ≠ (mI M l0 5)) → (kd M l0 4 ∧ ((l2 ≠ (mI M l0 6) → (w121_45 k5 (fun z0 z1 z2 z3 => w121_14 k5 n z0 z1 z2 z3 P) l0 l1 l2 ((l1 * (8 : Int32)) + l2) M P)) ∧ (¬ (l2 ≠ (mI M l0 6)) → (w121_46 k5 (fun z0 z1 z2 z3 => w121_14 k5 n z0 z1 z2 z3 P) l0 l1 l2 ((l1 * (8 : Int32)) + l2) (1 : Int32) M P))))))))
theorem t121_14 {sl : Nat} {sx : Nat → Int32} {d : Nat} {M0 : MM} {P : MM → Prop} {k5 : Nat → Int32 → MM → Prop} (hk5 : ∀ (l0 : Nat) (l1 : Int32) (M : MM), lenO M0 M → k5 l0 l1 M → R121 sl sx d M0 P 5 [some (vR (some l0)), some (vI l1), none, none, none, none] [] M) (n : Nat) : ∀ (l0 : Nat) (l1 : Int32) (l2 : Int32) (M : MM) (_ : lenO M0 M) (_ : w121_14 k5 n l0 l1 l2 M P), R121 sl sx d M0 P 14 [some (vR (some l0)), some (vI l1), some (vI l2), none, none, none] [] M := by
  induction n with
  | zero => intro l0 l1 l2 M hM h; cases h
  | succ n ih =>
    intro l0 l1 l2 M hM h
    refine RN_k (callX_det _) 2 _ _ _ _ (show (l2 < 0 → R121 sl sx d M0 P 134 [some (vR (some l0)), some (vI l1), some (vI l2), none, none, none] [] M) ∧ (¬ (l2 < 0) → R121 sl sx d M0 P 18 [some (vR (some l0)), some (vI l1), some (vI l2), none, none, none] [] M) from ⟨fun hc => ?_, fun hc => ?_⟩)
    · replace h := h.1 hc
      refine RN_k (callX_det _) 2 _ _ _ _ (show R121 sl sx d M0 P 5 [some (vR (some l0)), some (vI (l1 + (-1 : Int32))), some (vI l2), none, none, none] [] M from ?_)
      exact RN_weak (K := [some (vR (some l0)), some (vI (l1 + (-1 : Int32))), none, none, none, none]) (callX_det _) (show _ ∧ _ ∧ True from ⟨rfl, rfl, trivial⟩) (hk5 l0 (l1 + (-1 : Int32)) _ hM h)
    · replace h := h.2 hc
      refine RN_k (callX_det _) 9 _ _ _ _ (show kd M l0 4 ∧ R121 sl sx d M0 P 30 [some (vR (some l0)), some (vI l1), some (vI l2), some (vI ((l1 * (8 : Int32)) + l2)), none, none] [vI (mI M l0 5), vI l1] M from ⟨h.1, ?_⟩)
      replace h := h.2
      refine RN_k (callX_det _) 1 _ _ _ _ (show (l1 ≠ (mI M l0 5) → R121 sl sx d M0 P 45 [some (vR (some l0)), some (vI l1), some (vI l2), some (vI ((l1 * (8 : Int32)) + l2)), none, none] [] M) ∧ (¬ (l1 ≠ (mI M l0 5)) → R121 sl sx d M0 P 33 [some (vR (some l0)), some (vI l1), some (vI l2), some (vI ((l1 * (8 : Int32)) + l2)), none, none] [] M) from ⟨fun hc => ?_, fun hc => ?_⟩)
      · replace h := h.1 hc
        exact RN_weak (K := [some (vR (some l0)), some (vI l1), some (vI l2), some (vI ((l1 * (8 : Int32)) + l2)), none, none]) (callX_det _) (show _ ∧ _ ∧ _ ∧ _ ∧ True from ⟨rfl, rfl, rfl, rfl, trivial⟩) (t121_45 hk5 ih l0 l1 l2 ((l1 * (8 : Int32)) + l2) _ hM h)
      · replace h := h.2 hc
        refine RN_k (callX_det _) 3 _ _ _ _ (show kd M l0 4 ∧ R121 sl sx d M0 P 38 [some (vR (some l0)), some (vI l1), some (vI l2), some (vI ((l1 * (8 : Int32)) + l2)), none, none] [vI (mI M l0 6), vI l2] M from ⟨h.1, ?_⟩)
        replace h := h.2
        refine RN_k (callX_det _) 1 _ _ _ _ (show (l2 ≠ (mI M l0 6) → R121 sl sx d M0 P 45 [some (vR (some l0)), some (vI l1), some (vI l2), some (vI ((l1 * (8 : Int32)) + l2)), none, none] [] M) ∧ (¬ (l2 ≠ (mI M l0 6)) → R121 sl sx d M0 P 41 [some (vR (some l0)), some (vI l1), some (vI l2), some (vI ((l1 * (8 : Int32)) + l2)), none, none] [] M) from ⟨fun hc => ?_, fun hc => ?_⟩)
        · replace h := h.1 hc
          exact RN_weak (K := [some (vR (some l0)), some (vI l1), some (vI l2), some (vI ((l1 * (8 : Int32)) + l2)), none, none]) (callX_det _) (show _ ∧ _ ∧ _ ∧ _ ∧ True from ⟨rfl, rfl, rfl, rfl, trivial⟩) (t121_45 hk5 ih l0 l1 l2 ((l1 * (8 : Int32)) + l2) _ hM h)
        · replace h := h.2 hc
          refine RN_k (callX_det _) 2 _ _ _ _ (show R121 sl sx d M0 P 46 [some (vR (some l0)), some (vI l1), some (vI l2), some (vI ((l1 * (8 : Int32)) + l2)), none, none] [vI (1 : Int32)] M from ?_)
          exact RN_weak (K := [some (vR (some l0)), some (vI l1), some (vI l2), some (vI ((l1 * (8 : Int32)) + l2)), none, none]) (callX_det _) (show _ ∧ _ ∧ _ ∧ _ ∧ True from ⟨rfl, rfl, rfl, rfl, trivial⟩) (t121_46 hk5 ih l0 l1 l2 ((l1 * (8 : Int32)) + l2) (1 : Int32) _ hM h)
def w121_5 : Nat → Nat → Int32 → MM → (MM → Prop) → Prop
  | 0 => fun _ _ _ _ => False
  | n + 1 => fun l0 l1 M P => (l1 < 0 → (P M)) ∧ (¬ (l1 < 0) → (kd M l0 4 ∧ (∃ n2, w121_14 (fun z0 z1 z2 => w121_5  n z0 z1 z2 P) n2 l0 l1 (mI M l0 6) M P)))
theorem t121_5 {sl : Nat} {sx : Nat → Int32} {d : Nat} {M0 : MM} {P : MM → Prop} (n : Nat) : ∀ (l0 : Nat) (l1 : Int32) (M : MM) (_ : lenO M0 M) (_ : w121_5  n l0 l1 M P), R121 sl sx d M0 P 5 [some (vR (some l0)), some (vI l1), none, none, none, none] [] M := by
  induction n with
  | zero => intro l0 l1 M hM h; cases h
  | succ n ih =>
    intro l0 l1 M hM h
    refine RN_k (callX_det _) 2 _ _ _ _ (show (l1 < 0 → R121 sl sx d M0 P 140 [some (vR (some l0)), some (vI l1), none, none, none, none] [] M) ∧ (¬ (l1 < 0) → R121 sl sx d M0 P 9 [some (vR (some l0)), some (vI l1), none, none, none, none] [] M) from ⟨fun hc => ?_, fun hc => ?_⟩)
    · replace h := h.1 hc
      exact RN_k (callX_det _) 1 _ _ _ _ (show rtW q121 M0 (PV P) none M from ⟨rfl, hM.1, hM.2, rfl, h⟩)
    · replace h := h.2 hc
      refine RN_k (callX_det _) 2 _ _ _ _ (show kd M l0 4 ∧ R121 sl sx d M0 P 13 [some (vR (some l0)), some (vI l1), none, none, none, none] [vI (mI M l0 6)] M from ⟨h.1, ?_⟩)
      replace h := h.2
      refine RN_k (callX_det _) 1 _ _ _ _ (show R121 sl sx d M0 P 14 [some (vR (some l0)), some (vI l1), some (vI (mI M l0 6)), none, none, none] [] M from ?_)
      obtain ⟨n2, h⟩ := h
      exact RN_weak (K := [some (vR (some l0)), some (vI l1), some (vI (mI M l0 6)), none, none, none]) (callX_det _) (show _ ∧ _ ∧ _ ∧ True from ⟨rfl, rfl, rfl, trivial⟩) (t121_14 ih n2 l0 l1 (mI M l0 6) _ hM h)
def w121 (l0 : Nat) (M : MM) (P : MM → Prop) : Prop := kd M l0 4 ∧ (∃ n2, w121_5  n2 l0 (mI M l0 5) M P)
theorem t121_E {sl : Nat} {sx : Nat → Int32} {d : Nat} {M0 : MM} {P : MM → Prop} (l0 : Nat) (M : MM) (hM : lenO M0 M) (h : w121  l0 M P) : R121 sl sx d M0 P 0 [some (vR (some l0)), none, none, none, none, none] [] M := by
  refine RN_k (callX_det _) 2 _ _ _ _ (show kd M l0 4 ∧ R121 sl sx d M0 P 4 [some (vR (some l0)), none, none, none, none, none] [vI (mI M l0 5)] M from ⟨h.1, ?_⟩)
  replace h := h.2
  refine RN_k (callX_det _) 1 _ _ _ _ (show R121 sl sx d M0 P 5 [some (vR (some l0)), some (vI (mI M l0 5)), none, none, none, none] [] M from ?_)
  obtain ⟨n2, h⟩ := h
  exact RN_weak (K := [some (vR (some l0)), some (vI (mI M l0 5)), none, none, none, none]) (callX_det _) (show _ ∧ _ ∧ True from ⟨rfl, rfl, trivial⟩) (t121_5  n2 l0 (mI M l0 5) _ hM h)
theorem c121 {sl : Nat} {sx : Nat → Int32} {d : Nat} {l0 : Nat} {M : MM} {P : MM → Prop} (h : w121 l0 M P) : callX TBg sl sx (d + 3) 121 [vR (some l0)] M (PV P) :=
  cX (d := d + 2) q121 (false, tb121) rfl rfl rfl (t121_E l0 M lenR h)
-- TwoLeash.sums(III)I
abbrev q120 : MQ7 := (4, 1, 5, 9, 0, 0, 1)
abbrev R120 (sl : Nat) (sx : Nat → Int32) (d : Nat) (M0 : MM) (P : Int32 → MM → Prop) : Nat → LL → List VV → MM → Prop := RN 9 false (mS M0).length (mT M0) 0 0 sl sx (callX TBg sl sx (d + 3)) (rtW q120 M0 (PI P)) (as2 tb120)
def w120_103 (s0 : Option Nat) (s1 : Int32) (M : MM) (P : Int32 → MM → Prop) : Prop := ∃ a1, s0 = some a1 ∧ (kd M a1 9 ∧ w35 a1 s1 M (fun r3 M2 => P r3 M2))
theorem t120_103 {sl : Nat} {sx : Nat → Int32} {d : Nat} {M0 : MM} {P : Int32 → MM → Prop} (s0 : Option Nat) (s1 : Int32) (M : MM) (hM : lenO M0 M) (h : w120_103  s0 s1 M P) : R120 sl sx d M0 P 103 [none, none, none, none, none] [vI s1, vR s0] M := by
  obtain ⟨a1, he, h⟩ := h
  subst he
  refine RN_k (callX_det _) 1 _ _ _ _ (show kd M a1 9 ∧ callX TBg sl sx (d + 3) 35 [vR (some a1), vI s1] M (fun v M9 => R120 sl sx d M0 P 106 [none, none, none, none, none] (pushO v []) M9) from ⟨h.1, ?_⟩)
  replace h := h.2
  refine callX_mono (callX_len (d := (d + 3)) rfl rfl rfl (c35 (d := d + 2) h)) ?_
  clear h
  rintro v9 M2 ⟨hl, r3, rfl, h⟩
  replace hM := lenT hM hl
  show R120 sl sx d M0 P 106 [none, none, none, none, none] [vI r3] M2
  exact RN_k (callX_det _) 1 _ _ _ _ (show rtW q120 M0 (PI P) (some (vI r3)) M2 from ⟨⟨_, rfl⟩, hM.1, hM.2, _, rfl, h⟩)
def w120_16 (l0 : Nat) (l1 : Int32) (l2 : Int32) (l3 : Int32) (s0 : Option Nat) (s1 : Option Nat) (s2 : Int32) (M : MM) (P : Int32 → MM → Prop) : Prop := ∃ a1, s1 = some a1 ∧ (kd M a1 9 ∧ w62 a1 s2 l1 l2 M (fun r3 M2 => ∃ a4, s0 = some a4 ∧ (kd M2 a4 9 ∧ (kd (sI M2 a4 10 r3) l0 9 ∧ (((mI (sI M2 a4 10 r3) l0 10) = 0 → (kd (sI M2 a4 10 r3) l0 9 ∧ (∃ a5, mR (sI M2 a4 10 r3) l0 15 = some a5 ∧ (kd (sI M2 a4 10 r3) a5 5 ∧ (kd (sI M2 a4 10 r3) l0 9 ∧ (∃ a6, mR (sI M2 a4 10 r3) l0 5 = some a6 ∧ (inb (sI M2 a4 10 r3) a6 16 l1 ∧ (kd (sI M2 a4 10 r3) l0 9 ∧ (∃ a7, mR (sI M2 a4 10 r3) l0 5 = some a7 ∧ (inb (sI M2 a4 10 r3) a7 16 l2 ∧ (∃ a8, mR (sI M2 a4 10 r3) a5 1 = some a8 ∧ (kd (sI M2 a4 10 r3) a8 4 ∧ w96 a8 (mR (sI M2 a4 10 r3) a6 l1.toNatClampNeg) (mR (sI M2 a4 10 r3) a7 l2.toNatClampNeg) (sI M2 a4 10 r3) (fun M9 => kd M9 a8 4 ∧ w121 a8 M9 (fun M10 => (l3 ≠ 0 → ((l3 ≠ (1 : Int32) → (kd M10 a8 4 ∧ (∃ a11, mR M10 a8 4 = some a11 ∧ (inb M10 a11 11 (0 : Int32) ∧ (w120_103  (some l0) (mI M10 a11 (0 : Int32).toNatClampNeg) M10 P))))) ∧ (¬ (l3 ≠ (1 : Int32)) → (kd M10 a8 4 ∧ (∃ a12, mR M10 a8 3 = some a12 ∧ (inb M10 a12 11 (0 : Int32) ∧ (w120_103  (some l0) (mI M10 a12 (0 : Int32).toNatClampNeg) M10 P))))))) ∧ (¬ (l3 ≠ 0) → (kd M10 a8 4 ∧ (∃ a13, mR M10 a8 2 = some a13 ∧ (inb M10 a13 11 (0 : Int32) ∧ (kd M10 l0 9 ∧ w35 l0 (mI M10 a13 (0 : Int32).toNatClampNeg) M10 (fun r15 M14 => P r15 M14)))))))))))))))))))) ∧ (¬ ((mI (sI M2 a4 10 r3) l0 10) = 0) → (P (-1 : Int32) (sI M2 a4 10 r3))))))))
theorem t120_16 {sl : Nat} {sx : Nat → Int32} {d : Nat} {M0 : MM} {P : Int32 → MM → Prop} (l0 : Nat) (l1 : Int32) (l2 : Int32) (l3 : Int32) (s0 : Option Nat) (s1 : Option Nat) (s2 : Int32) (M : MM) (hM : lenO M0 M) (h : w120_16  l0 l1 l2 l3 s0 s1 s2 M P) : R120 sl sx d M0 P 16 [some (vR (some l0)), some (vI l1), some (vI l2), some (vI l3), none] [vI s2, vR s1, vR s0] M := by
  obtain ⟨a1, he, h⟩ := h
  refine RN_k (callX_det _) 2 _ _ _ _ (show R120 sl sx d M0 P 18 [some (vR (some l0)), some (vI l1), some (vI l2), some (vI l3), none] [vI l2, vI l1, vI s2, vR s1, vR s0] M from ?_)
  subst he
  refine RN_k (callX_det _) 1 _ _ _ _ (show kd M a1 9 ∧ callX TBg sl sx (d + 3) 62 [vR (some a1), vI s2, vI l1, vI l2] M (fun v M9 => R120 sl sx d M0 P 21 [some (vR (some l0)), some (vI l1), some (vI l2), some (vI l3), none] (pushO v [vR s0]) M9) from ⟨h.1, ?_⟩)
  replace h := h.2
  refine callX_mono (callX_len (d := (d + 3)) rfl rfl rfl (c62 (d := d + 1) h)) ?_
  clear h
  rintro v9 M2 ⟨hl, r3, rfl, h⟩
  replace hM := lenT hM hl
  show R120 sl sx d M0 P 21 [some (vR (some l0)), some (vI l1), some (vI l2), some (vI l3), none] [vI r3, vR s0] M2
  obtain ⟨a4, he, h⟩ := h
  subst he
  refine RN_k (callX_det _) 1 _ _ _ _ (show kd M2 a4 9 ∧ R120 sl sx d M0 P 24 [some (vR (some l0)), some (vI l1), some (vI l2), some (vI l3), none] [] (sI M2 a4 10 r3) from ⟨h.1, ?_⟩)
  replace h := h.2
  refine RN_k (callX_det _) 2 _ _ _ _ (show kd (sI M2 a4 10 r3) l0 9 ∧ R120 sl sx d M0 P 28 [some (vR (some l0)), some (vI l1), some (vI l2), some (vI l3), none] [vI (mI (sI M2 a4 10 r3) l0 10)] (sI M2 a4 10 r3) from ⟨h.1, ?_⟩)
  replace h := h.2
  refine RN_k (callX_det _) 1 _ _ _ _ (show ((mI (sI M2 a4 10 r3) l0 10) = 0 → R120 sl sx d M0 P 33 [some (vR (some l0)), some (vI l1), some (vI l2), some (vI l3), none] [] (sI M2 a4 10 r3)) ∧ (¬ ((mI (sI M2 a4 10 r3) l0 10) = 0) → R120 sl sx d M0 P 31 [some (vR (some l0)), some (vI l1), some (vI l2), some (vI l3), none] [] (sI M2 a4 10 r3)) from ⟨fun hc => ?_, fun hc => ?_⟩)
  · replace h := h.1 hc
    refine RN_k (callX_det _) 2 _ _ _ _ (show kd (sI M2 a4 10 r3) l0 9 ∧ R120 sl sx d M0 P 37 [some (vR (some l0)), some (vI l1), some (vI l2), some (vI l3), none] [vR (mR (sI M2 a4 10 r3) l0 15)] (sI M2 a4 10 r3) from ⟨h.1, ?_⟩)
    replace h := h.2
    obtain ⟨a5, he, h⟩ := h
    rw [he]
    refine RN_k (callX_det _) 1 _ _ _ _ (show kd (sI M2 a4 10 r3) a5 5 ∧ R120 sl sx d M0 P 40 [some (vR (some l0)), some (vI l1), some (vI l2), some (vI l3), none] [vR (mR (sI M2 a4 10 r3) a5 1)] (sI M2 a4 10 r3) from ⟨h.1, ?_⟩)
    replace h := h.2
    refine RN_k (callX_det _) 4 _ _ _ _ (show kd (sI M2 a4 10 r3) l0 9 ∧ R120 sl sx d M0 P 48 [some (vR (some l0)), some (vI l1), some (vI l2), some (vI l3), some (vR (mR (sI M2 a4 10 r3) a5 1))] [vR (mR (sI M2 a4 10 r3) l0 5), vR (mR (sI M2 a4 10 r3) a5 1)] (sI M2 a4 10 r3) from ⟨h.1, ?_⟩)
    replace h := h.2
    obtain ⟨a6, he, h⟩ := h
    refine RN_k (callX_det _) 1 _ _ _ _ (show R120 sl sx d M0 P 49 [some (vR (some l0)), some (vI l1), some (vI l2), some (vI l3), some (vR (mR (sI M2 a4 10 r3) a5 1))] [vI l1, vR (mR (sI M2 a4 10 r3) l0 5), vR (mR (sI M2 a4 10 r3) a5 1)] (sI M2 a4 10 r3) from ?_)
    rw [he]
    refine RN_k (callX_det _) 1 _ _ _ _ (show inb (sI M2 a4 10 r3) a6 16 l1 ∧ R120 sl sx d M0 P 50 [some (vR (some l0)), some (vI l1), some (vI l2), some (vI l3), some (vR (mR (sI M2 a4 10 r3) a5 1))] [vR (mR (sI M2 a4 10 r3) a6 l1.toNatClampNeg), vR (mR (sI M2 a4 10 r3) a5 1)] (sI M2 a4 10 r3) from ⟨h.1, ?_⟩)
    replace h := h.2
    refine RN_k (callX_det _) 2 _ _ _ _ (show kd (sI M2 a4 10 r3) l0 9 ∧ R120 sl sx d M0 P 54 [some (vR (some l0)), some (vI l1), some (vI l2), some (vI l3), some (vR (mR (sI M2 a4 10 r3) a5 1))] [vR (mR (sI M2 a4 10 r3) l0 5), vR (mR (sI M2 a4 10 r3) a6 l1.toNatClampNeg), vR (mR (sI M2 a4 10 r3) a5 1)] (sI M2 a4 10 r3) from ⟨h.1, ?_⟩)
    replace h := h.2
    obtain ⟨a7, he, h⟩ := h
    refine RN_k (callX_det _) 1 _ _ _ _ (show R120 sl sx d M0 P 55 [some (vR (some l0)), some (vI l1), some (vI l2), some (vI l3), some (vR (mR (sI M2 a4 10 r3) a5 1))] [vI l2, vR (mR (sI M2 a4 10 r3) l0 5), vR (mR (sI M2 a4 10 r3) a6 l1.toNatClampNeg), vR (mR (sI M2 a4 10 r3) a5 1)] (sI M2 a4 10 r3) from ?_)
    rw [he]
    refine RN_k (callX_det _) 1 _ _ _ _ (show inb (sI M2 a4 10 r3) a7 16 l2 ∧ R120 sl sx d M0 P 56 [some (vR (some l0)), some (vI l1), some (vI l2), some (vI l3), some (vR (mR (sI M2 a4 10 r3) a5 1))] [vR (mR (sI M2 a4 10 r3) a7 l2.toNatClampNeg), vR (mR (sI M2 a4 10 r3) a6 l1.toNatClampNeg), vR (mR (sI M2 a4 10 r3) a5 1)] (sI M2 a4 10 r3) from ⟨h.1, ?_⟩)
    replace h := h.2
    obtain ⟨a8, he, h⟩ := h
    rw [he]
    refine RN_k (callX_det _) 1 _ _ _ _ (show kd (sI M2 a4 10 r3) a8 4 ∧ callX TBg sl sx (d + 3) 96 [vR (some a8), vR (mR (sI M2 a4 10 r3) a6 l1.toNatClampNeg), vR (mR (sI M2 a4 10 r3) a7 l2.toNatClampNeg)] (sI M2 a4 10 r3) (fun v M9 => R120 sl sx d M0 P 59 [some (vR (some l0)), some (vI l1), some (vI l2), some (vI l3), some (vR (some a8))] (pushO v []) M9) from ⟨h.1, ?_⟩)
    replace h := h.2
    refine callX_mono (callX_len (d := (d + 3)) rfl rfl rfl (c96 (d := d) h)) ?_
    clear h
    rintro v9 M9 ⟨hl, rfl, h⟩
    replace hM := lenT hM hl
    show R120 sl sx d M0 P 59 [some (vR (some l0)), some (vI l1), some (vI l2), some (vI l3), some (vR (some a8))] [] M9
    refine RN_k (callX_det _) 2 _ _ _ _ (show kd M9 a8 4 ∧ callX TBg sl sx (d + 3) 121 [vR (some a8)] M9 (fun v M9 => R120 sl sx d M0 P 64 [some (vR (some l0)), some (vI l1), some (vI l2), some (vI l3), some (vR (some a8))] (pushO v []) M9) from ⟨h.1, ?_⟩)
    replace h := h.2
    refine callX_mono (callX_len (d := (d + 3)) rfl rfl rfl (c121 (d := d) h)) ?_
    clear h
    rintro v9 M10 ⟨hl, rfl, h⟩
    replace hM := lenT hM hl
    show R120 sl sx d M0 P 64 [some (vR (some l0)), some (vI l1), some (vI l2), some (vI l3), some (vR (some a8))] [] M10
    refine RN_k (callX_det _) 2 _ _ _ _ (show (l3 ≠ 0 → R120 sl sx d M0 P 80 [some (vR (some l0)), some (vI l1), some (vI l2), some (vI l3), some (vR (some a8))] [] M10) ∧ (¬ (l3 ≠ 0) → R120 sl sx d M0 P 68 [some (vR (some l0)), some (vI l1), some (vI l2), some (vI l3), some (vR (some a8))] [] M10) from ⟨fun hc => ?_, fun hc => ?_⟩)
    · replace h := h.1 hc
      refine RN_k (callX_det _) 4 _ _ _ _ (show (l3 ≠ (1 : Int32) → R120 sl sx d M0 P 96 [some (vR (some l0)), some (vI l1), some (vI l2), some (vI l3), some (vR (some a8))] [vR (some l0)] M10) ∧ (¬ (l3 ≠ (1 : Int32)) → R120 sl sx d M0 P 86 [some (vR (some l0)), some (vI l1), some (vI l2), some (vI l3), some (vR (some a8))] [vR (some l0)] M10) from ⟨fun hc => ?_, fun hc => ?_⟩)
      · replace h := h.1 hc
        refine RN_k (callX_det _) 2 _ _ _ _ (show kd M10 a8 4 ∧ R120 sl sx d M0 P 101 [some (vR (some l0)), some (vI l1), some (vI l2), some (vI l3), some (vR (some a8))] [vR (mR M10 a8 4), vR (some l0)] M10 from ⟨h.1, ?_⟩)
        replace h := h.2
        obtain ⟨a11, he, h⟩ := h
        refine RN_k (callX_det _) 1 _ _ _ _ (show R120 sl sx d M0 P 102 [some (vR (some l0)), some (vI l1), some (vI l2), some (vI l3), some (vR (some a8))] [vI (0 : Int32), vR (mR M10 a8 4), vR (some l0)] M10 from ?_)
        rw [he]
        refine RN_k (callX_det _) 1 _ _ _ _ (show inb M10 a11 11 (0 : Int32) ∧ R120 sl sx d M0 P 103 [some (vR (some l0)), some (vI l1), some (vI l2), some (vI l3), some (vR (some a8))] [vI (mI M10 a11 (0 : Int32).toNatClampNeg), vR (some l0)] M10 from ⟨h.1, ?_⟩)
        replace h := h.2
        exact RN_weak (K := [none, none, none, none, none]) (callX_det _) (show True from trivial) (t120_103  (some l0) (mI M10 a11 (0 : Int32).toNatClampNeg) _ hM h)
      · replace h := h.2 hc
        refine RN_k (callX_det _) 2 _ _ _ _ (show kd M10 a8 4 ∧ R120 sl sx d M0 P 91 [some (vR (some l0)), some (vI l1), some (vI l2), some (vI l3), some (vR (some a8))] [vR (mR M10 a8 3), vR (some l0)] M10 from ⟨h.1, ?_⟩)
        replace h := h.2
        obtain ⟨a12, he, h⟩ := h
        refine RN_k (callX_det _) 1 _ _ _ _ (show R120 sl sx d M0 P 92 [some (vR (some l0)), some (vI l1), some (vI l2), some (vI l3), some (vR (some a8))] [vI (0 : Int32), vR (mR M10 a8 3), vR (some l0)] M10 from ?_)
        rw [he]
        refine RN_k (callX_det _) 1 _ _ _ _ (show inb M10 a12 11 (0 : Int32) ∧ R120 sl sx d M0 P 93 [some (vR (some l0)), some (vI l1), some (vI l2), some (vI l3), some (vR (some a8))] [vI (mI M10 a12 (0 : Int32).toNatClampNeg), vR (some l0)] M10 from ⟨h.1, ?_⟩)
        replace h := h.2
        refine RN_k (callX_det _) 1 _ _ _ _ (show R120 sl sx d M0 P 103 [some (vR (some l0)), some (vI l1), some (vI l2), some (vI l3), some (vR (some a8))] [vI (mI M10 a12 (0 : Int32).toNatClampNeg), vR (some l0)] M10 from ?_)
        exact RN_weak (K := [none, none, none, none, none]) (callX_det _) (show True from trivial) (t120_103  (some l0) (mI M10 a12 (0 : Int32).toNatClampNeg) _ hM h)
    · replace h := h.2 hc
      refine RN_k (callX_det _) 3 _ _ _ _ (show kd M10 a8 4 ∧ R120 sl sx d M0 P 74 [some (vR (some l0)), some (vI l1), some (vI l2), some (vI l3), some (vR (some a8))] [vR (mR M10 a8 2), vR (some l0)] M10 from ⟨h.1, ?_⟩)
      replace h := h.2
      obtain ⟨a13, he, h⟩ := h
      refine RN_k (callX_det _) 1 _ _ _ _ (show R120 sl sx d M0 P 75 [some (vR (some l0)), some (vI l1), some (vI l2), some (vI l3), some (vR (some a8))] [vI (0 : Int32), vR (mR M10 a8 2), vR (some l0)] M10 from ?_)
      rw [he]
      refine RN_k (callX_det _) 1 _ _ _ _ (show inb M10 a13 11 (0 : Int32) ∧ R120 sl sx d M0 P 76 [some (vR (some l0)), some (vI l1), some (vI l2), some (vI l3), some (vR (some a8))] [vI (mI M10 a13 (0 : Int32).toNatClampNeg), vR (some l0)] M10 from ⟨h.1, ?_⟩)
      replace h := h.2
      refine RN_k (callX_det _) 1 _ _ _ _ (show kd M10 l0 9 ∧ callX TBg sl sx (d + 3) 35 [vR (some l0), vI (mI M10 a13 (0 : Int32).toNatClampNeg)] M10 (fun v M9 => R120 sl sx d M0 P 79 [some (vR (some l0)), some (vI l1), some (vI l2), some (vI l3), some (vR (some a8))] (pushO v []) M9) from ⟨h.1, ?_⟩)
      replace h := h.2
      refine callX_mono (callX_len (d := (d + 3)) rfl rfl rfl (c35 (d := d + 2) h)) ?_
      clear h
      rintro v9 M14 ⟨hl, r15, rfl, h⟩
      replace hM := lenT hM hl
      show R120 sl sx d M0 P 79 [some (vR (some l0)), some (vI l1), some (vI l2), some (vI l3), some (vR (some a8))] [vI r15] M14
      exact RN_k (callX_det _) 1 _ _ _ _ (show rtW q120 M0 (PI P) (some (vI r15)) M14 from ⟨⟨_, rfl⟩, hM.1, hM.2, _, rfl, h⟩)
  · replace h := h.2 hc
    exact RN_k (callX_det _) 2 _ _ _ _ (show rtW q120 M0 (PI P) (some (vI (-1 : Int32))) (sI M2 a4 10 r3) from ⟨⟨_, rfl⟩, hM.1, hM.2, _, rfl, h⟩)
def w120_15 (l0 : Nat) (l1 : Int32) (l2 : Int32) (l3 : Int32) (s0 : Option Nat) (s1 : Option Nat) (M : MM) (P : Int32 → MM → Prop) : Prop := w120_16  l0 l1 l2 l3 s0 s1 (0 : Int32) M P
theorem t120_15 {sl : Nat} {sx : Nat → Int32} {d : Nat} {M0 : MM} {P : Int32 → MM → Prop} (l0 : Nat) (l1 : Int32) (l2 : Int32) (l3 : Int32) (s0 : Option Nat) (s1 : Option Nat) (M : MM) (hM : lenO M0 M) (h : w120_15  l0 l1 l2 l3 s0 s1 M P) : R120 sl sx d M0 P 15 [some (vR (some l0)), some (vI l1), some (vI l2), some (vI l3), none] [vR s1, vR s0] M := by
  refine RN_k (callX_det _) 1 _ _ _ _ (show R120 sl sx d M0 P 16 [some (vR (some l0)), some (vI l1), some (vI l2), some (vI l3), none] [vI (0 : Int32), vR s1, vR s0] M from ?_)
  exact RN_weak (K := [some (vR (some l0)), some (vI l1), some (vI l2), some (vI l3), none]) (callX_det _) (show _ ∧ _ ∧ _ ∧ _ ∧ True from ⟨rfl, rfl, rfl, rfl, trivial⟩) (t120_16  l0 l1 l2 l3 s0 s1 (0 : Int32) _ hM h)
def w120 (l0 : Nat) (l1 : Int32) (l2 : Int32) (l3 : Int32) (M : MM) (P : Int32 → MM → Prop) : Prop := (l3 < 0 → (w120_15  l0 l1 l2 l3 (some l0) (some l0) M P)) ∧ (¬ (l3 < 0) → (((2 : Int32) < l3 → (w120_15  l0 l1 l2 l3 (some l0) (some l0) M P)) ∧ (¬ ((2 : Int32) < l3) → (w120_16  l0 l1 l2 l3 (some l0) (some l0) (1 : Int32) M P))))
theorem t120_E {sl : Nat} {sx : Nat → Int32} {d : Nat} {M0 : MM} {P : Int32 → MM → Prop} (l0 : Nat) (l1 : Int32) (l2 : Int32) (l3 : Int32) (M : MM) (hM : lenO M0 M) (h : w120  l0 l1 l2 l3 M P) : R120 sl sx d M0 P 0 [some (vR (some l0)), some (vI l1), some (vI l2), some (vI l3), none] [] M := by
  refine RN_k (callX_det _) 4 _ _ _ _ (show (l3 < 0 → R120 sl sx d M0 P 15 [some (vR (some l0)), some (vI l1), some (vI l2), some (vI l3), none] [vR (some l0), vR (some l0)] M) ∧ (¬ (l3 < 0) → R120 sl sx d M0 P 6 [some (vR (some l0)), some (vI l1), some (vI l2), some (vI l3), none] [vR (some l0), vR (some l0)] M) from ⟨fun hc => ?_, fun hc => ?_⟩)
  · replace h := h.1 hc
    exact RN_weak (K := [some (vR (some l0)), some (vI l1), some (vI l2), some (vI l3), none]) (callX_det _) (show _ ∧ _ ∧ _ ∧ _ ∧ True from ⟨rfl, rfl, rfl, rfl, trivial⟩) (t120_15  l0 l1 l2 l3 (some l0) (some l0) _ hM h)
  · replace h := h.2 hc
    refine RN_k (callX_det _) 3 _ _ _ _ (show ((2 : Int32) < l3 → R120 sl sx d M0 P 15 [some (vR (some l0)), some (vI l1), some (vI l2), some (vI l3), none] [vR (some l0), vR (some l0)] M) ∧ (¬ ((2 : Int32) < l3) → R120 sl sx d M0 P 11 [some (vR (some l0)), some (vI l1), some (vI l2), some (vI l3), none] [vR (some l0), vR (some l0)] M) from ⟨fun hc => ?_, fun hc => ?_⟩)
    · replace h := h.1 hc
      exact RN_weak (K := [some (vR (some l0)), some (vI l1), some (vI l2), some (vI l3), none]) (callX_det _) (show _ ∧ _ ∧ _ ∧ _ ∧ True from ⟨rfl, rfl, rfl, rfl, trivial⟩) (t120_15  l0 l1 l2 l3 (some l0) (some l0) _ hM h)
    · replace h := h.2 hc
      refine RN_k (callX_det _) 2 _ _ _ _ (show R120 sl sx d M0 P 16 [some (vR (some l0)), some (vI l1), some (vI l2), some (vI l3), none] [vI (1 : Int32), vR (some l0), vR (some l0)] M from ?_)
      exact RN_weak (K := [some (vR (some l0)), some (vI l1), some (vI l2), some (vI l3), none]) (callX_det _) (show _ ∧ _ ∧ _ ∧ _ ∧ True from ⟨rfl, rfl, rfl, rfl, trivial⟩) (t120_16  l0 l1 l2 l3 (some l0) (some l0) (1 : Int32) _ hM h)
theorem c120 {sl : Nat} {sx : Nat → Int32} {d : Nat} {l0 : Nat} {l1 : Int32} {l2 : Int32} {l3 : Int32} {M : MM} {P : Int32 → MM → Prop} (h : w120 l0 l1 l2 l3 M P) : callX TBg sl sx (d + 4) 120 [vR (some l0), vI l1, vI l2, vI l3] M (PI P) :=
  cX (d := d + 3) q120 (false, tb120) rfl rfl rfl (t120_E l0 l1 l2 l3 M lenR h)
-- TwoLeash.reach(IIIII)I
abbrev q123 : MQ7 := (6, 1, 11, 9, 0, 0, 1)
abbrev R123 (sl : Nat) (sx : Nat → Int32) (d : Nat) (M0 : MM) (P : Int32 → MM → Prop) : Nat → LL → List VV → MM → Prop := RN 9 false (mS M0).length (mT M0) 0 0 sl sx (callX TBg sl sx (d + 5)) (rtW q123 M0 (PI P)) (as2 tb123)
def w123_163 (s0 : Option Nat) (s1 : Int32) (M : MM) (P : Int32 → MM → Prop) : Prop := ∃ a1, s0 = some a1 ∧ (kd M a1 9 ∧ w35 a1 s1 M (fun r3 M2 => P r3 M2))
theorem t123_163 {sl : Nat} {sx : Nat → Int32} {d : Nat} {M0 : MM} {P : Int32 → MM → Prop} (s0 : Option Nat) (s1 : Int32) (M : MM) (hM : lenO M0 M) (h : w123_163  s0 s1 M P) : R123 sl sx d M0 P 163 [none, none, none, none, none, none, none, none, none, none, none] [vI s1, vR s0] M := by
  obtain ⟨a1, he, h⟩ := h
  subst he
  refine RN_k (callX_det _) 1 _ _ _ _ (show kd M a1 9 ∧ callX TBg sl sx (d + 5) 35 [vR (some a1), vI s1] M (fun v M9 => R123 sl sx d M0 P 166 [none, none, none, none, none, none, none, none, none, none, none] (pushO v []) M9) from ⟨h.1, ?_⟩)
  replace h := h.2
  refine callX_mono (callX_len (d := (d + 5)) rfl rfl rfl (c35 (d := d + 4) h)) ?_
  clear h
  rintro v9 M2 ⟨hl, r3, rfl, h⟩
  replace hM := lenT hM hl
  show R123 sl sx d M0 P 166 [none, none, none, none, none, none, none, none, none, none, none] [vI r3] M2
  exact RN_k (callX_det _) 1 _ _ _ _ (show rtW q123 M0 (PI P) (some (vI r3)) M2 from ⟨⟨_, rfl⟩, hM.1, hM.2, _, rfl, h⟩)
def w123_150 (l0 : Nat) (l5 : Int32) (l7 : Int32) (l8 : Int32) (M : MM) (P : Int32 → MM → Prop) : Prop := (l5 ≠ 0 → (w123_163  (some l0) l8 M P)) ∧ (¬ (l5 ≠ 0) → (w123_163  (some l0) l7 M P))
theorem t123_150 {sl : Nat} {sx : Nat → Int32} {d : Nat} {M0 : MM} {P : Int32 → MM → Prop} (l0 : Nat) (l5 : Int32) (l7 : Int32) (l8 : Int32) (M : MM) (hM : lenO M0 M) (h : w123_150  l0 l5 l7 l8 M P) : R123 sl sx d M0 P 150 [some (vR (some l0)), none, none, none, none, some (vI l5), none, some (vI l7), some (vI l8), none, none] [] M := by
  refine RN_k (callX_det _) 3 _ _ _ _ (show (l5 ≠ 0 → R123 sl sx d M0 P 161 [some (vR (some l0)), none, none, none, none, some (vI l5), none, some (vI l7), some (vI l8), none, none] [vR (some l0)] M) ∧ (¬ (l5 ≠ 0) → R123 sl sx d M0 P 156 [some (vR (some l0)), none, none, none, none, some (vI l5), none, some (vI l7), some (vI l8), none, none] [vR (some l0)] M) from ⟨fun hc => ?_, fun hc => ?_⟩)
  · replace h := h.1 hc
    refine RN_k (callX_det _) 1 _ _ _ _ (show R123 sl sx d M0 P 163 [some (vR (some l0)), none, none, none, none, some (vI l5), none, some (vI l7), some (vI l8), none, none] [vI l8, vR (some l0)] M from ?_)
    exact RN_weak (K := [none, none, none, none, none, none, none, none, none, none, none]) (callX_det _) (show True from trivial) (t123_163  (some l0) l8 _ hM h)
  · replace h := h.2 hc
    refine RN_k (callX_det _) 2 _ _ _ _ (show R123 sl sx d M0 P 163 [some (vR (some l0)), none, none, none, none, some (vI l5), none, some (vI l7), some (vI l8), none, none] [vI l7, vR (some l0)] M from ?_)
    exact RN_weak (K := [none, none, none, none, none, none, none, none, none, none, none]) (callX_det _) (show True from trivial) (t123_163  (some l0) l7 _ hM h)
def w123_122 (k64 : Nat → Int32 → Option Nat → Int32 → Int32 → Int32 → MM → Prop) (k77 : Nat → Int32 → Option Nat → Int32 → Int32 → Int32 → Int32 → MM → Prop) (l0 : Nat) (l5 : Int32) (l6 : Option Nat) (l7 : Int32) (l8 : Int32) (l9 : Int32) (l10 : Int32) (M : MM) (P : Int32 → MM → Prop) : Prop := k77 l0 l5 l6 l7 l8 l9 (l10 + (1 : Int32)) M
theorem t123_122 {sl : Nat} {sx : Nat → Int32} {d : Nat} {M0 : MM} {P : Int32 → MM → Prop} {k64 : Nat → Int32 → Option Nat → Int32 → Int32 → Int32 → MM → Prop} {k77 : Nat → Int32 → Option Nat → Int32 → Int32 → Int32 → Int32 → MM → Prop} (hk64 : ∀ (l0 : Nat) (l5 : Int32) (l6 : Option Nat) (l7 : Int32) (l8 : Int32) (l9 : Int32) (M : MM), lenO M0 M → k64 l0 l5 l6 l7 l8 l9 M → R123 sl sx d M0 P 64 [some (vR (some l0)), none, none, none, none, some (vI l5), some (vR l6), some (vI l7), some (vI l8), some (vI l9), none] [] M) (hk77 : ∀ (l0 : Nat) (l5 : Int32) (l6 : Option Nat) (l7 : Int32) (l8 : Int32) (l9 : Int32) (l10 : Int32) (M : MM), lenO M0 M → k77 l0 l5 l6 l7 l8 l9 l10 M → R123 sl sx d M0 P 77 [some (vR (some l0)), none, none, none, none, some (vI l5), some (vR l6), some (vI l7), some (vI l8), some (vI l9), some (vI l10)] [] M) (l0 : Nat) (l5 : Int32) (l6 : Option Nat) (l7 : Int32) (l8 : Int32) (l9 : Int32) (l10 : Int32) (M : MM) (hM : lenO M0 M) (h : w123_122 k64 k77 l0 l5 l6 l7 l8 l9 l10 M P) : R123 sl sx d M0 P 122 [some (vR (some l0)), none, none, none, none, some (vI l5), some (vR l6), some (vI l7), some (vI l8), some (vI l9), some (vI l10)] [] M := by
  refine RN_k (callX_det _) 2 _ _ _ _ (show R123 sl sx d M0 P 77 [some (vR (some l0)), none, none, none, none, some (vI l5), some (vR l6), some (vI l7), some (vI l8), some (vI l9), some (vI (l10 + (1 : Int32)))] [] M from ?_)
  exact RN_weak (K := [some (vR (some l0)), none, none, none, none, some (vI l5), some (vR l6), some (vI l7), some (vI l8), some (vI l9), some (vI (l10 + (1 : Int32)))]) (callX_det _) (show _ ∧ _ ∧ _ ∧ _ ∧ _ ∧ _ ∧ _ ∧ True from ⟨rfl, rfl, rfl, rfl, rfl, rfl, rfl, trivial⟩) (hk77 l0 l5 l6 l7 l8 l9 (l10 + (1 : Int32)) _ hM h)
def w123_117 (k64 : Nat → Int32 → Option Nat → Int32 → Int32 → Int32 → MM → Prop) (k77 : Nat → Int32 → Option Nat → Int32 → Int32 → Int32 → Int32 → MM → Prop) (l0 : Nat) (l5 : Int32) (l6 : Option Nat) (l7 : Int32) (l9 : Int32) (l10 : Int32) (s0 : Int32) (s1 : Int32) (M : MM) (P : Int32 → MM → Prop) : Prop := w33 s0 s1 M (fun r2 M1 => w123_122 k64 k77 l0 l5 l6 l7 r2 l9 l10 M1 P)
theorem t123_117 {sl : Nat} {sx : Nat → Int32} {d : Nat} {M0 : MM} {P : Int32 → MM → Prop} {k64 : Nat → Int32 → Option Nat → Int32 → Int32 → Int32 → MM → Prop} {k77 : Nat → Int32 → Option Nat → Int32 → Int32 → Int32 → Int32 → MM → Prop} (hk64 : ∀ (l0 : Nat) (l5 : Int32) (l6 : Option Nat) (l7 : Int32) (l8 : Int32) (l9 : Int32) (M : MM), lenO M0 M → k64 l0 l5 l6 l7 l8 l9 M → R123 sl sx d M0 P 64 [some (vR (some l0)), none, none, none, none, some (vI l5), some (vR l6), some (vI l7), some (vI l8), some (vI l9), none] [] M) (hk77 : ∀ (l0 : Nat) (l5 : Int32) (l6 : Option Nat) (l7 : Int32) (l8 : Int32) (l9 : Int32) (l10 : Int32) (M : MM), lenO M0 M → k77 l0 l5 l6 l7 l8 l9 l10 M → R123 sl sx d M0 P 77 [some (vR (some l0)), none, none, none, none, some (vI l5), some (vR l6), some (vI l7), some (vI l8), some (vI l9), some (vI l10)] [] M) (l0 : Nat) (l5 : Int32) (l6 : Option Nat) (l7 : Int32) (l9 : Int32) (l10 : Int32) (s0 : Int32) (s1 : Int32) (M : MM) (hM : lenO M0 M) (h : w123_117 k64 k77 l0 l5 l6 l7 l9 l10 s0 s1 M P) : R123 sl sx d M0 P 117 [some (vR (some l0)), none, none, none, none, some (vI l5), some (vR l6), some (vI l7), none, some (vI l9), some (vI l10)] [vI s1, vI s0] M := by
  refine RN_k (callX_det _) 1 _ _ _ _ (show callX TBg sl sx (d + 5) 33 [vI s0, vI s1] M (fun v M9 => R123 sl sx d M0 P 120 [some (vR (some l0)), none, none, none, none, some (vI l5), some (vR l6), some (vI l7), none, some (vI l9), some (vI l10)] (pushO v []) M9) from ?_)
  refine callX_mono (callX_len (d := (d + 5)) rfl rfl rfl (c33 (d := d + 4) h)) ?_
  clear h
  rintro v9 M1 ⟨hl, r2, rfl, h⟩
  replace hM := lenT hM hl
  show R123 sl sx d M0 P 120 [some (vR (some l0)), none, none, none, none, some (vI l5), some (vR l6), some (vI l7), none, some (vI l9), some (vI l10)] [vI r2] M1
  refine RN_k (callX_det _) 1 _ _ _ _ (show R123 sl sx d M0 P 122 [some (vR (some l0)), none, none, none, none, some (vI l5), some (vR l6), some (vI l7), some (vI r2), some (vI l9), some (vI l10)] [] M1 from ?_)
  exact RN_weak (K := [some (vR (some l0)), none, none, none, none, some (vI l5), some (vR l6), some (vI l7), some (vI r2), some (vI l9), some (vI l10)]) (callX_det _) (show _ ∧ _ ∧ _ ∧ _ ∧ _ ∧ _ ∧ _ ∧ True from ⟨rfl, rfl, rfl, rfl, rfl, rfl, rfl, trivial⟩) (t123_122 hk64 hk77 l0 l5 l6 l7 r2 l9 l10 _ hM h)
def w123_77 (k64 : Nat → Int32 → Option Nat → Int32 → Int32 → Int32 → MM → Prop) : Nat → Nat → Int32 → Option Nat → Int32 → Int32 → Int32 → Int32 → MM → (Int32 → MM → Prop) → Prop
  | 0 => fun _ _ _ _ _ _ _ _ _ => False
  | n + 1 => fun l0 l5 l6 l7 l8 l9 l10 M P => ∃ a1, l6 = some a1 ∧ (kd M a1 1 ∧ (((mI M a1 2) ≤ l10 → (k64 l0 l5 (some a1) l7 l8 (l9 + (1 : Int32)) M)) ∧ (¬ ((mI M a1 2) ≤ l10) → (kd M a1 1 ∧ w104 a1 l9 l10 M (fun r3 M2 => (r3 = 0 → (w123_122 k64 (fun z0 z1 z2 z3 z4 z5 z6 z7 => w123_77 k64 n z0 z1 z2 z3 z4 z5 z6 z7 P) l0 l5 (some a1) l7 l8 l9 l10 M2 P)) ∧ (¬ (r3 = 0) → ((l5 ≠ (1 : Int32) → (w123_117 k64 (fun z0 z1 z2 z3 z4 z5 z6 z7 => w123_77 k64 n z0 z1 z2 z3 z4 z5 z6 z7 P) l0 l5 (some a1) (l7 + (1 : Int32)) l9 l10 l8 l10 M2 P)) ∧ (¬ (l5 ≠ (1 : Int32)) → (w123_117 k64 (fun z0 z1 z2 z3 z4 z5 z6 z7 => w123_77 k64 n z0 z1 z2 z3 z4 z5 z6 z7 P) l0 l5 (some a1) (l7 + (1 : Int32)) l9 l10 l8 l9 M2 P)))))))))
theorem t123_77 {sl : Nat} {sx : Nat → Int32} {d : Nat} {M0 : MM} {P : Int32 → MM → Prop} {k64 : Nat → Int32 → Option Nat → Int32 → Int32 → Int32 → MM → Prop} (hk64 : ∀ (l0 : Nat) (l5 : Int32) (l6 : Option Nat) (l7 : Int32) (l8 : Int32) (l9 : Int32) (M : MM), lenO M0 M → k64 l0 l5 l6 l7 l8 l9 M → R123 sl sx d M0 P 64 [some (vR (some l0)), none, none, none, none, some (vI l5), some (vR l6), some (vI l7), some (vI l8), some (vI l9), none] [] M) (n : Nat) : ∀ (l0 : Nat) (l5 : Int32) (l6 : Option Nat) (l7 : Int32) (l8 : Int32) (l9 : Int32) (l10 : Int32) (M : MM) (_ : lenO M0 M) (_ : w123_77 k64 n l0 l5 l6 l7 l8 l9 l10 M P), R123 sl sx d M0 P 77 [some (vR (some l0)), none, none, none, none, some (vI l5), some (vR l6), some (vI l7), some (vI l8), some (vI l9), some (vI l10)] [] M := by
  induction n with
  | zero => intro l0 l5 l6 l7 l8 l9 l10 M hM h; cases h
  | succ n ih =>
    intro l0 l5 l6 l7 l8 l9 l10 M hM h
    obtain ⟨a1, he, h⟩ := h
    refine RN_k (callX_det _) 2 _ _ _ _ (show R123 sl sx d M0 P 81 [some (vR (some l0)), none, none, none, none, some (vI l5), some (vR l6), some (vI l7), some (vI l8), some (vI l9), some (vI l10)] [vR l6, vI l10] M from ?_)
    subst he
    refine RN_k (callX_det _) 1 _ _ _ _ (show kd M a1 1 ∧ R123 sl sx d M0 P 84 [some (vR (some l0)), none, none, none, none, some (vI l5), some (vR (some a1)), some (vI l7), some (vI l8), some (vI l9), some (vI l10)] [vI (mI M a1 2), vI l10] M from ⟨h.1, ?_⟩)
    replace h := h.2
    refine RN_k (callX_det _) 1 _ _ _ _ (show ((mI M a1 2) ≤ l10 → R123 sl sx d M0 P 128 [some (vR (some l0)), none, none, none, none, some (vI l5), some (vR (some a1)), some (vI l7), some (vI l8), some (vI l9), some (vI l10)] [] M) ∧ (¬ ((mI M a1 2) ≤ l10) → R123 sl sx d M0 P 87 [some (vR (some l0)), none, none, none, none, some (vI l5), some (vR (some a1)), some (vI l7), some (vI l8), some (vI l9), some (vI l10)] [] M) from ⟨fun hc => ?_, fun hc => ?_⟩)
    · replace h := h.1 hc
      refine RN_k (callX_det _) 2 _ _ _ _ (show R123 sl sx d M0 P 64 [some (vR (some l0)), none, none, none, none, some (vI l5), some (vR (some a1)), some (vI l7), some (vI l8), some (vI (l9 + (1 : Int32))), some (vI l10)] [] M from ?_)
      exact RN_weak (K := [some (vR (some l0)), none, none, none, none, some (vI l5), some (vR (some a1)), some (vI l7), some (vI l8), some (vI (l9 + (1 : Int32))), none]) (callX_det _) (show _ ∧ _ ∧ _ ∧ _ ∧ _ ∧ _ ∧ True from ⟨rfl, rfl, rfl, rfl, rfl, rfl, trivial⟩) (hk64 l0 l5 (some a1) l7 l8 (l9 + (1 : Int32)) _ hM h)
    · replace h := h.2 hc
      refine RN_k (callX_det _) 4 _ _ _ _ (show kd M a1 1 ∧ callX TBg sl sx (d + 5) 104 [vR (some a1), vI l9, vI l10] M (fun v M9 => R123 sl sx d M0 P 96 [some (vR (some l0)), none, none, none, none, some (vI l5), some (vR (some a1)), some (vI l7), some (vI l8), some (vI l9), some (vI l10)] (pushO v []) M9) from ⟨h.1, ?_⟩)
      replace h := h.2
      refine callX_mono (callX_len (d := (d + 5)) rfl rfl rfl (c104 (d := d + 3) h)) ?_
      clear h
      rintro v9 M2 ⟨hl, r3, rfl, h⟩
      replace hM := lenT hM hl
      show R123 sl sx d M0 P 96 [some (vR (some l0)), none, none, none, none, some (vI l5), some (vR (some a1)), some (vI l7), some (vI l8), some (vI l9), some (vI l10)] [vI r3] M2
      refine RN_k (callX_det _) 1 _ _ _ _ (show (r3 = 0 → R123 sl sx d M0 P 122 [some (vR (some l0)), none, none, none, none, some (vI l5), some (vR (some a1)), some (vI l7), some (vI l8), some (vI l9), some (vI l10)] [] M2) ∧ (¬ (r3 = 0) → R123 sl sx d M0 P 99 [some (vR (some l0)), none, none, none, none, some (vI l5), some (vR (some a1)), some (vI l7), some (vI l8), some (vI l9), some (vI l10)] [] M2) from ⟨fun hc => ?_, fun hc => ?_⟩)
      · replace h := h.1 hc
        exact RN_weak (K := [some (vR (some l0)), none, none, none, none, some (vI l5), some (vR (some a1)), some (vI l7), some (vI l8), some (vI l9), some (vI l10)]) (callX_det _) (show _ ∧ _ ∧ _ ∧ _ ∧ _ ∧ _ ∧ _ ∧ True from ⟨rfl, rfl, rfl, rfl, rfl, rfl, rfl, trivial⟩) (t123_122 hk64 ih l0 l5 (some a1) l7 l8 l9 l10 _ hM h)
      · replace h := h.2 hc
        refine RN_k (callX_det _) 5 _ _ _ _ (show (l5 ≠ (1 : Int32) → R123 sl sx d M0 P 115 [some (vR (some l0)), none, none, none, none, some (vI l5), some (vR (some a1)), some (vI (l7 + (1 : Int32))), some (vI l8), some (vI l9), some (vI l10)] [vI l8] M2) ∧ (¬ (l5 ≠ (1 : Int32)) → R123 sl sx d M0 P 110 [some (vR (some l0)), none, none, none, none, some (vI l5), some (vR (some a1)), some (vI (l7 + (1 : Int32))), some (vI l8), some (vI l9), some (vI l10)] [vI l8] M2) from ⟨fun hc => ?_, fun hc => ?_⟩)
        · replace h := h.1 hc
          refine RN_k (callX_det _) 1 _ _ _ _ (show R123 sl sx d M0 P 117 [some (vR (some l0)), none, none, none, none, some (vI l5), some (vR (some a1)), some (vI (l7 + (1 : Int32))), some (vI l8), some (vI l9), some (vI l10)] [vI l10, vI l8] M2 from ?_)
          exact RN_weak (K := [some (vR (some l0)), none, none, none, none, some (vI l5), some (vR (some a1)), some (vI (l7 + (1 : Int32))), none, some (vI l9), some (vI l10)]) (callX_det _) (show _ ∧ _ ∧ _ ∧ _ ∧ _ ∧ _ ∧ True from ⟨rfl, rfl, rfl, rfl, rfl, rfl, trivial⟩) (t123_117 hk64 ih l0 l5 (some a1) (l7 + (1 : Int32)) l9 l10 l8 l10 _ hM h)
        · replace h := h.2 hc
          refine RN_k (callX_det _) 2 _ _ _ _ (show R123 sl sx d M0 P 117 [some (vR (some l0)), none, none, none, none, some (vI l5), some (vR (some a1)), some (vI (l7 + (1 : Int32))), some (vI l8), some (vI l9), some (vI l10)] [vI l9, vI l8] M2 from ?_)
          exact RN_weak (K := [some (vR (some l0)), none, none, none, none, some (vI l5), some (vR (some a1)), some (vI (l7 + (1 : Int32))), none, some (vI l9), some (vI l10)]) (callX_det _) (show _ ∧ _ ∧ _ ∧ _ ∧ _ ∧ _ ∧ True from ⟨rfl, rfl, rfl, rfl, rfl, rfl, trivial⟩) (t123_117 hk64 ih l0 l5 (some a1) (l7 + (1 : Int32)) l9 l10 l8 l9 _ hM h)
def w123_64 : Nat → Nat → Int32 → Option Nat → Int32 → Int32 → Int32 → MM → (Int32 → MM → Prop) → Prop
  | 0 => fun _ _ _ _ _ _ _ _ => False
  | n + 1 => fun l0 l5 l6 l7 l8 l9 M P => ∃ a1, l6 = some a1 ∧ (kd M a1 1 ∧ (((mI M a1 1) ≤ l9 → ((l5 = 0 → (w123_150  l0 l5 l7 l8 M P)) ∧ (¬ (l5 = 0) → ((l7 ≠ 0 → (w123_150  l0 l5 l7 l8 M P)) ∧ (¬ (l7 ≠ 0) → (kd M l0 9 ∧ w17 l0 (5 : Int32) M (fun r3 M2 => P r3 M2))))))) ∧ (¬ ((mI M a1 1) ≤ l9) → (∃ n2, w123_77 (fun z0 z1 z2 z3 z4 z5 z6 => w123_64  n z0 z1 z2 z3 z4 z5 z6 P) n2 l0 l5 (some a1) l7 l8 l9 (0 : Int32) M P))))
theorem t123_64 {sl : Nat} {sx : Nat → Int32} {d : Nat} {M0 : MM} {P : Int32 → MM → Prop} (n : Nat) : ∀ (l0 : Nat) (l5 : Int32) (l6 : Option Nat) (l7 : Int32) (l8 : Int32) (l9 : Int32) (M : MM) (_ : lenO M0 M) (_ : w123_64  n l0 l5 l6 l7 l8 l9 M P), R123 sl sx d M0 P 64 [some (vR (some l0)), none, none, none, none, some (vI l5), some (vR l6), some (vI l7), some (vI l8), some (vI l9), none] [] M := by
  induction n with
  | zero => intro l0 l5 l6 l7 l8 l9 M hM h; cases h
  | succ n ih =>
    intro l0 l5 l6 l7 l8 l9 M hM h
    obtain ⟨a1, he, h⟩ := h
    refine RN_k (callX_det _) 2 _ _ _ _ (show R123 sl sx d M0 P 68 [some (vR (some l0)), none, none, none, none, some (vI l5), some (vR l6), some (vI l7), some (vI l8), some (vI l9), none] [vR l6, vI l9] M from ?_)
    subst he
    refine RN_k (callX_det _) 1 _ _ _ _ (show kd M a1 1 ∧ R123 sl sx d M0 P 71 [some (vR (some l0)), none, none, none, none, some (vI l5), some (vR (some a1)), some (vI l7), some (vI l8), some (vI l9), none] [vI (mI M a1 1), vI l9] M from ⟨h.1, ?_⟩)
    replace h := h.2
    refine RN_k (callX_det _) 1 _ _ _ _ (show ((mI M a1 1) ≤ l9 → R123 sl sx d M0 P 134 [some (vR (some l0)), none, none, none, none, some (vI l5), some (vR (some a1)), some (vI l7), some (vI l8), some (vI l9), none] [] M) ∧ (¬ ((mI M a1 1) ≤ l9) → R123 sl sx d M0 P 74 [some (vR (some l0)), none, none, none, none, some (vI l5), some (vR (some a1)), some (vI l7), some (vI l8), some (vI l9), none] [] M) from ⟨fun hc => ?_, fun hc => ?_⟩)
    · replace h := h.1 hc
      refine RN_k (callX_det _) 2 _ _ _ _ (show (l5 = 0 → R123 sl sx d M0 P 150 [some (vR (some l0)), none, none, none, none, some (vI l5), some (vR (some a1)), some (vI l7), some (vI l8), some (vI l9), none] [] M) ∧ (¬ (l5 = 0) → R123 sl sx d M0 P 139 [some (vR (some l0)), none, none, none, none, some (vI l5), some (vR (some a1)), some (vI l7), some (vI l8), some (vI l9), none] [] M) from ⟨fun hc => ?_, fun hc => ?_⟩)
      · replace h := h.1 hc
        exact RN_weak (K := [some (vR (some l0)), none, none, none, none, some (vI l5), none, some (vI l7), some (vI l8), none, none]) (callX_det _) (show _ ∧ _ ∧ _ ∧ _ ∧ True from ⟨rfl, rfl, rfl, rfl, trivial⟩) (t123_150  l0 l5 l7 l8 _ hM h)
      · replace h := h.2 hc
        refine RN_k (callX_det _) 2 _ _ _ _ (show (l7 ≠ 0 → R123 sl sx d M0 P 150 [some (vR (some l0)), none, none, none, none, some (vI l5), some (vR (some a1)), some (vI l7), some (vI l8), some (vI l9), none] [] M) ∧ (¬ (l7 ≠ 0) → R123 sl sx d M0 P 144 [some (vR (some l0)), none, none, none, none, some (vI l5), some (vR (some a1)), some (vI l7), some (vI l8), some (vI l9), none] [] M) from ⟨fun hc => ?_, fun hc => ?_⟩)
        · replace h := h.1 hc
          exact RN_weak (K := [some (vR (some l0)), none, none, none, none, some (vI l5), none, some (vI l7), some (vI l8), none, none]) (callX_det _) (show _ ∧ _ ∧ _ ∧ _ ∧ True from ⟨rfl, rfl, rfl, rfl, trivial⟩) (t123_150  l0 l5 l7 l8 _ hM h)
        · replace h := h.2 hc
          refine RN_k (callX_det _) 3 _ _ _ _ (show kd M l0 9 ∧ callX TBg sl sx (d + 5) 17 [vR (some l0), vI (5 : Int32)] M (fun v M9 => R123 sl sx d M0 P 149 [some (vR (some l0)), none, none, none, none, some (vI l5), some (vR (some a1)), some (vI l7), some (vI l8), some (vI l9), none] (pushO v []) M9) from ⟨h.1, ?_⟩)
          replace h := h.2
          refine callX_mono (callX_len (d := (d + 5)) rfl rfl rfl (c17 (d := d + 4) h)) ?_
          clear h
          rintro v9 M2 ⟨hl, r3, rfl, h⟩
          replace hM := lenT hM hl
          show R123 sl sx d M0 P 149 [some (vR (some l0)), none, none, none, none, some (vI l5), some (vR (some a1)), some (vI l7), some (vI l8), some (vI l9), none] [vI r3] M2
          exact RN_k (callX_det _) 1 _ _ _ _ (show rtW q123 M0 (PI P) (some (vI r3)) M2 from ⟨⟨_, rfl⟩, hM.1, hM.2, _, rfl, h⟩)
    · replace h := h.2 hc
      refine RN_k (callX_det _) 2 _ _ _ _ (show R123 sl sx d M0 P 77 [some (vR (some l0)), none, none, none, none, some (vI l5), some (vR (some a1)), some (vI l7), some (vI l8), some (vI l9), some (vI (0 : Int32))] [] M from ?_)
      obtain ⟨n2, h⟩ := h
      exact RN_weak (K := [some (vR (some l0)), none, none, none, none, some (vI l5), some (vR (some a1)), some (vI l7), some (vI l8), some (vI l9), some (vI (0 : Int32))]) (callX_det _) (show _ ∧ _ ∧ _ ∧ _ ∧ _ ∧ _ ∧ _ ∧ True from ⟨rfl, rfl, rfl, rfl, rfl, rfl, rfl, trivial⟩) (t123_77 ih n2 l0 l5 (some a1) l7 l8 l9 (0 : Int32) _ hM h)
def w123_27 (l0 : Nat) (l1 : Int32) (l2 : Int32) (l3 : Int32) (l4 : Int32) (l5 : Int32) (s0 : Option Nat) (s1 : Option Nat) (s2 : Int32) (M : MM) (P : Int32 → MM → Prop) : Prop := ∃ a1, s1 = some a1 ∧ (kd M a1 9 ∧ w62 a1 s2 l1 l2 M (fun r3 M2 => ∃ a4, s0 = some a4 ∧ (kd M2 a4 9 ∧ (kd (sI M2 a4 10 r3) l0 9 ∧ (((mI (sI M2 a4 10 r3) l0 10) = 0 → (kd (sI M2 a4 10 r3) l0 9 ∧ w77 l0 l1 l2 l3 l4 (sI M2 a4 10 r3) (fun r6 M5 => ∃ n2, w123_64  n2 l0 l5 r6 (0 : Int32) (-1 : Int32) (0 : Int32) M5 P))) ∧ (¬ ((mI (sI M2 a4 10 r3) l0 10) = 0) → (P (-1 : Int32) (sI M2 a4 10 r3))))))))
theorem t123_27 {sl : Nat} {sx : Nat → Int32} {d : Nat} {M0 : MM} {P : Int32 → MM → Prop} (l0 : Nat) (l1 : Int32) (l2 : Int32) (l3 : Int32) (l4 : Int32) (l5 : Int32) (s0 : Option Nat) (s1 : Option Nat) (s2 : Int32) (M : MM) (hM : lenO M0 M) (h : w123_27  l0 l1 l2 l3 l4 l5 s0 s1 s2 M P) : R123 sl sx d M0 P 27 [some (vR (some l0)), some (vI l1), some (vI l2), some (vI l3), some (vI l4), some (vI l5), none, none, none, none, none] [vI s2, vR s1, vR s0] M := by
  obtain ⟨a1, he, h⟩ := h
  refine RN_k (callX_det _) 2 _ _ _ _ (show R123 sl sx d M0 P 29 [some (vR (some l0)), some (vI l1), some (vI l2), some (vI l3), some (vI l4), some (vI l5), none, none, none, none, none] [vI l2, vI l1, vI s2, vR s1, vR s0] M from ?_)
  subst he
  refine RN_k (callX_det _) 1 _ _ _ _ (show kd M a1 9 ∧ callX TBg sl sx (d + 5) 62 [vR (some a1), vI s2, vI l1, vI l2] M (fun v M9 => R123 sl sx d M0 P 32 [some (vR (some l0)), some (vI l1), some (vI l2), some (vI l3), some (vI l4), some (vI l5), none, none, none, none, none] (pushO v [vR s0]) M9) from ⟨h.1, ?_⟩)
  replace h := h.2
  refine callX_mono (callX_len (d := (d + 5)) rfl rfl rfl (c62 (d := d + 3) h)) ?_
  clear h
  rintro v9 M2 ⟨hl, r3, rfl, h⟩
  replace hM := lenT hM hl
  show R123 sl sx d M0 P 32 [some (vR (some l0)), some (vI l1), some (vI l2), some (vI l3), some (vI l4), some (vI l5), none, none, none, none, none] [vI r3, vR s0] M2
  obtain ⟨a4, he, h⟩ := h
  subst he
  refine RN_k (callX_det _) 1 _ _ _ _ (show kd M2 a4 9 ∧ R123 sl sx d M0 P 35 [some (vR (some l0)), some (vI l1), some (vI l2), some (vI l3), some (vI l4), some (vI l5), none, none, none, none, none] [] (sI M2 a4 10 r3) from ⟨h.1, ?_⟩)
  replace h := h.2
  refine RN_k (callX_det _) 2 _ _ _ _ (show kd (sI M2 a4 10 r3) l0 9 ∧ R123 sl sx d M0 P 39 [some (vR (some l0)), some (vI l1), some (vI l2), some (vI l3), some (vI l4), some (vI l5), none, none, none, none, none] [vI (mI (sI M2 a4 10 r3) l0 10)] (sI M2 a4 10 r3) from ⟨h.1, ?_⟩)
  replace h := h.2
  refine RN_k (callX_det _) 1 _ _ _ _ (show ((mI (sI M2 a4 10 r3) l0 10) = 0 → R123 sl sx d M0 P 44 [some (vR (some l0)), some (vI l1), some (vI l2), some (vI l3), some (vI l4), some (vI l5), none, none, none, none, none] [] (sI M2 a4 10 r3)) ∧ (¬ ((mI (sI M2 a4 10 r3) l0 10) = 0) → R123 sl sx d M0 P 42 [some (vR (some l0)), some (vI l1), some (vI l2), some (vI l3), some (vI l4), some (vI l5), none, none, none, none, none] [] (sI M2 a4 10 r3)) from ⟨fun hc => ?_, fun hc => ?_⟩)
  · replace h := h.1 hc
    refine RN_k (callX_det _) 6 _ _ _ _ (show kd (sI M2 a4 10 r3) l0 9 ∧ callX TBg sl sx (d + 5) 77 [vR (some l0), vI l1, vI l2, vI l3, vI l4] (sI M2 a4 10 r3) (fun v M9 => R123 sl sx d M0 P 53 [some (vR (some l0)), some (vI l1), some (vI l2), some (vI l3), some (vI l4), some (vI l5), none, none, none, none, none] (pushO v []) M9) from ⟨h.1, ?_⟩)
    replace h := h.2
    refine callX_mono (callX_len (d := (d + 5)) rfl rfl rfl (c77 (d := d) h)) ?_
    clear h
    rintro v9 M5 ⟨hl, r6, rfl, h⟩
    replace hM := lenT hM hl
    show R123 sl sx d M0 P 53 [some (vR (some l0)), some (vI l1), some (vI l2), some (vI l3), some (vI l4), some (vI l5), none, none, none, none, none] [vR r6] M5
    refine RN_k (callX_det _) 7 _ _ _ _ (show R123 sl sx d M0 P 64 [some (vR (some l0)), some (vI l1), some (vI l2), some (vI l3), some (vI l4), some (vI l5), some (vR r6), some (vI (0 : Int32)), some (vI (-1 : Int32)), some (vI (0 : Int32)), none] [] M5 from ?_)
    obtain ⟨n2, h⟩ := h
    exact RN_weak (K := [some (vR (some l0)), none, none, none, none, some (vI l5), some (vR r6), some (vI (0 : Int32)), some (vI (-1 : Int32)), some (vI (0 : Int32)), none]) (callX_det _) (show _ ∧ _ ∧ _ ∧ _ ∧ _ ∧ _ ∧ True from ⟨rfl, rfl, rfl, rfl, rfl, rfl, trivial⟩) (t123_64  n2 l0 l5 r6 (0 : Int32) (-1 : Int32) (0 : Int32) _ hM h)
  · replace h := h.2 hc
    exact RN_k (callX_det _) 2 _ _ _ _ (show rtW q123 M0 (PI P) (some (vI (-1 : Int32))) (sI M2 a4 10 r3) from ⟨⟨_, rfl⟩, hM.1, hM.2, _, rfl, h⟩)
def w123_26 (l0 : Nat) (l1 : Int32) (l2 : Int32) (l3 : Int32) (l4 : Int32) (l5 : Int32) (s0 : Option Nat) (s1 : Option Nat) (M : MM) (P : Int32 → MM → Prop) : Prop := w123_27  l0 l1 l2 l3 l4 l5 s0 s1 (0 : Int32) M P
theorem t123_26 {sl : Nat} {sx : Nat → Int32} {d : Nat} {M0 : MM} {P : Int32 → MM → Prop} (l0 : Nat) (l1 : Int32) (l2 : Int32) (l3 : Int32) (l4 : Int32) (l5 : Int32) (s0 : Option Nat) (s1 : Option Nat) (M : MM) (hM : lenO M0 M) (h : w123_26  l0 l1 l2 l3 l4 l5 s0 s1 M P) : R123 sl sx d M0 P 26 [some (vR (some l0)), some (vI l1), some (vI l2), some (vI l3), some (vI l4), some (vI l5), none, none, none, none, none] [vR s1, vR s0] M := by
  refine RN_k (callX_det _) 1 _ _ _ _ (show R123 sl sx d M0 P 27 [some (vR (some l0)), some (vI l1), some (vI l2), some (vI l3), some (vI l4), some (vI l5), none, none, none, none, none] [vI (0 : Int32), vR s1, vR s0] M from ?_)
  exact RN_weak (K := [some (vR (some l0)), some (vI l1), some (vI l2), some (vI l3), some (vI l4), some (vI l5), none, none, none, none, none]) (callX_det _) (show _ ∧ _ ∧ _ ∧ _ ∧ _ ∧ _ ∧ True from ⟨rfl, rfl, rfl, rfl, rfl, rfl, trivial⟩) (t123_27  l0 l1 l2 l3 l4 l5 s0 s1 (0 : Int32) _ hM h)
def w123 (l0 : Nat) (l1 : Int32) (l2 : Int32) (l3 : Int32) (l4 : Int32) (l5 : Int32) (M : MM) (P : Int32 → MM → Prop) : Prop := w74 l3 l4 M (fun r2 M1 => (r2 = 0 → (w123_26  l0 l1 l2 l3 l4 l5 (some l0) (some l0) M1 P)) ∧ (¬ (r2 = 0) → ((l5 < 0 → (w123_26  l0 l1 l2 l3 l4 l5 (some l0) (some l0) M1 P)) ∧ (¬ (l5 < 0) → (((2 : Int32) < l5 → (w123_26  l0 l1 l2 l3 l4 l5 (some l0) (some l0) M1 P)) ∧ (¬ ((2 : Int32) < l5) → (w123_27  l0 l1 l2 l3 l4 l5 (some l0) (some l0) (1 : Int32) M1 P)))))))
theorem t123_E {sl : Nat} {sx : Nat → Int32} {d : Nat} {M0 : MM} {P : Int32 → MM → Prop} (l0 : Nat) (l1 : Int32) (l2 : Int32) (l3 : Int32) (l4 : Int32) (l5 : Int32) (M : MM) (hM : lenO M0 M) (h : w123  l0 l1 l2 l3 l4 l5 M P) : R123 sl sx d M0 P 0 [some (vR (some l0)), some (vI l1), some (vI l2), some (vI l3), some (vI l4), some (vI l5), none, none, none, none, none] [] M := by
  refine RN_k (callX_det _) 5 _ _ _ _ (show callX TBg sl sx (d + 5) 74 [vI l3, vI l4] M (fun v M9 => R123 sl sx d M0 P 8 [some (vR (some l0)), some (vI l1), some (vI l2), some (vI l3), some (vI l4), some (vI l5), none, none, none, none, none] (pushO v [vR (some l0), vR (some l0)]) M9) from ?_)
  refine callX_mono (callX_len (d := (d + 5)) rfl rfl rfl (c74 (d := d + 4) h)) ?_
  clear h
  rintro v9 M1 ⟨hl, r2, rfl, h⟩
  replace hM := lenT hM hl
  show R123 sl sx d M0 P 8 [some (vR (some l0)), some (vI l1), some (vI l2), some (vI l3), some (vI l4), some (vI l5), none, none, none, none, none] [vI r2, vR (some l0), vR (some l0)] M1
  refine RN_k (callX_det _) 1 _ _ _ _ (show (r2 = 0 → R123 sl sx d M0 P 26 [some (vR (some l0)), some (vI l1), some (vI l2), some (vI l3), some (vI l4), some (vI l5), none, none, none, none, none] [vR (some l0), vR (some l0)] M1) ∧ (¬ (r2 = 0) → R123 sl sx d M0 P 11 [some (vR (some l0)), some (vI l1), some (vI l2), some (vI l3), some (vI l4), some (vI l5), none, none, none, none, none] [vR (some l0), vR (some l0)] M1) from ⟨fun hc => ?_, fun hc => ?_⟩)
  · replace h := h.1 hc
    exact RN_weak (K := [some (vR (some l0)), some (vI l1), some (vI l2), some (vI l3), some (vI l4), some (vI l5), none, none, none, none, none]) (callX_det _) (show _ ∧ _ ∧ _ ∧ _ ∧ _ ∧ _ ∧ True from ⟨rfl, rfl, rfl, rfl, rfl, rfl, trivial⟩) (t123_26  l0 l1 l2 l3 l4 l5 (some l0) (some l0) _ hM h)
  · replace h := h.2 hc
    refine RN_k (callX_det _) 2 _ _ _ _ (show (l5 < 0 → R123 sl sx d M0 P 26 [some (vR (some l0)), some (vI l1), some (vI l2), some (vI l3), some (vI l4), some (vI l5), none, none, none, none, none] [vR (some l0), vR (some l0)] M1) ∧ (¬ (l5 < 0) → R123 sl sx d M0 P 16 [some (vR (some l0)), some (vI l1), some (vI l2), some (vI l3), some (vI l4), some (vI l5), none, none, none, none, none] [vR (some l0), vR (some l0)] M1) from ⟨fun hc => ?_, fun hc => ?_⟩)
    · replace h := h.1 hc
      exact RN_weak (K := [some (vR (some l0)), some (vI l1), some (vI l2), some (vI l3), some (vI l4), some (vI l5), none, none, none, none, none]) (callX_det _) (show _ ∧ _ ∧ _ ∧ _ ∧ _ ∧ _ ∧ True from ⟨rfl, rfl, rfl, rfl, rfl, rfl, trivial⟩) (t123_26  l0 l1 l2 l3 l4 l5 (some l0) (some l0) _ hM h)
    · replace h := h.2 hc
      refine RN_k (callX_det _) 3 _ _ _ _ (show ((2 : Int32) < l5 → R123 sl sx d M0 P 26 [some (vR (some l0)), some (vI l1), some (vI l2), some (vI l3), some (vI l4), some (vI l5), none, none, none, none, none] [vR (some l0), vR (some l0)] M1) ∧ (¬ ((2 : Int32) < l5) → R123 sl sx d M0 P 22 [some (vR (some l0)), some (vI l1), some (vI l2), some (vI l3), some (vI l4), some (vI l5), none, none, none, none, none] [vR (some l0), vR (some l0)] M1) from ⟨fun hc => ?_, fun hc => ?_⟩)
      · replace h := h.1 hc
        exact RN_weak (K := [some (vR (some l0)), some (vI l1), some (vI l2), some (vI l3), some (vI l4), some (vI l5), none, none, none, none, none]) (callX_det _) (show _ ∧ _ ∧ _ ∧ _ ∧ _ ∧ _ ∧ True from ⟨rfl, rfl, rfl, rfl, rfl, rfl, trivial⟩) (t123_26  l0 l1 l2 l3 l4 l5 (some l0) (some l0) _ hM h)
      · replace h := h.2 hc
        refine RN_k (callX_det _) 2 _ _ _ _ (show R123 sl sx d M0 P 27 [some (vR (some l0)), some (vI l1), some (vI l2), some (vI l3), some (vI l4), some (vI l5), none, none, none, none, none] [vI (1 : Int32), vR (some l0), vR (some l0)] M1 from ?_)
        exact RN_weak (K := [some (vR (some l0)), some (vI l1), some (vI l2), some (vI l3), some (vI l4), some (vI l5), none, none, none, none, none]) (callX_det _) (show _ ∧ _ ∧ _ ∧ _ ∧ _ ∧ _ ∧ True from ⟨rfl, rfl, rfl, rfl, rfl, rfl, trivial⟩) (t123_27  l0 l1 l2 l3 l4 l5 (some l0) (some l0) (1 : Int32) _ hM h)
theorem c123 {sl : Nat} {sx : Nat → Int32} {d : Nat} {l0 : Nat} {l1 : Int32} {l2 : Int32} {l3 : Int32} {l4 : Int32} {l5 : Int32} {M : MM} {P : Int32 → MM → Prop} (h : w123 l0 l1 l2 l3 l4 l5 M P) : callX TBg sl sx (d + 6) 123 [vR (some l0), vI l1, vI l2, vI l3, vI l4, vI l5] M (PI P) :=
  cX (d := d + 5) q123 (false, tb123) rfl rfl rfl (t123_E l0 l1 l2 l3 l4 l5 M lenR h)
-- TwoLeash.findPiece(LTwoLeash$Track;LTwoLeash$Track;)I
abbrev q125 : MQ7 := (3, 1, 6, 9, 0, 0, 1)
abbrev R125 (sl : Nat) (sx : Nat → Int32) (d : Nat) (M0 : MM) (P : Int32 → MM → Prop) : Nat → LL → List VV → MM → Prop := RN 9 false (mS M0).length (mT M0) 0 0 sl sx (callX TBg sl sx (d + 5)) (rtW q125 M0 (PI P)) (as2 tb125)
def w125_97 (k5 : Nat → Option Nat → Option Nat → Int32 → Int32 → MM → Prop) (k20 : Nat → Option Nat → Option Nat → Int32 → Int32 → Int32 → MM → Prop) (l0 : Nat) (l1 : Option Nat) (l2 : Option Nat) (l3 : Int32) (l4 : Int32) (l5 : Int32) (M : MM) (P : Int32 → MM → Prop) : Prop := k20 l0 l1 l2 l3 l4 (l5 + (1 : Int32)) M
theorem t125_97 {sl : Nat} {sx : Nat → Int32} {d : Nat} {M0 : MM} {P : Int32 → MM → Prop} {k5 : Nat → Option Nat → Option Nat → Int32 → Int32 → MM → Prop} {k20 : Nat → Option Nat → Option Nat → Int32 → Int32 → Int32 → MM → Prop} (hk5 : ∀ (l0 : Nat) (l1 : Option Nat) (l2 : Option Nat) (l3 : Int32) (l4 : Int32) (M : MM), lenO M0 M → k5 l0 l1 l2 l3 l4 M → R125 sl sx d M0 P 5 [some (vR (some l0)), some (vR l1), some (vR l2), some (vI l3), some (vI l4), none] [] M) (hk20 : ∀ (l0 : Nat) (l1 : Option Nat) (l2 : Option Nat) (l3 : Int32) (l4 : Int32) (l5 : Int32) (M : MM), lenO M0 M → k20 l0 l1 l2 l3 l4 l5 M → R125 sl sx d M0 P 20 [some (vR (some l0)), some (vR l1), some (vR l2), some (vI l3), some (vI l4), some (vI l5)] [] M) (l0 : Nat) (l1 : Option Nat) (l2 : Option Nat) (l3 : Int32) (l4 : Int32) (l5 : Int32) (M : MM) (hM : lenO M0 M) (h : w125_97 k5 k20 l0 l1 l2 l3 l4 l5 M P) : R125 sl sx d M0 P 97 [some (vR (some l0)), some (vR l1), some (vR l2), some (vI l3), some (vI l4), some (vI l5)] [] M := by
  refine RN_k (callX_det _) 2 _ _ _ _ (show R125 sl sx d M0 P 20 [some (vR (some l0)), some (vR l1), some (vR l2), some (vI l3), some (vI l4), some (vI (l5 + (1 : Int32)))] [] M from ?_)
  exact RN_weak (K := [some (vR (some l0)), some (vR l1), some (vR l2), some (vI l3), some (vI l4), some (vI (l5 + (1 : Int32)))]) (callX_det _) (show _ ∧ _ ∧ _ ∧ _ ∧ _ ∧ _ ∧ True from ⟨rfl, rfl, rfl, rfl, rfl, rfl, trivial⟩) (hk20 l0 l1 l2 l3 l4 (l5 + (1 : Int32)) _ hM h)
def w125_77 (k5 : Nat → Option Nat → Option Nat → Int32 → Int32 → MM → Prop) (k20 : Nat → Option Nat → Option Nat → Int32 → Int32 → Int32 → MM → Prop) (l0 : Nat) (l1 : Option Nat) (l2 : Option Nat) (l4 : Int32) (l5 : Int32) (M : MM) (P : Int32 → MM → Prop) : Prop := kd M l0 9 ∧ (kd M l0 9 ∧ (∃ a1, mR M l0 13 = some a1 ∧ (kd M a1 3 ∧ w56 a1 (mR M l0 12) M (fun M2 => w125_97 k5 k20 l0 l1 l2 ((l4 * (8 : Int32)) + l5) l4 l5 M2 P))))
theorem t125_77 {sl : Nat} {sx : Nat → Int32} {d : Nat} {M0 : MM} {P : Int32 → MM → Prop} {k5 : Nat → Option Nat → Option Nat → Int32 → Int32 → MM → Prop} {k20 : Nat → Option Nat → Option Nat → Int32 → Int32 → Int32 → MM → Prop} (hk5 : ∀ (l0 : Nat) (l1 : Option Nat) (l2 : Option Nat) (l3 : Int32) (l4 : Int32) (M : MM), lenO M0 M → k5 l0 l1 l2 l3 l4 M → R125 sl sx d M0 P 5 [some (vR (some l0)), some (vR l1), some (vR l2), some (vI l3), some (vI l4), none] [] M) (hk20 : ∀ (l0 : Nat) (l1 : Option Nat) (l2 : Option Nat) (l3 : Int32) (l4 : Int32) (l5 : Int32) (M : MM), lenO M0 M → k20 l0 l1 l2 l3 l4 l5 M → R125 sl sx d M0 P 20 [some (vR (some l0)), some (vR l1), some (vR l2), some (vI l3), some (vI l4), some (vI l5)] [] M) (l0 : Nat) (l1 : Option Nat) (l2 : Option Nat) (l4 : Int32) (l5 : Int32) (M : MM) (hM : lenO M0 M) (h : w125_77 k5 k20 l0 l1 l2 l4 l5 M P) : R125 sl sx d M0 P 77 [some (vR (some l0)), some (vR l1), some (vR l2), none, some (vI l4), some (vI l5)] [] M := by
  refine RN_k (callX_det _) 8 _ _ _ _ (show kd M l0 9 ∧ R125 sl sx d M0 P 90 [some (vR (some l0)), some (vR l1), some (vR l2), some (vI ((l4 * (8 : Int32)) + l5)), some (vI l4), some (vI l5)] [vR (mR M l0 13)] M from ⟨h.1, ?_⟩)
  replace h := h.2
  refine RN_k (callX_det _) 2 _ _ _ _ (show kd M l0 9 ∧ R125 sl sx d M0 P 94 [some (vR (some l0)), some (vR l1), some (vR l2), some (vI ((l4 * (8 : Int32)) + l5)), some (vI l4), some (vI l5)] [vR (mR M l0 12), vR (mR M l0 13)] M from ⟨h.1, ?_⟩)
  replace h := h.2
  obtain ⟨a1, he, h⟩ := h
  rw [he]
  refine RN_k (callX_det _) 1 _ _ _ _ (show kd M a1 3 ∧ callX TBg sl sx (d + 5) 56 [vR (some a1), vR (mR M l0 12)] M (fun v M9 => R125 sl sx d M0 P 97 [some (vR (some l0)), some (vR l1), some (vR l2), some (vI ((l4 * (8 : Int32)) + l5)), some (vI l4), some (vI l5)] (pushO v []) M9) from ⟨h.1, ?_⟩)
  replace h := h.2
  refine callX_mono (callX_len (d := (d + 5)) rfl rfl rfl (c56 (d := d + 4) h)) ?_
  clear h
  rintro v9 M2 ⟨hl, rfl, h⟩
  replace hM := lenT hM hl
  show R125 sl sx d M0 P 97 [some (vR (some l0)), some (vR l1), some (vR l2), some (vI ((l4 * (8 : Int32)) + l5)), some (vI l4), some (vI l5)] [] M2
  exact RN_weak (K := [some (vR (some l0)), some (vR l1), some (vR l2), some (vI ((l4 * (8 : Int32)) + l5)), some (vI l4), some (vI l5)]) (callX_det _) (show _ ∧ _ ∧ _ ∧ _ ∧ _ ∧ _ ∧ True from ⟨rfl, rfl, rfl, rfl, rfl, rfl, trivial⟩) (t125_97 hk5 hk20 l0 l1 l2 ((l4 * (8 : Int32)) + l5) l4 l5 _ hM h)
def w125_20 (k5 : Nat → Option Nat → Option Nat → Int32 → Int32 → MM → Prop) : Nat → Nat → Option Nat → Option Nat → Int32 → Int32 → Int32 → MM → (Int32 → MM → Prop) → Prop
  | 0 => fun _ _ _ _ _ _ _ _ => False
  | n + 1 => fun l0 l1 l2 l3 l4 l5 M P => ∃ a1, l2 = some a1 ∧ (kd M a1 8 ∧ (((mI M a1 1) ≤ l5 → (k5 l0 l1 (some a1) l3 (l4 + (1 : Int32)) M)) ∧ (¬ ((mI M a1 1) ≤ l5) → (kd M l0 9 ∧ (∃ a2, mR M l0 17 = some a2 ∧ (kd M a2 8 ∧ w32 a2 (some a1) l4 l5 M (fun M3 => kd M3 l0 9 ∧ (kd M3 l0 9 ∧ (kd M3 l0 9 ∧ (∃ a4, mR M3 l0 15 = some a4 ∧ (kd M3 a4 5 ∧ w106 a4 l1 (mR M3 l0 17) (0 : Int32) (mR M3 l0 12) M3 (fun M5 => (l3 = (-1 : Int32) → (w125_77 k5 (fun z0 z1 z2 z3 z4 z5 z6 => w125_20 k5 n z0 z1 z2 z3 z4 z5 z6 P) l0 l1 (some a1) l4 l5 M5 P)) ∧ (¬ (l3 = (-1 : Int32)) → (kd M5 l0 9 ∧ (kd M5 l0 9 ∧ (∃ a6, mR M5 l0 12 = some a6 ∧ (kd M5 a6 3 ∧ w63 a6 (mR M5 l0 13) M5 (fun r8 M7 => (r8 = 0 → (w125_97 k5 (fun z0 z1 z2 z3 z4 z5 z6 => w125_20 k5 n z0 z1 z2 z3 z4 z5 z6 P) l0 l1 (some a1) l3 l4 l5 M7 P)) ∧ (¬ (r8 = 0) → (w125_77 k5 (fun z0 z1 z2 z3 z4 z5 z6 => w125_20 k5 n z0 z1 z2 z3 z4 z5 z6 P) l0 l1 (some a1) l4 l5 M7 P))))))))))))))))))))
theorem t125_20 {sl : Nat} {sx : Nat → Int32} {d : Nat} {M0 : MM} {P : Int32 → MM → Prop} {k5 : Nat → Option Nat → Option Nat → Int32 → Int32 → MM → Prop} (hk5 : ∀ (l0 : Nat) (l1 : Option Nat) (l2 : Option Nat) (l3 : Int32) (l4 : Int32) (M : MM), lenO M0 M → k5 l0 l1 l2 l3 l4 M → R125 sl sx d M0 P 5 [some (vR (some l0)), some (vR l1), some (vR l2), some (vI l3), some (vI l4), none] [] M) (n : Nat) : ∀ (l0 : Nat) (l1 : Option Nat) (l2 : Option Nat) (l3 : Int32) (l4 : Int32) (l5 : Int32) (M : MM) (_ : lenO M0 M) (_ : w125_20 k5 n l0 l1 l2 l3 l4 l5 M P), R125 sl sx d M0 P 20 [some (vR (some l0)), some (vR l1), some (vR l2), some (vI l3), some (vI l4), some (vI l5)] [] M := by
  induction n with
  | zero => intro l0 l1 l2 l3 l4 l5 M hM h; cases h
  | succ n ih =>
    intro l0 l1 l2 l3 l4 l5 M hM h
    obtain ⟨a1, he, h⟩ := h
    refine RN_k (callX_det _) 2 _ _ _ _ (show R125 sl sx d M0 P 23 [some (vR (some l0)), some (vR l1), some (vR l2), some (vI l3), some (vI l4), some (vI l5)] [vR l2, vI l5] M from ?_)
    subst he
    refine RN_k (callX_det _) 1 _ _ _ _ (show kd M a1 8 ∧ R125 sl sx d M0 P 26 [some (vR (some l0)), some (vR l1), some (vR (some a1)), some (vI l3), some (vI l4), some (vI l5)] [vI (mI M a1 1), vI l5] M from ⟨h.1, ?_⟩)
    replace h := h.2
    refine RN_k (callX_det _) 1 _ _ _ _ (show ((mI M a1 1) ≤ l5 → R125 sl sx d M0 P 103 [some (vR (some l0)), some (vR l1), some (vR (some a1)), some (vI l3), some (vI l4), some (vI l5)] [] M) ∧ (¬ ((mI M a1 1) ≤ l5) → R125 sl sx d M0 P 29 [some (vR (some l0)), some (vR l1), some (vR (some a1)), some (vI l3), some (vI l4), some (vI l5)] [] M) from ⟨fun hc => ?_, fun hc => ?_⟩)
    · replace h := h.1 hc
      refine RN_k (callX_det _) 2 _ _ _ _ (show R125 sl sx d M0 P 5 [some (vR (some l0)), some (vR l1), some (vR (some a1)), some (vI l3), some (vI (l4 + (1 : Int32))), some (vI l5)] [] M from ?_)
      exact RN_weak (K := [some (vR (some l0)), some (vR l1), some (vR (some a1)), some (vI l3), some (vI (l4 + (1 : Int32))), none]) (callX_det _) (show _ ∧ _ ∧ _ ∧ _ ∧ _ ∧ True from ⟨rfl, rfl, rfl, rfl, rfl, trivial⟩) (hk5 l0 l1 (some a1) l3 (l4 + (1 : Int32)) _ hM h)
    · replace h := h.2 hc
      refine RN_k (callX_det _) 2 _ _ _ _ (show kd M l0 9 ∧ R125 sl sx d M0 P 33 [some (vR (some l0)), some (vR l1), some (vR (some a1)), some (vI l3), some (vI l4), some (vI l5)] [vR (mR M l0 17)] M from ⟨h.1, ?_⟩)
      replace h := h.2
      obtain ⟨a2, he, h⟩ := h
      refine RN_k (callX_det _) 3 _ _ _ _ (show R125 sl sx d M0 P 38 [some (vR (some l0)), some (vR l1), some (vR (some a1)), some (vI l3), some (vI l4), some (vI l5)] [vI l5, vI l4, vR (some a1), vR (mR M l0 17)] M from ?_)
      rw [he]
      refine RN_k (callX_det _) 1 _ _ _ _ (show kd M a2 8 ∧ callX TBg sl sx (d + 5) 32 [vR (some a2), vR (some a1), vI l4, vI l5] M (fun v M9 => R125 sl sx d M0 P 41 [some (vR (some l0)), some (vR l1), some (vR (some a1)), some (vI l3), some (vI l4), some (vI l5)] (pushO v []) M9) from ⟨h.1, ?_⟩)
      replace h := h.2
      refine callX_mono (callX_len (d := (d + 5)) rfl rfl rfl (c32 (d := d + 3) h)) ?_
      clear h
      rintro v9 M3 ⟨hl, rfl, h⟩
      replace hM := lenT hM hl
      show R125 sl sx d M0 P 41 [some (vR (some l0)), some (vR l1), some (vR (some a1)), some (vI l3), some (vI l4), some (vI l5)] [] M3
      refine RN_k (callX_det _) 2 _ _ _ _ (show kd M3 l0 9 ∧ R125 sl sx d M0 P 45 [some (vR (some l0)), some (vR l1), some (vR (some a1)), some (vI l3), some (vI l4), some (vI l5)] [vR (mR M3 l0 15)] M3 from ⟨h.1, ?_⟩)
      replace h := h.2
      refine RN_k (callX_det _) 3 _ _ _ _ (show kd M3 l0 9 ∧ R125 sl sx d M0 P 50 [some (vR (some l0)), some (vR l1), some (vR (some a1)), some (vI l3), some (vI l4), some (vI l5)] [vR (mR M3 l0 17), vR l1, vR (mR M3 l0 15)] M3 from ⟨h.1, ?_⟩)
      replace h := h.2
      refine RN_k (callX_det _) 3 _ _ _ _ (show kd M3 l0 9 ∧ R125 sl sx d M0 P 55 [some (vR (some l0)), some (vR l1), some (vR (some a1)), some (vI l3), some (vI l4), some (vI l5)] [vR (mR M3 l0 12), vI (0 : Int32), vR (mR M3 l0 17), vR l1, vR (mR M3 l0 15)] M3 from ⟨h.1, ?_⟩)
      replace h := h.2
      obtain ⟨a4, he, h⟩ := h
      rw [he]
      refine RN_k (callX_det _) 1 _ _ _ _ (show kd M3 a4 5 ∧ callX TBg sl sx (d + 5) 106 [vR (some a4), vR l1, vR (mR M3 l0 17), vI (0 : Int32), vR (mR M3 l0 12)] M3 (fun v M9 => R125 sl sx d M0 P 58 [some (vR (some l0)), some (vR l1), some (vR (some a1)), some (vI l3), some (vI l4), some (vI l5)] (pushO v []) M9) from ⟨h.1, ?_⟩)
      replace h := h.2
      refine callX_mono (callX_len (d := (d + 5)) rfl rfl rfl (c106 (d := d) h)) ?_
      clear h
      rintro v9 M5 ⟨hl, rfl, h⟩
      replace hM := lenT hM hl
      show R125 sl sx d M0 P 58 [some (vR (some l0)), some (vR l1), some (vR (some a1)), some (vI l3), some (vI l4), some (vI l5)] [] M5
      refine RN_k (callX_det _) 3 _ _ _ _ (show (l3 = (-1 : Int32) → R125 sl sx d M0 P 77 [some (vR (some l0)), some (vR l1), some (vR (some a1)), some (vI l3), some (vI l4), some (vI l5)] [] M5) ∧ (¬ (l3 = (-1 : Int32)) → R125 sl sx d M0 P 63 [some (vR (some l0)), some (vR l1), some (vR (some a1)), some (vI l3), some (vI l4), some (vI l5)] [] M5) from ⟨fun hc => ?_, fun hc => ?_⟩)
      · replace h := h.1 hc
        exact RN_weak (K := [some (vR (some l0)), some (vR l1), some (vR (some a1)), none, some (vI l4), some (vI l5)]) (callX_det _) (show _ ∧ _ ∧ _ ∧ _ ∧ _ ∧ True from ⟨rfl, rfl, rfl, rfl, rfl, trivial⟩) (t125_77 hk5 ih l0 l1 (some a1) l4 l5 _ hM h)
      · replace h := h.2 hc
        refine RN_k (callX_det _) 2 _ _ _ _ (show kd M5 l0 9 ∧ R125 sl sx d M0 P 67 [some (vR (some l0)), some (vR l1), some (vR (some a1)), some (vI l3), some (vI l4), some (vI l5)] [vR (mR M5 l0 12)] M5 from ⟨h.1, ?_⟩)
        replace h := h.2
        refine RN_k (callX_det _) 2 _ _ _ _ (show kd M5 l0 9 ∧ R125 sl sx d M0 P 71 [some (vR (some l0)), some (vR l1), some (vR (some a1)), some (vI l3), some (vI l4), some (vI l5)] [vR (mR M5 l0 13), vR (mR M5 l0 12)] M5 from ⟨h.1, ?_⟩)
        replace h := h.2
        obtain ⟨a6, he, h⟩ := h
        rw [he]
        refine RN_k (callX_det _) 1 _ _ _ _ (show kd M5 a6 3 ∧ callX TBg sl sx (d + 5) 63 [vR (some a6), vR (mR M5 l0 13)] M5 (fun v M9 => R125 sl sx d M0 P 74 [some (vR (some l0)), some (vR l1), some (vR (some a1)), some (vI l3), some (vI l4), some (vI l5)] (pushO v []) M9) from ⟨h.1, ?_⟩)
        replace h := h.2
        refine callX_mono (callX_len (d := (d + 5)) rfl rfl rfl (c63 (d := d + 4) h)) ?_
        clear h
        rintro v9 M7 ⟨hl, r8, rfl, h⟩
        replace hM := lenT hM hl
        show R125 sl sx d M0 P 74 [some (vR (some l0)), some (vR l1), some (vR (some a1)), some (vI l3), some (vI l4), some (vI l5)] [vI r8] M7
        refine RN_k (callX_det _) 1 _ _ _ _ (show (r8 = 0 → R125 sl sx d M0 P 97 [some (vR (some l0)), some (vR l1), some (vR (some a1)), some (vI l3), some (vI l4), some (vI l5)] [] M7) ∧ (¬ (r8 = 0) → R125 sl sx d M0 P 77 [some (vR (some l0)), some (vR l1), some (vR (some a1)), some (vI l3), some (vI l4), some (vI l5)] [] M7) from ⟨fun hc => ?_, fun hc => ?_⟩)
        · replace h := h.1 hc
          exact RN_weak (K := [some (vR (some l0)), some (vR l1), some (vR (some a1)), some (vI l3), some (vI l4), some (vI l5)]) (callX_det _) (show _ ∧ _ ∧ _ ∧ _ ∧ _ ∧ _ ∧ True from ⟨rfl, rfl, rfl, rfl, rfl, rfl, trivial⟩) (t125_97 hk5 ih l0 l1 (some a1) l3 l4 l5 _ hM h)
        · replace h := h.2 hc
          exact RN_weak (K := [some (vR (some l0)), some (vR l1), some (vR (some a1)), none, some (vI l4), some (vI l5)]) (callX_det _) (show _ ∧ _ ∧ _ ∧ _ ∧ _ ∧ True from ⟨rfl, rfl, rfl, rfl, rfl, trivial⟩) (t125_77 hk5 ih l0 l1 (some a1) l4 l5 _ hM h)
def w125_5 : Nat → Nat → Option Nat → Option Nat → Int32 → Int32 → MM → (Int32 → MM → Prop) → Prop
  | 0 => fun _ _ _ _ _ _ _ => False
  | n + 1 => fun l0 l1 l2 l3 l4 M P => ∃ a1, l2 = some a1 ∧ (kd M a1 8 ∧ (((mI M a1 1) ≤ l4 → (P l3 M)) ∧ (¬ ((mI M a1 1) ≤ l4) → (∃ n2, w125_20 (fun z0 z1 z2 z3 z4 z5 => w125_5  n z0 z1 z2 z3 z4 z5 P) n2 l0 l1 (some a1) l3 l4 (l4 + (1 : Int32)) M P))))
theorem t125_5 {sl : Nat} {sx : Nat → Int32} {d : Nat} {M0 : MM} {P : Int32 → MM → Prop} (n : Nat) : ∀ (l0 : Nat) (l1 : Option Nat) (l2 : Option Nat) (l3 : Int32) (l4 : Int32) (M : MM) (_ : lenO M0 M) (_ : w125_5  n l0 l1 l2 l3 l4 M P), R125 sl sx d M0 P 5 [some (vR (some l0)), some (vR l1), some (vR l2), some (vI l3), some (vI l4), none] [] M := by
  induction n with
  | zero => intro l0 l1 l2 l3 l4 M hM h; cases h
  | succ n ih =>
    intro l0 l1 l2 l3 l4 M hM h
    obtain ⟨a1, he, h⟩ := h
    refine RN_k (callX_det _) 2 _ _ _ _ (show R125 sl sx d M0 P 8 [some (vR (some l0)), some (vR l1), some (vR l2), some (vI l3), some (vI l4), none] [vR l2, vI l4] M from ?_)
    subst he
    refine RN_k (callX_det _) 1 _ _ _ _ (show kd M a1 8 ∧ R125 sl sx d M0 P 11 [some (vR (some l0)), some (vR l1), some (vR (some a1)), some (vI l3), some (vI l4), none] [vI (mI M a1 1), vI l4] M from ⟨h.1, ?_⟩)
    replace h := h.2
    refine RN_k (callX_det _) 1 _ _ _ _ (show ((mI M a1 1) ≤ l4 → R125 sl sx d M0 P 109 [some (vR (some l0)), some (vR l1), some (vR (some a1)), some (vI l3), some (vI l4), none] [] M) ∧ (¬ ((mI M a1 1) ≤ l4) → R125 sl sx d M0 P 14 [some (vR (some l0)), some (vR l1), some (vR (some a1)), some (vI l3), some (vI l4), none] [] M) from ⟨fun hc => ?_, fun hc => ?_⟩)
    · replace h := h.1 hc
      exact RN_k (callX_det _) 2 _ _ _ _ (show rtW q125 M0 (PI P) (some (vI l3)) M from ⟨⟨_, rfl⟩, hM.1, hM.2, _, rfl, h⟩)
    · replace h := h.2 hc
      refine RN_k (callX_det _) 4 _ _ _ _ (show R125 sl sx d M0 P 20 [some (vR (some l0)), some (vR l1), some (vR (some a1)), some (vI l3), some (vI l4), some (vI (l4 + (1 : Int32)))] [] M from ?_)
      obtain ⟨n2, h⟩ := h
      exact RN_weak (K := [some (vR (some l0)), some (vR l1), some (vR (some a1)), some (vI l3), some (vI l4), some (vI (l4 + (1 : Int32)))]) (callX_det _) (show _ ∧ _ ∧ _ ∧ _ ∧ _ ∧ _ ∧ True from ⟨rfl, rfl, rfl, rfl, rfl, rfl, trivial⟩) (t125_20 ih n2 l0 l1 (some a1) l3 l4 (l4 + (1 : Int32)) _ hM h)
def w125 (l0 : Nat) (l1 : Option Nat) (l2 : Option Nat) (M : MM) (P : Int32 → MM → Prop) : Prop := ∃ n2, w125_5  n2 l0 l1 l2 (-1 : Int32) (0 : Int32) M P
theorem t125_E {sl : Nat} {sx : Nat → Int32} {d : Nat} {M0 : MM} {P : Int32 → MM → Prop} (l0 : Nat) (l1 : Option Nat) (l2 : Option Nat) (M : MM) (hM : lenO M0 M) (h : w125  l0 l1 l2 M P) : R125 sl sx d M0 P 0 [some (vR (some l0)), some (vR l1), some (vR l2), none, none, none] [] M := by
  refine RN_k (callX_det _) 4 _ _ _ _ (show R125 sl sx d M0 P 5 [some (vR (some l0)), some (vR l1), some (vR l2), some (vI (-1 : Int32)), some (vI (0 : Int32)), none] [] M from ?_)
  obtain ⟨n2, h⟩ := h
  exact RN_weak (K := [some (vR (some l0)), some (vR l1), some (vR l2), some (vI (-1 : Int32)), some (vI (0 : Int32)), none]) (callX_det _) (show _ ∧ _ ∧ _ ∧ _ ∧ _ ∧ True from ⟨rfl, rfl, rfl, rfl, rfl, trivial⟩) (t125_5  n2 l0 l1 l2 (-1 : Int32) (0 : Int32) _ hM h)
theorem c125 {sl : Nat} {sx : Nat → Int32} {d : Nat} {l0 : Nat} {l1 : Option Nat} {l2 : Option Nat} {M : MM} {P : Int32 → MM → Prop} (h : w125 l0 l1 l2 M P) : callX TBg sl sx (d + 6) 125 [vR (some l0), vR l1, vR l2] M (PI P) :=
  cX (d := d + 5) q125 (false, tb125) rfl rfl rfl (t125_E l0 l1 l2 M lenR h)
-- TwoLeash.piece(III)I
abbrev q124 : MQ7 := (4, 1, 5, 9, 0, 0, 1)
abbrev R124 (sl : Nat) (sx : Nat → Int32) (d : Nat) (M0 : MM) (P : Int32 → MM → Prop) : Nat → LL → List VV → MM → Prop := RN 9 false (mS M0).length (mT M0) 0 0 sl sx (callX TBg sl sx (d + 6)) (rtW q124 M0 (PI P)) (as2 tb124)
def w124_69 (s0 : Option Nat) (s1 : Int32) (M : MM) (P : Int32 → MM → Prop) : Prop := ∃ a1, s0 = some a1 ∧ (kd M a1 9 ∧ w35 a1 s1 M (fun r3 M2 => P r3 M2))
theorem t124_69 {sl : Nat} {sx : Nat → Int32} {d : Nat} {M0 : MM} {P : Int32 → MM → Prop} (s0 : Option Nat) (s1 : Int32) (M : MM) (hM : lenO M0 M) (h : w124_69  s0 s1 M P) : R124 sl sx d M0 P 69 [none, none, none, none, none] [vI s1, vR s0] M := by
  obtain ⟨a1, he, h⟩ := h
  subst he
  refine RN_k (callX_det _) 1 _ _ _ _ (show kd M a1 9 ∧ callX TBg sl sx (d + 6) 35 [vR (some a1), vI s1] M (fun v M9 => R124 sl sx d M0 P 72 [none, none, none, none, none] (pushO v []) M9) from ⟨h.1, ?_⟩)
  replace h := h.2
  refine callX_mono (callX_len (d := (d + 6)) rfl rfl rfl (c35 (d := d + 5) h)) ?_
  clear h
  rintro v9 M2 ⟨hl, r3, rfl, h⟩
  replace hM := lenT hM hl
  show R124 sl sx d M0 P 72 [none, none, none, none, none] [vI r3] M2
  exact RN_k (callX_det _) 1 _ _ _ _ (show rtW q124 M0 (PI P) (some (vI r3)) M2 from ⟨⟨_, rfl⟩, hM.1, hM.2, _, rfl, h⟩)
def w124_16 (l0 : Nat) (l1 : Int32) (l2 : Int32) (l3 : Int32) (s0 : Option Nat) (s1 : Option Nat) (s2 : Int32) (M : MM) (P : Int32 → MM → Prop) : Prop := ∃ a1, s1 = some a1 ∧ (kd M a1 9 ∧ w62 a1 s2 l1 l2 M (fun r3 M2 => ∃ a4, s0 = some a4 ∧ (kd M2 a4 9 ∧ (kd (sI M2 a4 10 r3) l0 9 ∧ (((mI (sI M2 a4 10 r3) l0 10) = 0 → (kd (sI M2 a4 10 r3) l0 9 ∧ (∃ a5, mR (sI M2 a4 10 r3) l0 5 = some a5 ∧ (inb (sI M2 a4 10 r3) a5 16 l1 ∧ (kd (sI M2 a4 10 r3) l0 9 ∧ (∃ a6, mR (sI M2 a4 10 r3) l0 5 = some a6 ∧ (inb (sI M2 a4 10 r3) a6 16 l2 ∧ (kd (sI M2 a4 10 r3) l0 9 ∧ w125 l0 (mR (sI M2 a4 10 r3) a5 l1.toNatClampNeg) (mR (sI M2 a4 10 r3) a6 l2.toNatClampNeg) (sI M2 a4 10 r3) (fun r8 M7 => (l3 ≠ 0 → (¬ (8 : Int32) = 0 ∧ (w124_69  (some l0) (r8 - r8 / (8 : Int32) * (8 : Int32)) M7 P))) ∧ (¬ (l3 ≠ 0) → (¬ (8 : Int32) = 0 ∧ (w124_69  (some l0) (r8 / (8 : Int32)) M7 P)))))))))))) ∧ (¬ ((mI (sI M2 a4 10 r3) l0 10) = 0) → (P (-1 : Int32) (sI M2 a4 10 r3))))))))
theorem t124_16 {sl : Nat} {sx : Nat → Int32} {d : Nat} {M0 : MM} {P : Int32 → MM → Prop} (l0 : Nat) (l1 : Int32) (l2 : Int32) (l3 : Int32) (s0 : Option Nat) (s1 : Option Nat) (s2 : Int32) (M : MM) (hM : lenO M0 M) (h : w124_16  l0 l1 l2 l3 s0 s1 s2 M P) : R124 sl sx d M0 P 16 [some (vR (some l0)), some (vI l1), some (vI l2), some (vI l3), none] [vI s2, vR s1, vR s0] M := by
  obtain ⟨a1, he, h⟩ := h
  refine RN_k (callX_det _) 2 _ _ _ _ (show R124 sl sx d M0 P 18 [some (vR (some l0)), some (vI l1), some (vI l2), some (vI l3), none] [vI l2, vI l1, vI s2, vR s1, vR s0] M from ?_)
  subst he
  refine RN_k (callX_det _) 1 _ _ _ _ (show kd M a1 9 ∧ callX TBg sl sx (d + 6) 62 [vR (some a1), vI s2, vI l1, vI l2] M (fun v M9 => R124 sl sx d M0 P 21 [some (vR (some l0)), some (vI l1), some (vI l2), some (vI l3), none] (pushO v [vR s0]) M9) from ⟨h.1, ?_⟩)
  replace h := h.2
  refine callX_mono (callX_len (d := (d + 6)) rfl rfl rfl (c62 (d := d + 4) h)) ?_
  clear h
  rintro v9 M2 ⟨hl, r3, rfl, h⟩
  replace hM := lenT hM hl
  show R124 sl sx d M0 P 21 [some (vR (some l0)), some (vI l1), some (vI l2), some (vI l3), none] [vI r3, vR s0] M2
  obtain ⟨a4, he, h⟩ := h
  subst he
  refine RN_k (callX_det _) 1 _ _ _ _ (show kd M2 a4 9 ∧ R124 sl sx d M0 P 24 [some (vR (some l0)), some (vI l1), some (vI l2), some (vI l3), none] [] (sI M2 a4 10 r3) from ⟨h.1, ?_⟩)
  replace h := h.2
  refine RN_k (callX_det _) 2 _ _ _ _ (show kd (sI M2 a4 10 r3) l0 9 ∧ R124 sl sx d M0 P 28 [some (vR (some l0)), some (vI l1), some (vI l2), some (vI l3), none] [vI (mI (sI M2 a4 10 r3) l0 10)] (sI M2 a4 10 r3) from ⟨h.1, ?_⟩)
  replace h := h.2
  refine RN_k (callX_det _) 1 _ _ _ _ (show ((mI (sI M2 a4 10 r3) l0 10) = 0 → R124 sl sx d M0 P 33 [some (vR (some l0)), some (vI l1), some (vI l2), some (vI l3), none] [] (sI M2 a4 10 r3)) ∧ (¬ ((mI (sI M2 a4 10 r3) l0 10) = 0) → R124 sl sx d M0 P 31 [some (vR (some l0)), some (vI l1), some (vI l2), some (vI l3), none] [] (sI M2 a4 10 r3)) from ⟨fun hc => ?_, fun hc => ?_⟩)
  · replace h := h.1 hc
    refine RN_k (callX_det _) 3 _ _ _ _ (show kd (sI M2 a4 10 r3) l0 9 ∧ R124 sl sx d M0 P 38 [some (vR (some l0)), some (vI l1), some (vI l2), some (vI l3), none] [vR (mR (sI M2 a4 10 r3) l0 5), vR (some l0)] (sI M2 a4 10 r3) from ⟨h.1, ?_⟩)
    replace h := h.2
    obtain ⟨a5, he, h⟩ := h
    refine RN_k (callX_det _) 1 _ _ _ _ (show R124 sl sx d M0 P 39 [some (vR (some l0)), some (vI l1), some (vI l2), some (vI l3), none] [vI l1, vR (mR (sI M2 a4 10 r3) l0 5), vR (some l0)] (sI M2 a4 10 r3) from ?_)
    rw [he]
    refine RN_k (callX_det _) 1 _ _ _ _ (show inb (sI M2 a4 10 r3) a5 16 l1 ∧ R124 sl sx d M0 P 40 [some (vR (some l0)), some (vI l1), some (vI l2), some (vI l3), none] [vR (mR (sI M2 a4 10 r3) a5 l1.toNatClampNeg), vR (some l0)] (sI M2 a4 10 r3) from ⟨h.1, ?_⟩)
    replace h := h.2
    refine RN_k (callX_det _) 2 _ _ _ _ (show kd (sI M2 a4 10 r3) l0 9 ∧ R124 sl sx d M0 P 44 [some (vR (some l0)), some (vI l1), some (vI l2), some (vI l3), none] [vR (mR (sI M2 a4 10 r3) l0 5), vR (mR (sI M2 a4 10 r3) a5 l1.toNatClampNeg), vR (some l0)] (sI M2 a4 10 r3) from ⟨h.1, ?_⟩)
    replace h := h.2
    obtain ⟨a6, he, h⟩ := h
    refine RN_k (callX_det _) 1 _ _ _ _ (show R124 sl sx d M0 P 45 [some (vR (some l0)), some (vI l1), some (vI l2), some (vI l3), none] [vI l2, vR (mR (sI M2 a4 10 r3) l0 5), vR (mR (sI M2 a4 10 r3) a5 l1.toNatClampNeg), vR (some l0)] (sI M2 a4 10 r3) from ?_)
    rw [he]
    refine RN_k (callX_det _) 1 _ _ _ _ (show inb (sI M2 a4 10 r3) a6 16 l2 ∧ R124 sl sx d M0 P 46 [some (vR (some l0)), some (vI l1), some (vI l2), some (vI l3), none] [vR (mR (sI M2 a4 10 r3) a6 l2.toNatClampNeg), vR (mR (sI M2 a4 10 r3) a5 l1.toNatClampNeg), vR (some l0)] (sI M2 a4 10 r3) from ⟨h.1, ?_⟩)
    replace h := h.2
    refine RN_k (callX_det _) 1 _ _ _ _ (show kd (sI M2 a4 10 r3) l0 9 ∧ callX TBg sl sx (d + 6) 125 [vR (some l0), vR (mR (sI M2 a4 10 r3) a5 l1.toNatClampNeg), vR (mR (sI M2 a4 10 r3) a6 l2.toNatClampNeg)] (sI M2 a4 10 r3) (fun v M9 => R124 sl sx d M0 P 49 [some (vR (some l0)), some (vI l1), some (vI l2), some (vI l3), none] (pushO v []) M9) from ⟨h.1, ?_⟩)
    replace h := h.2
    refine callX_mono (callX_len (d := (d + 6)) rfl rfl rfl (c125 (d := d) h)) ?_
    clear h
    rintro v9 M7 ⟨hl, r8, rfl, h⟩
    replace hM := lenT hM hl
    show R124 sl sx d M0 P 49 [some (vR (some l0)), some (vI l1), some (vI l2), some (vI l3), none] [vI r8] M7
    refine RN_k (callX_det _) 4 _ _ _ _ (show (l3 ≠ 0 → R124 sl sx d M0 P 64 [some (vR (some l0)), some (vI l1), some (vI l2), some (vI l3), some (vI r8)] [vR (some l0)] M7) ∧ (¬ (l3 ≠ 0) → R124 sl sx d M0 P 56 [some (vR (some l0)), some (vI l1), some (vI l2), some (vI l3), some (vI r8)] [vR (some l0)] M7) from ⟨fun hc => ?_, fun hc => ?_⟩)
    · replace h := h.1 hc
      refine RN_k (callX_det _) 3 _ _ _ _ (show ¬ (8 : Int32) = 0 ∧ R124 sl sx d M0 P 69 [some (vR (some l0)), some (vI l1), some (vI l2), some (vI l3), some (vI r8)] [vI (r8 - r8 / (8 : Int32) * (8 : Int32)), vR (some l0)] M7 from ⟨h.1, ?_⟩)
      replace h := h.2
      exact RN_weak (K := [none, none, none, none, none]) (callX_det _) (show True from trivial) (t124_69  (some l0) (r8 - r8 / (8 : Int32) * (8 : Int32)) _ hM h)
    · replace h := h.2 hc
      refine RN_k (callX_det _) 3 _ _ _ _ (show ¬ (8 : Int32) = 0 ∧ R124 sl sx d M0 P 61 [some (vR (some l0)), some (vI l1), some (vI l2), some (vI l3), some (vI r8)] [vI (r8 / (8 : Int32)), vR (some l0)] M7 from ⟨h.1, ?_⟩)
      replace h := h.2
      refine RN_k (callX_det _) 1 _ _ _ _ (show R124 sl sx d M0 P 69 [some (vR (some l0)), some (vI l1), some (vI l2), some (vI l3), some (vI r8)] [vI (r8 / (8 : Int32)), vR (some l0)] M7 from ?_)
      exact RN_weak (K := [none, none, none, none, none]) (callX_det _) (show True from trivial) (t124_69  (some l0) (r8 / (8 : Int32)) _ hM h)
  · replace h := h.2 hc
    exact RN_k (callX_det _) 2 _ _ _ _ (show rtW q124 M0 (PI P) (some (vI (-1 : Int32))) (sI M2 a4 10 r3) from ⟨⟨_, rfl⟩, hM.1, hM.2, _, rfl, h⟩)
def w124_11 (l0 : Nat) (l1 : Int32) (l2 : Int32) (l3 : Int32) (s0 : Option Nat) (s1 : Option Nat) (M : MM) (P : Int32 → MM → Prop) : Prop := w124_16  l0 l1 l2 l3 s0 s1 (1 : Int32) M P
theorem t124_11 {sl : Nat} {sx : Nat → Int32} {d : Nat} {M0 : MM} {P : Int32 → MM → Prop} (l0 : Nat) (l1 : Int32) (l2 : Int32) (l3 : Int32) (s0 : Option Nat) (s1 : Option Nat) (M : MM) (hM : lenO M0 M) (h : w124_11  l0 l1 l2 l3 s0 s1 M P) : R124 sl sx d M0 P 11 [some (vR (some l0)), some (vI l1), some (vI l2), some (vI l3), none] [vR s1, vR s0] M := by
  refine RN_k (callX_det _) 2 _ _ _ _ (show R124 sl sx d M0 P 16 [some (vR (some l0)), some (vI l1), some (vI l2), some (vI l3), none] [vI (1 : Int32), vR s1, vR s0] M from ?_)
  exact RN_weak (K := [some (vR (some l0)), some (vI l1), some (vI l2), some (vI l3), none]) (callX_det _) (show _ ∧ _ ∧ _ ∧ _ ∧ True from ⟨rfl, rfl, rfl, rfl, trivial⟩) (t124_16  l0 l1 l2 l3 s0 s1 (1 : Int32) _ hM h)
def w124 (l0 : Nat) (l1 : Int32) (l2 : Int32) (l3 : Int32) (M : MM) (P : Int32 → MM → Prop) : Prop := (l3 = 0 → (w124_11  l0 l1 l2 l3 (some l0) (some l0) M P)) ∧ (¬ (l3 = 0) → ((l3 ≠ (1 : Int32) → (w124_16  l0 l1 l2 l3 (some l0) (some l0) (0 : Int32) M P)) ∧ (¬ (l3 ≠ (1 : Int32)) → (w124_11  l0 l1 l2 l3 (some l0) (some l0) M P))))
theorem t124_E {sl : Nat} {sx : Nat → Int32} {d : Nat} {M0 : MM} {P : Int32 → MM → Prop} (l0 : Nat) (l1 : Int32) (l2 : Int32) (l3 : Int32) (M : MM) (hM : lenO M0 M) (h : w124  l0 l1 l2 l3 M P) : R124 sl sx d M0 P 0 [some (vR (some l0)), some (vI l1), some (vI l2), some (vI l3), none] [] M := by
  refine RN_k (callX_det _) 4 _ _ _ _ (show (l3 = 0 → R124 sl sx d M0 P 11 [some (vR (some l0)), some (vI l1), some (vI l2), some (vI l3), none] [vR (some l0), vR (some l0)] M) ∧ (¬ (l3 = 0) → R124 sl sx d M0 P 6 [some (vR (some l0)), some (vI l1), some (vI l2), some (vI l3), none] [vR (some l0), vR (some l0)] M) from ⟨fun hc => ?_, fun hc => ?_⟩)
  · replace h := h.1 hc
    exact RN_weak (K := [some (vR (some l0)), some (vI l1), some (vI l2), some (vI l3), none]) (callX_det _) (show _ ∧ _ ∧ _ ∧ _ ∧ True from ⟨rfl, rfl, rfl, rfl, trivial⟩) (t124_11  l0 l1 l2 l3 (some l0) (some l0) _ hM h)
  · replace h := h.2 hc
    refine RN_k (callX_det _) 3 _ _ _ _ (show (l3 ≠ (1 : Int32) → R124 sl sx d M0 P 15 [some (vR (some l0)), some (vI l1), some (vI l2), some (vI l3), none] [vR (some l0), vR (some l0)] M) ∧ (¬ (l3 ≠ (1 : Int32)) → R124 sl sx d M0 P 11 [some (vR (some l0)), some (vI l1), some (vI l2), some (vI l3), none] [vR (some l0), vR (some l0)] M) from ⟨fun hc => ?_, fun hc => ?_⟩)
    · replace h := h.1 hc
      refine RN_k (callX_det _) 1 _ _ _ _ (show R124 sl sx d M0 P 16 [some (vR (some l0)), some (vI l1), some (vI l2), some (vI l3), none] [vI (0 : Int32), vR (some l0), vR (some l0)] M from ?_)
      exact RN_weak (K := [some (vR (some l0)), some (vI l1), some (vI l2), some (vI l3), none]) (callX_det _) (show _ ∧ _ ∧ _ ∧ _ ∧ True from ⟨rfl, rfl, rfl, rfl, trivial⟩) (t124_16  l0 l1 l2 l3 (some l0) (some l0) (0 : Int32) _ hM h)
    · replace h := h.2 hc
      exact RN_weak (K := [some (vR (some l0)), some (vI l1), some (vI l2), some (vI l3), none]) (callX_det _) (show _ ∧ _ ∧ _ ∧ _ ∧ True from ⟨rfl, rfl, rfl, rfl, trivial⟩) (t124_11  l0 l1 l2 l3 (some l0) (some l0) _ hM h)
theorem c124 {sl : Nat} {sx : Nat → Int32} {d : Nat} {l0 : Nat} {l1 : Int32} {l2 : Int32} {l3 : Int32} {M : MM} {P : Int32 → MM → Prop} (h : w124 l0 l1 l2 l3 M P) : callX TBg sl sx (d + 7) 124 [vR (some l0), vI l1, vI l2, vI l3] M (PI P) :=
  cX (d := d + 6) q124 (false, tb124) rfl rfl rfl (t124_E l0 l1 l2 l3 M lenR h)
-- TwoLeash.pieces(II)Z
abbrev q126 : MQ7 := (3, 1, 3, 9, 0, 0, 4)
abbrev R126 (sl : Nat) (sx : Nat → Int32) (d : Nat) (M0 : MM) (P : Int32 → MM → Prop) : Nat → LL → List VV → MM → Prop := RN 9 false (mS M0).length (mT M0) 0 0 sl sx (callX TBg sl sx (d + 6)) (rtW q126 M0 (PI P)) (as2 tb126)
def w126 (l0 : Nat) (l1 : Int32) (l2 : Int32) (M : MM) (P : Int32 → MM → Prop) : Prop := kd M l0 9 ∧ w62 l0 (1 : Int32) l1 l2 M (fun r2 M1 => kd M1 l0 9 ∧ (kd (sI M1 l0 10 r2) l0 9 ∧ (((mI (sI M1 l0 10 r2) l0 10) = 0 → (kd (sI M1 l0 10 r2) l0 9 ∧ (∃ a3, mR (sI M1 l0 10 r2) l0 5 = some a3 ∧ (inb (sI M1 l0 10 r2) a3 16 l1 ∧ (kd (sI M1 l0 10 r2) l0 9 ∧ (∃ a4, mR (sI M1 l0 10 r2) l0 5 = some a4 ∧ (inb (sI M1 l0 10 r2) a4 16 l2 ∧ (kd (sI M1 l0 10 r2) l0 9 ∧ w125 l0 (mR (sI M1 l0 10 r2) a3 l1.toNatClampNeg) (mR (sI M1 l0 10 r2) a4 l2.toNatClampNeg) (sI M1 l0 10 r2) (fun r6 M5 => kd M5 l0 9 ∧ (kd M5 l0 9 ∧ w55 l0 (mR M5 l0 13) M5 (fun r8 M7 => (r8 = 0 ∨ r8 = 1) ∧ P r8 M7))))))))))) ∧ (¬ ((mI (sI M1 l0 10 r2) l0 10) = 0) → (P (0 : Int32) (sI M1 l0 10 r2))))))
theorem t126_E {sl : Nat} {sx : Nat → Int32} {d : Nat} {M0 : MM} {P : Int32 → MM → Prop} (l0 : Nat) (l1 : Int32) (l2 : Int32) (M : MM) (hM : lenO M0 M) (h : w126  l0 l1 l2 M P) : R126 sl sx d M0 P 0 [some (vR (some l0)), some (vI l1), some (vI l2)] [] M := by
  refine RN_k (callX_det _) 6 _ _ _ _ (show kd M l0 9 ∧ callX TBg sl sx (d + 6) 62 [vR (some l0), vI (1 : Int32), vI l1, vI l2] M (fun v M9 => R126 sl sx d M0 P 8 [some (vR (some l0)), some (vI l1), some (vI l2)] (pushO v [vR (some l0)]) M9) from ⟨h.1, ?_⟩)
  replace h := h.2
  refine callX_mono (callX_len (d := (d + 6)) rfl rfl rfl (c62 (d := d + 4) h)) ?_
  clear h
  rintro v9 M1 ⟨hl, r2, rfl, h⟩
  replace hM := lenT hM hl
  show R126 sl sx d M0 P 8 [some (vR (some l0)), some (vI l1), some (vI l2)] [vI r2, vR (some l0)] M1
  refine RN_k (callX_det _) 1 _ _ _ _ (show kd M1 l0 9 ∧ R126 sl sx d M0 P 11 [some (vR (some l0)), some (vI l1), some (vI l2)] [] (sI M1 l0 10 r2) from ⟨h.1, ?_⟩)
  replace h := h.2
  refine RN_k (callX_det _) 2 _ _ _ _ (show kd (sI M1 l0 10 r2) l0 9 ∧ R126 sl sx d M0 P 15 [some (vR (some l0)), some (vI l1), some (vI l2)] [vI (mI (sI M1 l0 10 r2) l0 10)] (sI M1 l0 10 r2) from ⟨h.1, ?_⟩)
  replace h := h.2
  refine RN_k (callX_det _) 1 _ _ _ _ (show ((mI (sI M1 l0 10 r2) l0 10) = 0 → R126 sl sx d M0 P 20 [some (vR (some l0)), some (vI l1), some (vI l2)] [] (sI M1 l0 10 r2)) ∧ (¬ ((mI (sI M1 l0 10 r2) l0 10) = 0) → R126 sl sx d M0 P 18 [some (vR (some l0)), some (vI l1), some (vI l2)] [] (sI M1 l0 10 r2)) from ⟨fun hc => ?_, fun hc => ?_⟩)
  · replace h := h.1 hc
    refine RN_k (callX_det _) 3 _ _ _ _ (show kd (sI M1 l0 10 r2) l0 9 ∧ R126 sl sx d M0 P 25 [some (vR (some l0)), some (vI l1), some (vI l2)] [vR (mR (sI M1 l0 10 r2) l0 5), vR (some l0)] (sI M1 l0 10 r2) from ⟨h.1, ?_⟩)
    replace h := h.2
    obtain ⟨a3, he, h⟩ := h
    refine RN_k (callX_det _) 1 _ _ _ _ (show R126 sl sx d M0 P 26 [some (vR (some l0)), some (vI l1), some (vI l2)] [vI l1, vR (mR (sI M1 l0 10 r2) l0 5), vR (some l0)] (sI M1 l0 10 r2) from ?_)
    rw [he]
    refine RN_k (callX_det _) 1 _ _ _ _ (show inb (sI M1 l0 10 r2) a3 16 l1 ∧ R126 sl sx d M0 P 27 [some (vR (some l0)), some (vI l1), some (vI l2)] [vR (mR (sI M1 l0 10 r2) a3 l1.toNatClampNeg), vR (some l0)] (sI M1 l0 10 r2) from ⟨h.1, ?_⟩)
    replace h := h.2
    refine RN_k (callX_det _) 2 _ _ _ _ (show kd (sI M1 l0 10 r2) l0 9 ∧ R126 sl sx d M0 P 31 [some (vR (some l0)), some (vI l1), some (vI l2)] [vR (mR (sI M1 l0 10 r2) l0 5), vR (mR (sI M1 l0 10 r2) a3 l1.toNatClampNeg), vR (some l0)] (sI M1 l0 10 r2) from ⟨h.1, ?_⟩)
    replace h := h.2
    obtain ⟨a4, he, h⟩ := h
    refine RN_k (callX_det _) 1 _ _ _ _ (show R126 sl sx d M0 P 32 [some (vR (some l0)), some (vI l1), some (vI l2)] [vI l2, vR (mR (sI M1 l0 10 r2) l0 5), vR (mR (sI M1 l0 10 r2) a3 l1.toNatClampNeg), vR (some l0)] (sI M1 l0 10 r2) from ?_)
    rw [he]
    refine RN_k (callX_det _) 1 _ _ _ _ (show inb (sI M1 l0 10 r2) a4 16 l2 ∧ R126 sl sx d M0 P 33 [some (vR (some l0)), some (vI l1), some (vI l2)] [vR (mR (sI M1 l0 10 r2) a4 l2.toNatClampNeg), vR (mR (sI M1 l0 10 r2) a3 l1.toNatClampNeg), vR (some l0)] (sI M1 l0 10 r2) from ⟨h.1, ?_⟩)
    replace h := h.2
    refine RN_k (callX_det _) 1 _ _ _ _ (show kd (sI M1 l0 10 r2) l0 9 ∧ callX TBg sl sx (d + 6) 125 [vR (some l0), vR (mR (sI M1 l0 10 r2) a3 l1.toNatClampNeg), vR (mR (sI M1 l0 10 r2) a4 l2.toNatClampNeg)] (sI M1 l0 10 r2) (fun v M9 => R126 sl sx d M0 P 36 [some (vR (some l0)), some (vI l1), some (vI l2)] (pushO v []) M9) from ⟨h.1, ?_⟩)
    replace h := h.2
    refine callX_mono (callX_len (d := (d + 6)) rfl rfl rfl (c125 (d := d) h)) ?_
    clear h
    rintro v9 M5 ⟨hl, r6, rfl, h⟩
    replace hM := lenT hM hl
    show R126 sl sx d M0 P 36 [some (vR (some l0)), some (vI l1), some (vI l2)] [vI r6] M5
    refine RN_k (callX_det _) 4 _ _ _ _ (show kd M5 l0 9 ∧ R126 sl sx d M0 P 42 [some (vR (some l0)), some (vI l1), some (vI l2)] [vR (mR M5 l0 13), vR (some l0)] M5 from ⟨h.1, ?_⟩)
    replace h := h.2
    refine RN_k (callX_det _) 1 _ _ _ _ (show kd M5 l0 9 ∧ callX TBg sl sx (d + 6) 55 [vR (some l0), vR (mR M5 l0 13)] M5 (fun v M9 => R126 sl sx d M0 P 45 [some (vR (some l0)), some (vI l1), some (vI l2)] (pushO v []) M9) from ⟨h.1, ?_⟩)
    replace h := h.2
    refine callX_mono (callX_len (d := (d + 6)) rfl rfl rfl (c55 (d := d + 4) h)) ?_
    clear h
    rintro v9 M7 ⟨hl, r8, rfl, h⟩
    replace hM := lenT hM hl
    show R126 sl sx d M0 P 45 [some (vR (some l0)), some (vI l1), some (vI l2)] [vI r8] M7
    exact RN_k (callX_det _) 1 _ _ _ _ (show rtW q126 M0 (PI P) (some (vI r8)) M7 from ⟨⟨_, rfl, h.1⟩, hM.1, hM.2, _, rfl, h.2⟩)
  · replace h := h.2 hc
    exact RN_k (callX_det _) 2 _ _ _ _ (show rtW q126 M0 (PI P) (some (vI (0 : Int32))) (sI M1 l0 10 r2) from ⟨⟨_, rfl, Or.inl rfl⟩, hM.1, hM.2, _, rfl, h⟩)
theorem c126 {sl : Nat} {sx : Nat → Int32} {d : Nat} {l0 : Nat} {l1 : Int32} {l2 : Int32} {M : MM} {P : Int32 → MM → Prop} (h : w126 l0 l1 l2 M P) : callX TBg sl sx (d + 7) 126 [vR (some l0), vI l1, vI l2] M (PI P) :=
  cX (d := d + 6) q126 (false, tb126) rfl rfl rfl (t126_E l0 l1 l2 M lenR h)
-- TwoLeash$Track.isAlike(II)Z
abbrev q128 : MQ7 := (3, 1, 3, 8, 0, 0, 4)
abbrev R128 (sl : Nat) (sx : Nat → Int32) (d : Nat) (M0 : MM) (P : Int32 → MM → Prop) : Nat → LL → List VV → MM → Prop := RN 8 false (mS M0).length (mT M0) 0 0 sl sx (callX TBg sl sx (d + 1)) (rtW q128 M0 (PI P)) (as2 tb128)
def w128_37 (s0 : Int32) (M : MM) (P : Int32 → MM → Prop) : Prop := (s0 = 0 ∨ s0 = 1) ∧ P s0 M
theorem t128_37 {sl : Nat} {sx : Nat → Int32} {d : Nat} {M0 : MM} {P : Int32 → MM → Prop} (s0 : Int32) (M : MM) (hM : lenO M0 M) (h : w128_37  s0 M P) : R128 sl sx d M0 P 37 [none, none, none] [vI s0] M := by
  exact RN_k (callX_det _) 1 _ _ _ _ (show rtW q128 M0 (PI P) (some (vI s0)) M from ⟨⟨_, rfl, h.1⟩, hM.1, hM.2, _, rfl, h.2⟩)
def w128_36 (M : MM) (P : Int32 → MM → Prop) : Prop := w128_37  (0 : Int32) M P
theorem t128_36 {sl : Nat} {sx : Nat → Int32} {d : Nat} {M0 : MM} {P : Int32 → MM → Prop}  (M : MM) (hM : lenO M0 M) (h : w128_36   M P) : R128 sl sx d M0 P 36 [none, none, none] [] M := by
  refine RN_k (callX_det _) 1 _ _ _ _ (show R128 sl sx d M0 P 37 [none, none, none] [vI (0 : Int32)] M from ?_)
  exact RN_weak (K := [none, none, none]) (callX_det _) (show True from trivial) (t128_37  (0 : Int32) _ hM h)
def w128 (l0 : Nat) (l1 : Int32) (l2 : Int32) (M : MM) (P : Int32 → MM → Prop) : Prop := (l2 < 0 → (w128_36  M P)) ∧ (¬ (l2 < 0) → (kd M l0 8 ∧ (((mI M l0 1) ≤ l2 → (w128_36  M P)) ∧ (¬ ((mI M l0 1) ≤ l2) → (kd M l0 8 ∧ (∃ a1, mR M l0 2 = some a1 ∧ (inb M a1 11 l2 ∧ (kd M l0 8 ∧ (∃ a2, mR M l0 3 = some a2 ∧ (inb M a2 11 l2 ∧ (kd M l0 8 ∧ w28 l0 l1 (mI M a1 l2.toNatClampNeg) (mI M a2 l2.toNatClampNeg) M (fun r4 M3 => (r4 = 0 → (w128_36  M3 P)) ∧ (¬ (r4 = 0) → (w128_37  (1 : Int32) M3 P))))))))))))))
theorem t128_E {sl : Nat} {sx : Nat → Int32} {d : Nat} {M0 : MM} {P : Int32 → MM → Prop} (l0 : Nat) (l1 : Int32) (l2 : Int32) (M : MM) (hM : lenO M0 M) (h : w128  l0 l1 l2 M P) : R128 sl sx d M0 P 0 [some (vR (some l0)), some (vI l1), some (vI l2)] [] M := by
  refine RN_k (callX_det _) 2 _ _ _ _ (show (l2 < 0 → R128 sl sx d M0 P 36 [some (vR (some l0)), some (vI l1), some (vI l2)] [] M) ∧ (¬ (l2 < 0) → R128 sl sx d M0 P 4 [some (vR (some l0)), some (vI l1), some (vI l2)] [] M) from ⟨fun hc => ?_, fun hc => ?_⟩)
  · replace h := h.1 hc
    exact RN_weak (K := [none, none, none]) (callX_det _) (show True from trivial) (t128_36   _ hM h)
  · replace h := h.2 hc
    refine RN_k (callX_det _) 3 _ _ _ _ (show kd M l0 8 ∧ R128 sl sx d M0 P 9 [some (vR (some l0)), some (vI l1), some (vI l2)] [vI (mI M l0 1), vI l2] M from ⟨h.1, ?_⟩)
    replace h := h.2
    refine RN_k (callX_det _) 1 _ _ _ _ (show ((mI M l0 1) ≤ l2 → R128 sl sx d M0 P 36 [some (vR (some l0)), some (vI l1), some (vI l2)] [] M) ∧ (¬ ((mI M l0 1) ≤ l2) → R128 sl sx d M0 P 12 [some (vR (some l0)), some (vI l1), some (vI l2)] [] M) from ⟨fun hc => ?_, fun hc => ?_⟩)
    · replace h := h.1 hc
      exact RN_weak (K := [none, none, none]) (callX_det _) (show True from trivial) (t128_36   _ hM h)
    · replace h := h.2 hc
      refine RN_k (callX_det _) 4 _ _ _ _ (show kd M l0 8 ∧ R128 sl sx d M0 P 18 [some (vR (some l0)), some (vI l1), some (vI l2)] [vR (mR M l0 2), vI l1, vR (some l0)] M from ⟨h.1, ?_⟩)
      replace h := h.2
      obtain ⟨a1, he, h⟩ := h
      refine RN_k (callX_det _) 1 _ _ _ _ (show R128 sl sx d M0 P 19 [some (vR (some l0)), some (vI l1), some (vI l2)] [vI l2, vR (mR M l0 2), vI l1, vR (some l0)] M from ?_)
      rw [he]
      refine RN_k (callX_det _) 1 _ _ _ _ (show inb M a1 11 l2 ∧ R128 sl sx d M0 P 20 [some (vR (some l0)), some (vI l1), some (vI l2)] [vI (mI M a1 l2.toNatClampNeg), vI l1, vR (some l0)] M from ⟨h.1, ?_⟩)
      replace h := h.2
      refine RN_k (callX_det _) 2 _ _ _ _ (show kd M l0 8 ∧ R128 sl sx d M0 P 24 [some (vR (some l0)), some (vI l1), some (vI l2)] [vR (mR M l0 3), vI (mI M a1 l2.toNatClampNeg), vI l1, vR (some l0)] M from ⟨h.1, ?_⟩)
      replace h := h.2
      obtain ⟨a2, he, h⟩ := h
      refine RN_k (callX_det _) 1 _ _ _ _ (show R128 sl sx d M0 P 25 [some (vR (some l0)), some (vI l1), some (vI l2)] [vI l2, vR (mR M l0 3), vI (mI M a1 l2.toNatClampNeg), vI l1, vR (some l0)] M from ?_)
      rw [he]
      refine RN_k (callX_det _) 1 _ _ _ _ (show inb M a2 11 l2 ∧ R128 sl sx d M0 P 26 [some (vR (some l0)), some (vI l1), some (vI l2)] [vI (mI M a2 l2.toNatClampNeg), vI (mI M a1 l2.toNatClampNeg), vI l1, vR (some l0)] M from ⟨h.1, ?_⟩)
      replace h := h.2
      refine RN_k (callX_det _) 1 _ _ _ _ (show kd M l0 8 ∧ callX TBg sl sx (d + 1) 28 [vR (some l0), vI l1, vI (mI M a1 l2.toNatClampNeg), vI (mI M a2 l2.toNatClampNeg)] M (fun v M9 => R128 sl sx d M0 P 29 [some (vR (some l0)), some (vI l1), some (vI l2)] (pushO v []) M9) from ⟨h.1, ?_⟩)
      replace h := h.2
      refine callX_mono (callX_len (d := (d + 1)) rfl rfl rfl (c28 (d := d) h)) ?_
      clear h
      rintro v9 M3 ⟨hl, r4, rfl, h⟩
      replace hM := lenT hM hl
      show R128 sl sx d M0 P 29 [some (vR (some l0)), some (vI l1), some (vI l2)] [vI r4] M3
      refine RN_k (callX_det _) 1 _ _ _ _ (show (r4 = 0 → R128 sl sx d M0 P 36 [some (vR (some l0)), some (vI l1), some (vI l2)] [] M3) ∧ (¬ (r4 = 0) → R128 sl sx d M0 P 32 [some (vR (some l0)), some (vI l1), some (vI l2)] [] M3) from ⟨fun hc => ?_, fun hc => ?_⟩)
      · replace h := h.1 hc
        exact RN_weak (K := [none, none, none]) (callX_det _) (show True from trivial) (t128_36   _ hM h)
      · replace h := h.2 hc
        refine RN_k (callX_det _) 2 _ _ _ _ (show R128 sl sx d M0 P 37 [some (vR (some l0)), some (vI l1), some (vI l2)] [vI (1 : Int32)] M3 from ?_)
        exact RN_weak (K := [none, none, none]) (callX_det _) (show True from trivial) (t128_37  (1 : Int32) _ hM h)
theorem c128 {sl : Nat} {sx : Nat → Int32} {d : Nat} {l0 : Nat} {l1 : Int32} {l2 : Int32} {M : MM} {P : Int32 → MM → Prop} (h : w128 l0 l1 l2 M P) : callX TBg sl sx (d + 2) 128 [vR (some l0), vI l1, vI l2] M (PI P) :=
  cX (d := d + 1) q128 (false, tb128) rfl rfl rfl (t128_E l0 l1 l2 M lenR h)
-- TwoLeash$Track.copyBegun(LTwoLeash$Track;I)V
abbrev q129 : MQ7 := (3, 1, 4, 8, 0, 0, 0)
abbrev R129 (sl : Nat) (sx : Nat → Int32) (d : Nat) (M0 : MM) (P : MM → Prop) : Nat → LL → List VV → MM → Prop := RN 8 false (mS M0).length (mT M0) 0 0 sl sx (callX TBg sl sx (d + 2)) (rtW q129 M0 (PV P)) (as2 tb129)
def w129_49 (M : MM) (P : MM → Prop) : Prop := P M
theorem t129_49 {sl : Nat} {sx : Nat → Int32} {d : Nat} {M0 : MM} {P : MM → Prop}  (M : MM) (hM : lenO M0 M) (h : w129_49   M P) : R129 sl sx d M0 P 49 [none, none, none, none] [] M := by
  exact RN_k (callX_det _) 1 _ _ _ _ (show rtW q129 M0 (PV P) none M from ⟨rfl, hM.1, hM.2, rfl, h⟩)
def w129_14 : Nat → Nat → Option Nat → Int32 → Int32 → MM → (MM → Prop) → Prop
  | 0 => fun _ _ _ _ _ _ => False
  | n + 1 => fun l0 l1 l2 l3 M P => (l2 < l3 → (w129_49  M P)) ∧ (¬ (l2 < l3) → (∃ a1, l1 = some a1 ∧ (kd M a1 8 ∧ (((mI M a1 1) ≤ l3 → (w129_49  M P)) ∧ (¬ ((mI M a1 1) ≤ l3) → (kd M a1 8 ∧ (∃ a2, mR M a1 2 = some a2 ∧ (inb M a2 11 l3 ∧ (kd M a1 8 ∧ (∃ a3, mR M a1 3 = some a3 ∧ (inb M a3 11 l3 ∧ (kd M l0 8 ∧ w29 l0 (mI M a2 l3.toNatClampNeg) (mI M a3 l3.toNatClampNeg) M (fun M4 => w129_14  n l0 (some a1) l2 (l3 + (1 : Int32)) M4 P)))))))))))))
theorem t129_14 {sl : Nat} {sx : Nat → Int32} {d : Nat} {M0 : MM} {P : MM → Prop} (n : Nat) : ∀ (l0 : Nat) (l1 : Option Nat) (l2 : Int32) (l3 : Int32) (M : MM) (_ : lenO M0 M) (_ : w129_14  n l0 l1 l2 l3 M P), R129 sl sx d M0 P 14 [some (vR (some l0)), some (vR l1), some (vI l2), some (vI l3)] [] M := by
  induction n with
  | zero => intro l0 l1 l2 l3 M hM h; cases h
  | succ n ih =>
    intro l0 l1 l2 l3 M hM h
    refine RN_k (callX_det _) 3 _ _ _ _ (show (l2 < l3 → R129 sl sx d M0 P 49 [some (vR (some l0)), some (vR l1), some (vI l2), some (vI l3)] [] M) ∧ (¬ (l2 < l3) → R129 sl sx d M0 P 19 [some (vR (some l0)), some (vR l1), some (vI l2), some (vI l3)] [] M) from ⟨fun hc => ?_, fun hc => ?_⟩)
    · replace h := h.1 hc
      exact RN_weak (K := [none, none, none, none]) (callX_det _) (show True from trivial) (t129_49   _ hM h)
    · replace h := h.2 hc
      obtain ⟨a1, he, h⟩ := h
      refine RN_k (callX_det _) 2 _ _ _ _ (show R129 sl sx d M0 P 21 [some (vR (some l0)), some (vR l1), some (vI l2), some (vI l3)] [vR l1, vI l3] M from ?_)
      subst he
      refine RN_k (callX_det _) 1 _ _ _ _ (show kd M a1 8 ∧ R129 sl sx d M0 P 24 [some (vR (some l0)), some (vR (some a1)), some (vI l2), some (vI l3)] [vI (mI M a1 1), vI l3] M from ⟨h.1, ?_⟩)
      replace h := h.2
      refine RN_k (callX_det _) 1 _ _ _ _ (show ((mI M a1 1) ≤ l3 → R129 sl sx d M0 P 49 [some (vR (some l0)), some (vR (some a1)), some (vI l2), some (vI l3)] [] M) ∧ (¬ ((mI M a1 1) ≤ l3) → R129 sl sx d M0 P 27 [some (vR (some l0)), some (vR (some a1)), some (vI l2), some (vI l3)] [] M) from ⟨fun hc => ?_, fun hc => ?_⟩)
      · replace h := h.1 hc
        exact RN_weak (K := [none, none, none, none]) (callX_det _) (show True from trivial) (t129_49   _ hM h)
      · replace h := h.2 hc
        refine RN_k (callX_det _) 3 _ _ _ _ (show kd M a1 8 ∧ R129 sl sx d M0 P 32 [some (vR (some l0)), some (vR (some a1)), some (vI l2), some (vI l3)] [vR (mR M a1 2), vR (some l0)] M from ⟨h.1, ?_⟩)
        replace h := h.2
        obtain ⟨a2, he, h⟩ := h
        refine RN_k (callX_det _) 1 _ _ _ _ (show R129 sl sx d M0 P 33 [some (vR (some l0)), some (vR (some a1)), some (vI l2), some (vI l3)] [vI l3, vR (mR M a1 2), vR (some l0)] M from ?_)
        rw [he]
        refine RN_k (callX_det _) 1 _ _ _ _ (show inb M a2 11 l3 ∧ R129 sl sx d M0 P 34 [some (vR (some l0)), some (vR (some a1)), some (vI l2), some (vI l3)] [vI (mI M a2 l3.toNatClampNeg), vR (some l0)] M from ⟨h.1, ?_⟩)
        replace h := h.2
        refine RN_k (callX_det _) 2 _ _ _ _ (show kd M a1 8 ∧ R129 sl sx d M0 P 38 [some (vR (some l0)), some (vR (some a1)), some (vI l2), some (vI l3)] [vR (mR M a1 3), vI (mI M a2 l3.toNatClampNeg), vR (some l0)] M from ⟨h.1, ?_⟩)
        replace h := h.2
        obtain ⟨a3, he, h⟩ := h
        refine RN_k (callX_det _) 1 _ _ _ _ (show R129 sl sx d M0 P 39 [some (vR (some l0)), some (vR (some a1)), some (vI l2), some (vI l3)] [vI l3, vR (mR M a1 3), vI (mI M a2 l3.toNatClampNeg), vR (some l0)] M from ?_)
        rw [he]
        refine RN_k (callX_det _) 1 _ _ _ _ (show inb M a3 11 l3 ∧ R129 sl sx d M0 P 40 [some (vR (some l0)), some (vR (some a1)), some (vI l2), some (vI l3)] [vI (mI M a3 l3.toNatClampNeg), vI (mI M a2 l3.toNatClampNeg), vR (some l0)] M from ⟨h.1, ?_⟩)
        replace h := h.2
        refine RN_k (callX_det _) 1 _ _ _ _ (show kd M l0 8 ∧ callX TBg sl sx (d + 2) 29 [vR (some l0), vI (mI M a2 l3.toNatClampNeg), vI (mI M a3 l3.toNatClampNeg)] M (fun v M9 => R129 sl sx d M0 P 43 [some (vR (some l0)), some (vR (some a1)), some (vI l2), some (vI l3)] (pushO v []) M9) from ⟨h.1, ?_⟩)
        replace h := h.2
        refine callX_mono (callX_len (d := (d + 2)) rfl rfl rfl (c29 (d := d + 1) h)) ?_
        clear h
        rintro v9 M4 ⟨hl, rfl, h⟩
        replace hM := lenT hM hl
        show R129 sl sx d M0 P 43 [some (vR (some l0)), some (vR (some a1)), some (vI l2), some (vI l3)] [] M4
        refine RN_k (callX_det _) 2 _ _ _ _ (show R129 sl sx d M0 P 14 [some (vR (some l0)), some (vR (some a1)), some (vI l2), some (vI (l3 + (1 : Int32)))] [] M4 from ?_)
        exact RN_weak (K := [some (vR (some l0)), some (vR (some a1)), some (vI l2), some (vI (l3 + (1 : Int32)))]) (callX_det _) (show _ ∧ _ ∧ _ ∧ _ ∧ True from ⟨rfl, rfl, rfl, rfl, trivial⟩) (ih l0 (some a1) l2 (l3 + (1 : Int32)) _ hM h)
def w129 (l0 : Nat) (l1 : Option Nat) (l2 : Int32) (M : MM) (P : MM → Prop) : Prop := ∃ a1, l1 = some a1 ∧ (kd M a1 8 ∧ (kd M l0 8 ∧ w32 l0 (some a1) l2 ((mI M a1 1) - (1 : Int32)) M (fun M2 => ∃ n2, w129_14  n2 l0 (some a1) l2 (1 : Int32) M2 P)))
theorem t129_E {sl : Nat} {sx : Nat → Int32} {d : Nat} {M0 : MM} {P : MM → Prop} (l0 : Nat) (l1 : Option Nat) (l2 : Int32) (M : MM) (hM : lenO M0 M) (h : w129  l0 l1 l2 M P) : R129 sl sx d M0 P 0 [some (vR (some l0)), some (vR l1), some (vI l2), none] [] M := by
  obtain ⟨a1, he, h⟩ := h
  refine RN_k (callX_det _) 4 _ _ _ _ (show R129 sl sx d M0 P 4 [some (vR (some l0)), some (vR l1), some (vI l2), none] [vR l1, vI l2, vR l1, vR (some l0)] M from ?_)
  subst he
  refine RN_k (callX_det _) 1 _ _ _ _ (show kd M a1 8 ∧ R129 sl sx d M0 P 7 [some (vR (some l0)), some (vR (some a1)), some (vI l2), none] [vI (mI M a1 1), vI l2, vR (some a1), vR (some l0)] M from ⟨h.1, ?_⟩)
  replace h := h.2
  refine RN_k (callX_det _) 3 _ _ _ _ (show kd M l0 8 ∧ callX TBg sl sx (d + 2) 32 [vR (some l0), vR (some a1), vI l2, vI ((mI M a1 1) - (1 : Int32))] M (fun v M9 => R129 sl sx d M0 P 12 [some (vR (some l0)), some (vR (some a1)), some (vI l2), none] (pushO v []) M9) from ⟨h.1, ?_⟩)
  replace h := h.2
  refine callX_mono (callX_len (d := (d + 2)) rfl rfl rfl (c32 (d := d) h)) ?_
  clear h
  rintro v9 M2 ⟨hl, rfl, h⟩
  replace hM := lenT hM hl
  show R129 sl sx d M0 P 12 [some (vR (some l0)), some (vR (some a1)), some (vI l2), none] [] M2
  refine RN_k (callX_det _) 2 _ _ _ _ (show R129 sl sx d M0 P 14 [some (vR (some l0)), some (vR (some a1)), some (vI l2), some (vI (1 : Int32))] [] M2 from ?_)
  obtain ⟨n2, h⟩ := h
  exact RN_weak (K := [some (vR (some l0)), some (vR (some a1)), some (vI l2), some (vI (1 : Int32))]) (callX_det _) (show _ ∧ _ ∧ _ ∧ _ ∧ True from ⟨rfl, rfl, rfl, rfl, trivial⟩) (t129_14  n2 l0 (some a1) l2 (1 : Int32) _ hM h)
theorem c129 {sl : Nat} {sx : Nat → Int32} {d : Nat} {l0 : Nat} {l1 : Option Nat} {l2 : Int32} {M : MM} {P : MM → Prop} (h : w129 l0 l1 l2 M P) : callX TBg sl sx (d + 3) 129 [vR (some l0), vR l1, vI l2] M (PV P) :=
  cX (d := d + 2) q129 (false, tb129) rfl rfl rfl (t129_E l0 l1 l2 M lenR h)
-- TwoLeash.ring(II)I
abbrev q127 : MQ7 := (3, 1, 6, 9, 0, 0, 1)
abbrev R127 (sl : Nat) (sx : Nat → Int32) (d : Nat) (M0 : MM) (P : Int32 → MM → Prop) : Nat → LL → List VV → MM → Prop := RN 9 false (mS M0).length (mT M0) 0 0 sl sx (callX TBg sl sx (d + 5)) (rtW q127 M0 (PI P)) (as2 tb127)
def w127_131 (k53 : Nat → Int32 → Option Nat → Int32 → Int32 → MM → Prop) (l0 : Nat) (l1 : Int32) (l3 : Option Nat) (l4 : Int32) (l5 : Int32) (M : MM) (P : Int32 → MM → Prop) : Prop := k53 l0 l1 l3 l4 (l5 + (1 : Int32)) M
theorem t127_131 {sl : Nat} {sx : Nat → Int32} {d : Nat} {M0 : MM} {P : Int32 → MM → Prop} {k53 : Nat → Int32 → Option Nat → Int32 → Int32 → MM → Prop} (hk53 : ∀ (l0 : Nat) (l1 : Int32) (l3 : Option Nat) (l4 : Int32) (l5 : Int32) (M : MM), lenO M0 M → k53 l0 l1 l3 l4 l5 M → R127 sl sx d M0 P 53 [some (vR (some l0)), some (vI l1), none, some (vR l3), some (vI l4), some (vI l5)] [] M) (l0 : Nat) (l1 : Int32) (l3 : Option Nat) (l4 : Int32) (l5 : Int32) (M : MM) (hM : lenO M0 M) (h : w127_131 k53 l0 l1 l3 l4 l5 M P) : R127 sl sx d M0 P 131 [some (vR (some l0)), some (vI l1), none, some (vR l3), some (vI l4), some (vI l5)] [] M := by
  refine RN_k (callX_det _) 2 _ _ _ _ (show R127 sl sx d M0 P 53 [some (vR (some l0)), some (vI l1), none, some (vR l3), some (vI l4), some (vI (l5 + (1 : Int32)))] [] M from ?_)
  exact RN_weak (K := [some (vR (some l0)), some (vI l1), none, some (vR l3), some (vI l4), some (vI (l5 + (1 : Int32)))]) (callX_det _) (show _ ∧ _ ∧ _ ∧ _ ∧ _ ∧ True from ⟨rfl, rfl, rfl, rfl, rfl, trivial⟩) (hk53 l0 l1 l3 l4 (l5 + (1 : Int32)) _ hM h)
def w127_116 (k53 : Nat → Int32 → Option Nat → Int32 → Int32 → MM → Prop) (l0 : Nat) (l1 : Int32) (l3 : Option Nat) (l5 : Int32) (M : MM) (P : Int32 → MM → Prop) : Prop := kd M l0 9 ∧ (kd M l0 9 ∧ (∃ a1, mR M l0 13 = some a1 ∧ (kd M a1 3 ∧ w56 a1 (mR M l0 12) M (fun M2 => w127_131 k53 l0 l1 l3 l5 l5 M2 P))))
theorem t127_116 {sl : Nat} {sx : Nat → Int32} {d : Nat} {M0 : MM} {P : Int32 → MM → Prop} {k53 : Nat → Int32 → Option Nat → Int32 → Int32 → MM → Prop} (hk53 : ∀ (l0 : Nat) (l1 : Int32) (l3 : Option Nat) (l4 : Int32) (l5 : Int32) (M : MM), lenO M0 M → k53 l0 l1 l3 l4 l5 M → R127 sl sx d M0 P 53 [some (vR (some l0)), some (vI l1), none, some (vR l3), some (vI l4), some (vI l5)] [] M) (l0 : Nat) (l1 : Int32) (l3 : Option Nat) (l5 : Int32) (M : MM) (hM : lenO M0 M) (h : w127_116 k53 l0 l1 l3 l5 M P) : R127 sl sx d M0 P 116 [some (vR (some l0)), some (vI l1), none, some (vR l3), none, some (vI l5)] [] M := by
  refine RN_k (callX_det _) 4 _ _ _ _ (show kd M l0 9 ∧ R127 sl sx d M0 P 124 [some (vR (some l0)), some (vI l1), none, some (vR l3), some (vI l5), some (vI l5)] [vR (mR M l0 13)] M from ⟨h.1, ?_⟩)
  replace h := h.2
  refine RN_k (callX_det _) 2 _ _ _ _ (show kd M l0 9 ∧ R127 sl sx d M0 P 128 [some (vR (some l0)), some (vI l1), none, some (vR l3), some (vI l5), some (vI l5)] [vR (mR M l0 12), vR (mR M l0 13)] M from ⟨h.1, ?_⟩)
  replace h := h.2
  obtain ⟨a1, he, h⟩ := h
  rw [he]
  refine RN_k (callX_det _) 1 _ _ _ _ (show kd M a1 3 ∧ callX TBg sl sx (d + 5) 56 [vR (some a1), vR (mR M l0 12)] M (fun v M9 => R127 sl sx d M0 P 131 [some (vR (some l0)), some (vI l1), none, some (vR l3), some (vI l5), some (vI l5)] (pushO v []) M9) from ⟨h.1, ?_⟩)
  replace h := h.2
  refine callX_mono (callX_len (d := (d + 5)) rfl rfl rfl (c56 (d := d + 4) h)) ?_
  clear h
  rintro v9 M2 ⟨hl, rfl, h⟩
  replace hM := lenT hM hl
  show R127 sl sx d M0 P 131 [some (vR (some l0)), some (vI l1), none, some (vR l3), some (vI l5), some (vI l5)] [] M2
  exact RN_weak (K := [some (vR (some l0)), some (vI l1), none, some (vR l3), some (vI l5), some (vI l5)]) (callX_det _) (show _ ∧ _ ∧ _ ∧ _ ∧ _ ∧ True from ⟨rfl, rfl, rfl, rfl, rfl, trivial⟩) (t127_131 hk53 l0 l1 l3 l5 l5 _ hM h)
def w127_53 : Nat → Nat → Int32 → Option Nat → Int32 → Int32 → MM → (Int32 → MM → Prop) → Prop
  | 0 => fun _ _ _ _ _ _ _ => False
  | n + 1 => fun l0 l1 l3 l4 l5 M P => ∃ a1, l3 = some a1 ∧ (kd M a1 8 ∧ (((mI M a1 1) ≤ (l5 + (1 : Int32)) → (kd M l0 9 ∧ (kd M l0 9 ∧ w55 l0 (mR M l0 13) M (fun r3 M2 => P l4 M2)))) ∧ (¬ ((mI M a1 1) ≤ (l5 + (1 : Int32))) → (kd M l0 9 ∧ (∃ a4, mR M l0 17 = some a4 ∧ (kd M a4 8 ∧ w129 a4 (some a1) l5 M (fun M5 => kd M5 l0 9 ∧ (kd M5 l0 9 ∧ (∃ a6, mR M5 l0 5 = some a6 ∧ (inb M5 a6 16 l1 ∧ (kd M5 l0 9 ∧ (kd M5 l0 9 ∧ (∃ a7, mR M5 l0 15 = some a7 ∧ (kd M5 a7 5 ∧ w106 a7 (mR M5 a6 l1.toNatClampNeg) (mR M5 l0 17) (0 : Int32) (mR M5 l0 12) M5 (fun M8 => (l4 = (-1 : Int32) → (w127_116 (fun z0 z1 z2 z3 z4 z5 => w127_53  n z0 z1 z2 z3 z4 z5 P) l0 l1 (some a1) l5 M8 P)) ∧ (¬ (l4 = (-1 : Int32)) → (kd M8 l0 9 ∧ (kd M8 l0 9 ∧ (∃ a9, mR M8 l0 12 = some a9 ∧ (kd M8 a9 3 ∧ w63 a9 (mR M8 l0 13) M8 (fun r11 M10 => (r11 = 0 → (w127_131 (fun z0 z1 z2 z3 z4 z5 => w127_53  n z0 z1 z2 z3 z4 z5 P) l0 l1 (some a1) l4 l5 M10 P)) ∧ (¬ (r11 = 0) → (w127_116 (fun z0 z1 z2 z3 z4 z5 => w127_53  n z0 z1 z2 z3 z4 z5 P) l0 l1 (some a1) l5 M10 P)))))))))))))))))))))))
theorem t127_53 {sl : Nat} {sx : Nat → Int32} {d : Nat} {M0 : MM} {P : Int32 → MM → Prop} (n : Nat) : ∀ (l0 : Nat) (l1 : Int32) (l3 : Option Nat) (l4 : Int32) (l5 : Int32) (M : MM) (_ : lenO M0 M) (_ : w127_53  n l0 l1 l3 l4 l5 M P), R127 sl sx d M0 P 53 [some (vR (some l0)), some (vI l1), none, some (vR l3), some (vI l4), some (vI l5)] [] M := by
  induction n with
  | zero => intro l0 l1 l3 l4 l5 M hM h; cases h
  | succ n ih =>
    intro l0 l1 l3 l4 l5 M hM h
    obtain ⟨a1, he, h⟩ := h
    refine RN_k (callX_det _) 4 _ _ _ _ (show R127 sl sx d M0 P 58 [some (vR (some l0)), some (vI l1), none, some (vR l3), some (vI l4), some (vI l5)] [vR l3, vI (l5 + (1 : Int32))] M from ?_)
    subst he
    refine RN_k (callX_det _) 1 _ _ _ _ (show kd M a1 8 ∧ R127 sl sx d M0 P 61 [some (vR (some l0)), some (vI l1), none, some (vR (some a1)), some (vI l4), some (vI l5)] [vI (mI M a1 1), vI (l5 + (1 : Int32))] M from ⟨h.1, ?_⟩)
    replace h := h.2
    refine RN_k (callX_det _) 1 _ _ _ _ (show ((mI M a1 1) ≤ (l5 + (1 : Int32)) → R127 sl sx d M0 P 137 [some (vR (some l0)), some (vI l1), none, some (vR (some a1)), some (vI l4), some (vI l5)] [] M) ∧ (¬ ((mI M a1 1) ≤ (l5 + (1 : Int32))) → R127 sl sx d M0 P 64 [some (vR (some l0)), some (vI l1), none, some (vR (some a1)), some (vI l4), some (vI l5)] [] M) from ⟨fun hc => ?_, fun hc => ?_⟩)
    · replace h := h.1 hc
      refine RN_k (callX_det _) 3 _ _ _ _ (show kd M l0 9 ∧ R127 sl sx d M0 P 142 [some (vR (some l0)), some (vI l1), none, some (vR (some a1)), some (vI l4), some (vI l5)] [vR (mR M l0 13), vR (some l0)] M from ⟨h.1, ?_⟩)
      replace h := h.2
      refine RN_k (callX_det _) 1 _ _ _ _ (show kd M l0 9 ∧ callX TBg sl sx (d + 5) 55 [vR (some l0), vR (mR M l0 13)] M (fun v M9 => R127 sl sx d M0 P 145 [some (vR (some l0)), some (vI l1), none, some (vR (some a1)), some (vI l4), some (vI l5)] (pushO v []) M9) from ⟨h.1, ?_⟩)
      replace h := h.2
      refine callX_mono (callX_len (d := (d + 5)) rfl rfl rfl (c55 (d := d + 3) h)) ?_
      clear h
      rintro v9 M2 ⟨hl, r3, rfl, h⟩
      replace hM := lenT hM hl
      show R127 sl sx d M0 P 145 [some (vR (some l0)), some (vI l1), none, some (vR (some a1)), some (vI l4), some (vI l5)] [vI r3] M2
      exact RN_k (callX_det _) 3 _ _ _ _ (show rtW q127 M0 (PI P) (some (vI l4)) M2 from ⟨⟨_, rfl⟩, hM.1, hM.2, _, rfl, h⟩)
    · replace h := h.2 hc
      refine RN_k (callX_det _) 2 _ _ _ _ (show kd M l0 9 ∧ R127 sl sx d M0 P 68 [some (vR (some l0)), some (vI l1), none, some (vR (some a1)), some (vI l4), some (vI l5)] [vR (mR M l0 17)] M from ⟨h.1, ?_⟩)
      replace h := h.2
      obtain ⟨a4, he, h⟩ := h
      refine RN_k (callX_det _) 2 _ _ _ _ (show R127 sl sx d M0 P 71 [some (vR (some l0)), some (vI l1), none, some (vR (some a1)), some (vI l4), some (vI l5)] [vI l5, vR (some a1), vR (mR M l0 17)] M from ?_)
      rw [he]
      refine RN_k (callX_det _) 1 _ _ _ _ (show kd M a4 8 ∧ callX TBg sl sx (d + 5) 129 [vR (some a4), vR (some a1), vI l5] M (fun v M9 => R127 sl sx d M0 P 74 [some (vR (some l0)), some (vI l1), none, some (vR (some a1)), some (vI l4), some (vI l5)] (pushO v []) M9) from ⟨h.1, ?_⟩)
      replace h := h.2
      refine callX_mono (callX_len (d := (d + 5)) rfl rfl rfl (c129 (d := d + 2) h)) ?_
      clear h
      rintro v9 M5 ⟨hl, rfl, h⟩
      replace hM := lenT hM hl
      show R127 sl sx d M0 P 74 [some (vR (some l0)), some (vI l1), none, some (vR (some a1)), some (vI l4), some (vI l5)] [] M5
      refine RN_k (callX_det _) 2 _ _ _ _ (show kd M5 l0 9 ∧ R127 sl sx d M0 P 78 [some (vR (some l0)), some (vI l1), none, some (vR (some a1)), some (vI l4), some (vI l5)] [vR (mR M5 l0 15)] M5 from ⟨h.1, ?_⟩)
      replace h := h.2
      refine RN_k (callX_det _) 2 _ _ _ _ (show kd M5 l0 9 ∧ R127 sl sx d M0 P 82 [some (vR (some l0)), some (vI l1), none, some (vR (some a1)), some (vI l4), some (vI l5)] [vR (mR M5 l0 5), vR (mR M5 l0 15)] M5 from ⟨h.1, ?_⟩)
      replace h := h.2
      obtain ⟨a6, he, h⟩ := h
      refine RN_k (callX_det _) 1 _ _ _ _ (show R127 sl sx d M0 P 83 [some (vR (some l0)), some (vI l1), none, some (vR (some a1)), some (vI l4), some (vI l5)] [vI l1, vR (mR M5 l0 5), vR (mR M5 l0 15)] M5 from ?_)
      rw [he]
      refine RN_k (callX_det _) 1 _ _ _ _ (show inb M5 a6 16 l1 ∧ R127 sl sx d M0 P 84 [some (vR (some l0)), some (vI l1), none, some (vR (some a1)), some (vI l4), some (vI l5)] [vR (mR M5 a6 l1.toNatClampNeg), vR (mR M5 l0 15)] M5 from ⟨h.1, ?_⟩)
      replace h := h.2
      refine RN_k (callX_det _) 2 _ _ _ _ (show kd M5 l0 9 ∧ R127 sl sx d M0 P 88 [some (vR (some l0)), some (vI l1), none, some (vR (some a1)), some (vI l4), some (vI l5)] [vR (mR M5 l0 17), vR (mR M5 a6 l1.toNatClampNeg), vR (mR M5 l0 15)] M5 from ⟨h.1, ?_⟩)
      replace h := h.2
      refine RN_k (callX_det _) 3 _ _ _ _ (show kd M5 l0 9 ∧ R127 sl sx d M0 P 93 [some (vR (some l0)), some (vI l1), none, some (vR (some a1)), some (vI l4), some (vI l5)] [vR (mR M5 l0 12), vI (0 : Int32), vR (mR M5 l0 17), vR (mR M5 a6 l1.toNatClampNeg), vR (mR M5 l0 15)] M5 from ⟨h.1, ?_⟩)
      replace h := h.2
      obtain ⟨a7, he, h⟩ := h
      rw [he]
      refine RN_k (callX_det _) 1 _ _ _ _ (show kd M5 a7 5 ∧ callX TBg sl sx (d + 5) 106 [vR (some a7), vR (mR M5 a6 l1.toNatClampNeg), vR (mR M5 l0 17), vI (0 : Int32), vR (mR M5 l0 12)] M5 (fun v M9 => R127 sl sx d M0 P 96 [some (vR (some l0)), some (vI l1), none, some (vR (some a1)), some (vI l4), some (vI l5)] (pushO v []) M9) from ⟨h.1, ?_⟩)
      replace h := h.2
      refine callX_mono (callX_len (d := (d + 5)) rfl rfl rfl (c106 (d := d) h)) ?_
      clear h
      rintro v9 M8 ⟨hl, rfl, h⟩
      replace hM := lenT hM hl
      show R127 sl sx d M0 P 96 [some (vR (some l0)), some (vI l1), none, some (vR (some a1)), some (vI l4), some (vI l5)] [] M8
      refine RN_k (callX_det _) 3 _ _ _ _ (show (l4 = (-1 : Int32) → R127 sl sx d M0 P 116 [some (vR (some l0)), some (vI l1), none, some (vR (some a1)), some (vI l4), some (vI l5)] [] M8) ∧ (¬ (l4 = (-1 : Int32)) → R127 sl sx d M0 P 102 [some (vR (some l0)), some (vI l1), none, some (vR (some a1)), some (vI l4), some (vI l5)] [] M8) from ⟨fun hc => ?_, fun hc => ?_⟩)
      · replace h := h.1 hc
        exact RN_weak (K := [some (vR (some l0)), some (vI l1), none, some (vR (some a1)), none, some (vI l5)]) (callX_det _) (show _ ∧ _ ∧ _ ∧ _ ∧ True from ⟨rfl, rfl, rfl, rfl, trivial⟩) (t127_116 ih l0 l1 (some a1) l5 _ hM h)
      · replace h := h.2 hc
        refine RN_k (callX_det _) 2 _ _ _ _ (show kd M8 l0 9 ∧ R127 sl sx d M0 P 106 [some (vR (some l0)), some (vI l1), none, some (vR (some a1)), some (vI l4), some (vI l5)] [vR (mR M8 l0 12)] M8 from ⟨h.1, ?_⟩)
        replace h := h.2
        refine RN_k (callX_det _) 2 _ _ _ _ (show kd M8 l0 9 ∧ R127 sl sx d M0 P 110 [some (vR (some l0)), some (vI l1), none, some (vR (some a1)), some (vI l4), some (vI l5)] [vR (mR M8 l0 13), vR (mR M8 l0 12)] M8 from ⟨h.1, ?_⟩)
        replace h := h.2
        obtain ⟨a9, he, h⟩ := h
        rw [he]
        refine RN_k (callX_det _) 1 _ _ _ _ (show kd M8 a9 3 ∧ callX TBg sl sx (d + 5) 63 [vR (some a9), vR (mR M8 l0 13)] M8 (fun v M9 => R127 sl sx d M0 P 113 [some (vR (some l0)), some (vI l1), none, some (vR (some a1)), some (vI l4), some (vI l5)] (pushO v []) M9) from ⟨h.1, ?_⟩)
        replace h := h.2
        refine callX_mono (callX_len (d := (d + 5)) rfl rfl rfl (c63 (d := d + 4) h)) ?_
        clear h
        rintro v9 M10 ⟨hl, r11, rfl, h⟩
        replace hM := lenT hM hl
        show R127 sl sx d M0 P 113 [some (vR (some l0)), some (vI l1), none, some (vR (some a1)), some (vI l4), some (vI l5)] [vI r11] M10
        refine RN_k (callX_det _) 1 _ _ _ _ (show (r11 = 0 → R127 sl sx d M0 P 131 [some (vR (some l0)), some (vI l1), none, some (vR (some a1)), some (vI l4), some (vI l5)] [] M10) ∧ (¬ (r11 = 0) → R127 sl sx d M0 P 116 [some (vR (some l0)), some (vI l1), none, some (vR (some a1)), some (vI l4), some (vI l5)] [] M10) from ⟨fun hc => ?_, fun hc => ?_⟩)
        · replace h := h.1 hc
          exact RN_weak (K := [some (vR (some l0)), some (vI l1), none, some (vR (some a1)), some (vI l4), some (vI l5)]) (callX_det _) (show _ ∧ _ ∧ _ ∧ _ ∧ _ ∧ True from ⟨rfl, rfl, rfl, rfl, rfl, trivial⟩) (t127_131 ih l0 l1 (some a1) l4 l5 _ hM h)
        · replace h := h.2 hc
          exact RN_weak (K := [some (vR (some l0)), some (vI l1), none, some (vR (some a1)), none, some (vI l5)]) (callX_det _) (show _ ∧ _ ∧ _ ∧ _ ∧ True from ⟨rfl, rfl, rfl, rfl, trivial⟩) (t127_116 ih l0 l1 (some a1) l5 _ hM h)
def w127 (l0 : Nat) (l1 : Int32) (l2 : Int32) (M : MM) (P : Int32 → MM → Prop) : Prop := kd M l0 9 ∧ w62 l0 (1 : Int32) l1 l2 M (fun r2 M1 => kd M1 l0 9 ∧ (kd (sI M1 l0 10 r2) l0 9 ∧ (((mI (sI M1 l0 10 r2) l0 10) = 0 → (kd (sI M1 l0 10 r2) l0 9 ∧ (∃ a3, mR (sI M1 l0 10 r2) l0 5 = some a3 ∧ (inb (sI M1 l0 10 r2) a3 16 l2 ∧ (∃ a4, mR (sI M1 l0 10 r2) a3 l2.toNatClampNeg = some a4 ∧ (kd (sI M1 l0 10 r2) a4 8 ∧ (kd (sI M1 l0 10 r2) a4 8 ∧ w128 a4 (0 : Int32) ((mI (sI M1 l0 10 r2) a4 1) - (1 : Int32)) (sI M1 l0 10 r2) (fun r6 M5 => (r6 ≠ 0 → (∃ n2, w127_53  n2 l0 l1 (some a4) (-1 : Int32) (0 : Int32) M5 P)) ∧ (¬ (r6 ≠ 0) → (kd M5 l0 9 ∧ w17 l0 (5 : Int32) M5 (fun r8 M7 => P r8 M7))))))))))) ∧ (¬ ((mI (sI M1 l0 10 r2) l0 10) = 0) → (P (-1 : Int32) (sI M1 l0 10 r2))))))
theorem t127_E {sl : Nat} {sx : Nat → Int32} {d : Nat} {M0 : MM} {P : Int32 → MM → Prop} (l0 : Nat) (l1 : Int32) (l2 : Int32) (M : MM) (hM : lenO M0 M) (h : w127  l0 l1 l2 M P) : R127 sl sx d M0 P 0 [some (vR (some l0)), some (vI l1), some (vI l2), none, none, none] [] M := by
  refine RN_k (callX_det _) 6 _ _ _ _ (show kd M l0 9 ∧ callX TBg sl sx (d + 5) 62 [vR (some l0), vI (1 : Int32), vI l1, vI l2] M (fun v M9 => R127 sl sx d M0 P 8 [some (vR (some l0)), some (vI l1), some (vI l2), none, none, none] (pushO v [vR (some l0)]) M9) from ⟨h.1, ?_⟩)
  replace h := h.2
  refine callX_mono (callX_len (d := (d + 5)) rfl rfl rfl (c62 (d := d + 3) h)) ?_
  clear h
  rintro v9 M1 ⟨hl, r2, rfl, h⟩
  replace hM := lenT hM hl
  show R127 sl sx d M0 P 8 [some (vR (some l0)), some (vI l1), some (vI l2), none, none, none] [vI r2, vR (some l0)] M1
  refine RN_k (callX_det _) 1 _ _ _ _ (show kd M1 l0 9 ∧ R127 sl sx d M0 P 11 [some (vR (some l0)), some (vI l1), some (vI l2), none, none, none] [] (sI M1 l0 10 r2) from ⟨h.1, ?_⟩)
  replace h := h.2
  refine RN_k (callX_det _) 2 _ _ _ _ (show kd (sI M1 l0 10 r2) l0 9 ∧ R127 sl sx d M0 P 15 [some (vR (some l0)), some (vI l1), some (vI l2), none, none, none] [vI (mI (sI M1 l0 10 r2) l0 10)] (sI M1 l0 10 r2) from ⟨h.1, ?_⟩)
  replace h := h.2
  refine RN_k (callX_det _) 1 _ _ _ _ (show ((mI (sI M1 l0 10 r2) l0 10) = 0 → R127 sl sx d M0 P 20 [some (vR (some l0)), some (vI l1), some (vI l2), none, none, none] [] (sI M1 l0 10 r2)) ∧ (¬ ((mI (sI M1 l0 10 r2) l0 10) = 0) → R127 sl sx d M0 P 18 [some (vR (some l0)), some (vI l1), some (vI l2), none, none, none] [] (sI M1 l0 10 r2)) from ⟨fun hc => ?_, fun hc => ?_⟩)
  · replace h := h.1 hc
    refine RN_k (callX_det _) 2 _ _ _ _ (show kd (sI M1 l0 10 r2) l0 9 ∧ R127 sl sx d M0 P 24 [some (vR (some l0)), some (vI l1), some (vI l2), none, none, none] [vR (mR (sI M1 l0 10 r2) l0 5)] (sI M1 l0 10 r2) from ⟨h.1, ?_⟩)
    replace h := h.2
    obtain ⟨a3, he, h⟩ := h
    refine RN_k (callX_det _) 1 _ _ _ _ (show R127 sl sx d M0 P 25 [some (vR (some l0)), some (vI l1), some (vI l2), none, none, none] [vI l2, vR (mR (sI M1 l0 10 r2) l0 5)] (sI M1 l0 10 r2) from ?_)
    rw [he]
    refine RN_k (callX_det _) 1 _ _ _ _ (show inb (sI M1 l0 10 r2) a3 16 l2 ∧ R127 sl sx d M0 P 26 [some (vR (some l0)), some (vI l1), some (vI l2), none, none, none] [vR (mR (sI M1 l0 10 r2) a3 l2.toNatClampNeg)] (sI M1 l0 10 r2) from ⟨h.1, ?_⟩)
    replace h := h.2
    obtain ⟨a4, he, h⟩ := h
    refine RN_k (callX_det _) 4 _ _ _ _ (show R127 sl sx d M0 P 30 [some (vR (some l0)), some (vI l1), some (vI l2), some (vR (mR (sI M1 l0 10 r2) a3 l2.toNatClampNeg)), none, none] [vR (mR (sI M1 l0 10 r2) a3 l2.toNatClampNeg), vI (0 : Int32), vR (mR (sI M1 l0 10 r2) a3 l2.toNatClampNeg)] (sI M1 l0 10 r2) from ?_)
    rw [he]
    refine RN_k (callX_det _) 1 _ _ _ _ (show kd (sI M1 l0 10 r2) a4 8 ∧ R127 sl sx d M0 P 33 [some (vR (some l0)), some (vI l1), some (vI l2), some (vR (some a4)), none, none] [vI (mI (sI M1 l0 10 r2) a4 1), vI (0 : Int32), vR (some a4)] (sI M1 l0 10 r2) from ⟨h.1, ?_⟩)
    replace h := h.2
    refine RN_k (callX_det _) 3 _ _ _ _ (show kd (sI M1 l0 10 r2) a4 8 ∧ callX TBg sl sx (d + 5) 128 [vR (some a4), vI (0 : Int32), vI ((mI (sI M1 l0 10 r2) a4 1) - (1 : Int32))] (sI M1 l0 10 r2) (fun v M9 => R127 sl sx d M0 P 38 [some (vR (some l0)), some (vI l1), some (vI l2), some (vR (some a4)), none, none] (pushO v []) M9) from ⟨h.1, ?_⟩)
    replace h := h.2
    refine callX_mono (callX_len (d := (d + 5)) rfl rfl rfl (c128 (d := d + 3) h)) ?_
    clear h
    rintro v9 M5 ⟨hl, r6, rfl, h⟩
    replace hM := lenT hM hl
    show R127 sl sx d M0 P 38 [some (vR (some l0)), some (vI l1), some (vI l2), some (vR (some a4)), none, none] [vI r6] M5
    refine RN_k (callX_det _) 1 _ _ _ _ (show (r6 ≠ 0 → R127 sl sx d M0 P 47 [some (vR (some l0)), some (vI l1), some (vI l2), some (vR (some a4)), none, none] [] M5) ∧ (¬ (r6 ≠ 0) → R127 sl sx d M0 P 41 [some (vR (some l0)), some (vI l1), some (vI l2), some (vR (some a4)), none, none] [] M5) from ⟨fun hc => ?_, fun hc => ?_⟩)
    · replace h := h.1 hc
      refine RN_k (callX_det _) 4 _ _ _ _ (show R127 sl sx d M0 P 53 [some (vR (some l0)), some (vI l1), some (vI l2), some (vR (some a4)), some (vI (-1 : Int32)), some (vI (0 : Int32))] [] M5 from ?_)
      obtain ⟨n2, h⟩ := h
      exact RN_weak (K := [some (vR (some l0)), some (vI l1), none, some (vR (some a4)), some (vI (-1 : Int32)), some (vI (0 : Int32))]) (callX_det _) (show _ ∧ _ ∧ _ ∧ _ ∧ _ ∧ True from ⟨rfl, rfl, rfl, rfl, rfl, trivial⟩) (t127_53  n2 l0 l1 (some a4) (-1 : Int32) (0 : Int32) _ hM h)
    · replace h := h.2 hc
      refine RN_k (callX_det _) 3 _ _ _ _ (show kd M5 l0 9 ∧ callX TBg sl sx (d + 5) 17 [vR (some l0), vI (5 : Int32)] M5 (fun v M9 => R127 sl sx d M0 P 46 [some (vR (some l0)), some (vI l1), some (vI l2), some (vR (some a4)), none, none] (pushO v []) M9) from ⟨h.1, ?_⟩)
      replace h := h.2
      refine callX_mono (callX_len (d := (d + 5)) rfl rfl rfl (c17 (d := d + 4) h)) ?_
      clear h
      rintro v9 M7 ⟨hl, r8, rfl, h⟩
      replace hM := lenT hM hl
      show R127 sl sx d M0 P 46 [some (vR (some l0)), some (vI l1), some (vI l2), some (vR (some a4)), none, none] [vI r8] M7
      exact RN_k (callX_det _) 1 _ _ _ _ (show rtW q127 M0 (PI P) (some (vI r8)) M7 from ⟨⟨_, rfl⟩, hM.1, hM.2, _, rfl, h⟩)
  · replace h := h.2 hc
    exact RN_k (callX_det _) 2 _ _ _ _ (show rtW q127 M0 (PI P) (some (vI (-1 : Int32))) (sI M1 l0 10 r2) from ⟨⟨_, rfl⟩, hM.1, hM.2, _, rfl, h⟩)
theorem c127 {sl : Nat} {sx : Nat → Int32} {d : Nat} {l0 : Nat} {l1 : Int32} {l2 : Int32} {M : MM} {P : Int32 → MM → Prop} (h : w127 l0 l1 l2 M P) : callX TBg sl sx (d + 6) 127 [vR (some l0), vI l1, vI l2] M (PI P) :=
  cX (d := d + 5) q127 (false, tb127) rfl rfl rfl (t127_E l0 l1 l2 M lenR h)
-- TwoLeash$Track.copyEnds(LTwoLeash$Track;)V
abbrev q132 : MQ7 := (2, 1, 2, 8, 0, 0, 0)
abbrev R132 (sl : Nat) (sx : Nat → Int32) (d : Nat) (M0 : MM) (P : MM → Prop) : Nat → LL → List VV → MM → Prop := RN 8 false (mS M0).length (mT M0) 0 0 sl sx (callX TBg sl sx (d + 1)) (rtW q132 M0 (PV P)) (as2 tb132)
def w132_57 (M : MM) (P : MM → Prop) : Prop := P M
theorem t132_57 {sl : Nat} {sx : Nat → Int32} {d : Nat} {M0 : MM} {P : MM → Prop}  (M : MM) (hM : lenO M0 M) (h : w132_57   M P) : R132 sl sx d M0 P 57 [none, none] [] M := by
  exact RN_k (callX_det _) 1 _ _ _ _ (show rtW q132 M0 (PV P) none M from ⟨rfl, hM.1, hM.2, rfl, h⟩)
def w132 (l0 : Nat) (l1 : Option Nat) (M : MM) (P : MM → Prop) : Prop := ∃ a1, l1 = some a1 ∧ (kd M a1 8 ∧ (kd M l0 8 ∧ w25 l0 (mL M a1 0) M (fun M2 => kd M2 a1 8 ∧ (((mI M2 a1 1) ≤ 0 → (w132_57  M2 P)) ∧ (¬ ((mI M2 a1 1) ≤ 0) → (kd M2 a1 8 ∧ (∃ a3, mR M2 a1 2 = some a3 ∧ (inb M2 a3 11 (0 : Int32) ∧ (kd M2 a1 8 ∧ (∃ a4, mR M2 a1 3 = some a4 ∧ (inb M2 a4 11 (0 : Int32) ∧ (kd M2 l0 8 ∧ w29 l0 (mI M2 a3 (0 : Int32).toNatClampNeg) (mI M2 a4 (0 : Int32).toNatClampNeg) M2 (fun M5 => kd M5 a1 8 ∧ (kd M5 a1 8 ∧ (∃ a6, mR M5 a1 2 = some a6 ∧ (inb M5 a6 11 ((mI M5 a1 1) - (1 : Int32)) ∧ (kd M5 a1 8 ∧ (kd M5 a1 8 ∧ (∃ a7, mR M5 a1 3 = some a7 ∧ (inb M5 a7 11 ((mI M5 a1 1) - (1 : Int32)) ∧ (kd M5 l0 8 ∧ w29 l0 (mI M5 a6 ((mI M5 a1 1) - (1 : Int32)).toNatClampNeg) (mI M5 a7 ((mI M5 a1 1) - (1 : Int32)).toNatClampNeg) M5 (fun M8 => w132_57  M8 P))))))))))))))))))))))
theorem t132_E {sl : Nat} {sx : Nat → Int32} {d : Nat} {M0 : MM} {P : MM → Prop} (l0 : Nat) (l1 : Option Nat) (M : MM) (hM : lenO M0 M) (h : w132  l0 l1 M P) : R132 sl sx d M0 P 0 [some (vR (some l0)), some (vR l1)] [] M := by
  obtain ⟨a1, he, h⟩ := h
  refine RN_k (callX_det _) 2 _ _ _ _ (show R132 sl sx d M0 P 2 [some (vR (some l0)), some (vR l1)] [vR l1, vR (some l0)] M from ?_)
  subst he
  refine RN_k (callX_det _) 1 _ _ _ _ (show kd M a1 8 ∧ R132 sl sx d M0 P 5 [some (vR (some l0)), some (vR (some a1))] [vL (mL M a1 0), vR (some l0)] M from ⟨h.1, ?_⟩)
  replace h := h.2
  refine RN_k (callX_det _) 1 _ _ _ _ (show kd M l0 8 ∧ callX TBg sl sx (d + 1) 25 [vR (some l0), vL (mL M a1 0)] M (fun v M9 => R132 sl sx d M0 P 8 [some (vR (some l0)), some (vR (some a1))] (pushO v []) M9) from ⟨h.1, ?_⟩)
  replace h := h.2
  refine callX_mono (callX_len (d := (d + 1)) rfl rfl rfl (c25 (d := d) h)) ?_
  clear h
  rintro v9 M2 ⟨hl, rfl, h⟩
  replace hM := lenT hM hl
  show R132 sl sx d M0 P 8 [some (vR (some l0)), some (vR (some a1))] [] M2
  refine RN_k (callX_det _) 2 _ _ _ _ (show kd M2 a1 8 ∧ R132 sl sx d M0 P 12 [some (vR (some l0)), some (vR (some a1))] [vI (mI M2 a1 1)] M2 from ⟨h.1, ?_⟩)
  replace h := h.2
  refine RN_k (callX_det _) 1 _ _ _ _ (show ((mI M2 a1 1) ≤ 0 → R132 sl sx d M0 P 57 [some (vR (some l0)), some (vR (some a1))] [] M2) ∧ (¬ ((mI M2 a1 1) ≤ 0) → R132 sl sx d M0 P 15 [some (vR (some l0)), some (vR (some a1))] [] M2) from ⟨fun hc => ?_, fun hc => ?_⟩)
  · replace h := h.1 hc
    exact RN_weak (K := [none, none]) (callX_det _) (show True from trivial) (t132_57   _ hM h)
  · replace h := h.2 hc
    refine RN_k (callX_det _) 3 _ _ _ _ (show kd M2 a1 8 ∧ R132 sl sx d M0 P 20 [some (vR (some l0)), some (vR (some a1))] [vR (mR M2 a1 2), vR (some l0)] M2 from ⟨h.1, ?_⟩)
    replace h := h.2
    obtain ⟨a3, he, h⟩ := h
    refine RN_k (callX_det _) 1 _ _ _ _ (show R132 sl sx d M0 P 21 [some (vR (some l0)), some (vR (some a1))] [vI (0 : Int32), vR (mR M2 a1 2), vR (some l0)] M2 from ?_)
    rw [he]
    refine RN_k (callX_det _) 1 _ _ _ _ (show inb M2 a3 11 (0 : Int32) ∧ R132 sl sx d M0 P 22 [some (vR (some l0)), some (vR (some a1))] [vI (mI M2 a3 (0 : Int32).toNatClampNeg), vR (some l0)] M2 from ⟨h.1, ?_⟩)
    replace h := h.2
    refine RN_k (callX_det _) 2 _ _ _ _ (show kd M2 a1 8 ∧ R132 sl sx d M0 P 26 [some (vR (some l0)), some (vR (some a1))] [vR (mR M2 a1 3), vI (mI M2 a3 (0 : Int32).toNatClampNeg), vR (some l0)] M2 from ⟨h.1, ?_⟩)
    replace h := h.2
    obtain ⟨a4, he, h⟩ := h
    refine RN_k (callX_det _) 1 _ _ _ _ (show R132 sl sx d M0 P 27 [some (vR (some l0)), some (vR (some a1))] [vI (0 : Int32), vR (mR M2 a1 3), vI (mI M2 a3 (0 : Int32).toNatClampNeg), vR (some l0)] M2 from ?_)
    rw [he]
    refine RN_k (callX_det _) 1 _ _ _ _ (show inb M2 a4 11 (0 : Int32) ∧ R132 sl sx d M0 P 28 [some (vR (some l0)), some (vR (some a1))] [vI (mI M2 a4 (0 : Int32).toNatClampNeg), vI (mI M2 a3 (0 : Int32).toNatClampNeg), vR (some l0)] M2 from ⟨h.1, ?_⟩)
    replace h := h.2
    refine RN_k (callX_det _) 1 _ _ _ _ (show kd M2 l0 8 ∧ callX TBg sl sx (d + 1) 29 [vR (some l0), vI (mI M2 a3 (0 : Int32).toNatClampNeg), vI (mI M2 a4 (0 : Int32).toNatClampNeg)] M2 (fun v M9 => R132 sl sx d M0 P 31 [some (vR (some l0)), some (vR (some a1))] (pushO v []) M9) from ⟨h.1, ?_⟩)
    replace h := h.2
    refine callX_mono (callX_len (d := (d + 1)) rfl rfl rfl (c29 (d := d) h)) ?_
    clear h
    rintro v9 M5 ⟨hl, rfl, h⟩
    replace hM := lenT hM hl
    show R132 sl sx d M0 P 31 [some (vR (some l0)), some (vR (some a1))] [] M5
    refine RN_k (callX_det _) 3 _ _ _ _ (show kd M5 a1 8 ∧ R132 sl sx d M0 P 36 [some (vR (some l0)), some (vR (some a1))] [vR (mR M5 a1 2), vR (some l0)] M5 from ⟨h.1, ?_⟩)
    replace h := h.2
    refine RN_k (callX_det _) 2 _ _ _ _ (show kd M5 a1 8 ∧ R132 sl sx d M0 P 40 [some (vR (some l0)), some (vR (some a1))] [vI (mI M5 a1 1), vR (mR M5 a1 2), vR (some l0)] M5 from ⟨h.1, ?_⟩)
    replace h := h.2
    obtain ⟨a6, he, h⟩ := h
    refine RN_k (callX_det _) 2 _ _ _ _ (show R132 sl sx d M0 P 42 [some (vR (some l0)), some (vR (some a1))] [vI ((mI M5 a1 1) - (1 : Int32)), vR (mR M5 a1 2), vR (some l0)] M5 from ?_)
    rw [he]
    refine RN_k (callX_det _) 1 _ _ _ _ (show inb M5 a6 11 ((mI M5 a1 1) - (1 : Int32)) ∧ R132 sl sx d M0 P 43 [some (vR (some l0)), some (vR (some a1))] [vI (mI M5 a6 ((mI M5 a1 1) - (1 : Int32)).toNatClampNeg), vR (some l0)] M5 from ⟨h.1, ?_⟩)
    replace h := h.2
    refine RN_k (callX_det _) 2 _ _ _ _ (show kd M5 a1 8 ∧ R132 sl sx d M0 P 47 [some (vR (some l0)), some (vR (some a1))] [vR (mR M5 a1 3), vI (mI M5 a6 ((mI M5 a1 1) - (1 : Int32)).toNatClampNeg), vR (some l0)] M5 from ⟨h.1, ?_⟩)
    replace h := h.2
    refine RN_k (callX_det _) 2 _ _ _ _ (show kd M5 a1 8 ∧ R132 sl sx d M0 P 51 [some (vR (some l0)), some (vR (some a1))] [vI (mI M5 a1 1), vR (mR M5 a1 3), vI (mI M5 a6 ((mI M5 a1 1) - (1 : Int32)).toNatClampNeg), vR (some l0)] M5 from ⟨h.1, ?_⟩)
    replace h := h.2
    obtain ⟨a7, he, h⟩ := h
    refine RN_k (callX_det _) 2 _ _ _ _ (show R132 sl sx d M0 P 53 [some (vR (some l0)), some (vR (some a1))] [vI ((mI M5 a1 1) - (1 : Int32)), vR (mR M5 a1 3), vI (mI M5 a6 ((mI M5 a1 1) - (1 : Int32)).toNatClampNeg), vR (some l0)] M5 from ?_)
    rw [he]
    refine RN_k (callX_det _) 1 _ _ _ _ (show inb M5 a7 11 ((mI M5 a1 1) - (1 : Int32)) ∧ R132 sl sx d M0 P 54 [some (vR (some l0)), some (vR (some a1))] [vI (mI M5 a7 ((mI M5 a1 1) - (1 : Int32)).toNatClampNeg), vI (mI M5 a6 ((mI M5 a1 1) - (1 : Int32)).toNatClampNeg), vR (some l0)] M5 from ⟨h.1, ?_⟩)
    replace h := h.2
    refine RN_k (callX_det _) 1 _ _ _ _ (show kd M5 l0 8 ∧ callX TBg sl sx (d + 1) 29 [vR (some l0), vI (mI M5 a6 ((mI M5 a1 1) - (1 : Int32)).toNatClampNeg), vI (mI M5 a7 ((mI M5 a1 1) - (1 : Int32)).toNatClampNeg)] M5 (fun v M9 => R132 sl sx d M0 P 57 [some (vR (some l0)), some (vR (some a1))] (pushO v []) M9) from ⟨h.1, ?_⟩)
    replace h := h.2
    refine callX_mono (callX_len (d := (d + 1)) rfl rfl rfl (c29 (d := d) h)) ?_
    clear h
    rintro v9 M8 ⟨hl, rfl, h⟩
    replace hM := lenT hM hl
    show R132 sl sx d M0 P 57 [some (vR (some l0)), some (vR (some a1))] [] M8
    exact RN_weak (K := [none, none]) (callX_det _) (show True from trivial) (t132_57   _ hM h)
theorem c132 {sl : Nat} {sx : Nat → Int32} {d : Nat} {l0 : Nat} {l1 : Option Nat} {M : MM} {P : MM → Prop} (h : w132 l0 l1 M P) : callX TBg sl sx (d + 2) 132 [vR (some l0), vR l1] M (PV P) :=
  cX (d := d + 1) q132 (false, tb132) rfl rfl rfl (t132_E l0 l1 M lenR h)
-- TwoLeash.stepsThatServe(LTwoLeash$Track;II)J
abbrev q131 : MQ7 := (4, 1, 8, 9, 0, 0, 2)
abbrev R131 (sl : Nat) (sx : Nat → Int32) (d : Nat) (M0 : MM) (P : Int64 → MM → Prop) : Nat → LL → List VV → MM → Prop := RN 9 false (mS M0).length (mT M0) 0 0 sl sx (callX TBg sl sx (d + 5)) (rtW q131 M0 (PL P)) (as2 tb131)
def w131_100 (k6 : Nat → Option Nat → Int32 → Int32 → Int64 → Int32 → MM → Prop) (k21 : Nat → Option Nat → Int32 → Int32 → Int64 → Int32 → Int32 → MM → Prop) (l0 : Nat) (l1 : Option Nat) (l2 : Int32) (l3 : Int32) (l4 : Int64) (l6 : Int32) (l7 : Int32) (M : MM) (P : Int64 → MM → Prop) : Prop := k21 l0 l1 l2 l3 l4 l6 (l7 + (1 : Int32)) M
theorem t131_100 {sl : Nat} {sx : Nat → Int32} {d : Nat} {M0 : MM} {P : Int64 → MM → Prop} {k6 : Nat → Option Nat → Int32 → Int32 → Int64 → Int32 → MM → Prop} {k21 : Nat → Option Nat → Int32 → Int32 → Int64 → Int32 → Int32 → MM → Prop} (hk6 : ∀ (l0 : Nat) (l1 : Option Nat) (l2 : Int32) (l3 : Int32) (l4 : Int64) (l6 : Int32) (M : MM), lenO M0 M → k6 l0 l1 l2 l3 l4 l6 M → R131 sl sx d M0 P 6 [some (vR (some l0)), some (vR l1), some (vI l2), some (vI l3), some (vL l4), none, some (vI l6), none] [] M) (hk21 : ∀ (l0 : Nat) (l1 : Option Nat) (l2 : Int32) (l3 : Int32) (l4 : Int64) (l6 : Int32) (l7 : Int32) (M : MM), lenO M0 M → k21 l0 l1 l2 l3 l4 l6 l7 M → R131 sl sx d M0 P 21 [some (vR (some l0)), some (vR l1), some (vI l2), some (vI l3), some (vL l4), none, some (vI l6), some (vI l7)] [] M) (l0 : Nat) (l1 : Option Nat) (l2 : Int32) (l3 : Int32) (l4 : Int64) (l6 : Int32) (l7 : Int32) (M : MM) (hM : lenO M0 M) (h : w131_100 k6 k21 l0 l1 l2 l3 l4 l6 l7 M P) : R131 sl sx d M0 P 100 [some (vR (some l0)), some (vR l1), some (vI l2), some (vI l3), some (vL l4), none, some (vI l6), some (vI l7)] [] M := by
  refine RN_k (callX_det _) 2 _ _ _ _ (show R131 sl sx d M0 P 21 [some (vR (some l0)), some (vR l1), some (vI l2), some (vI l3), some (vL l4), none, some (vI l6), some (vI (l7 + (1 : Int32)))] [] M from ?_)
  exact RN_weak (K := [some (vR (some l0)), some (vR l1), some (vI l2), some (vI l3), some (vL l4), none, some (vI l6), some (vI (l7 + (1 : Int32)))]) (callX_det _) (show _ ∧ _ ∧ _ ∧ _ ∧ _ ∧ _ ∧ _ ∧ True from ⟨rfl, rfl, rfl, rfl, rfl, rfl, rfl, trivial⟩) (hk21 l0 l1 l2 l3 l4 l6 (l7 + (1 : Int32)) _ hM h)
def w131_21 (k6 : Nat → Option Nat → Int32 → Int32 → Int64 → Int32 → MM → Prop) : Nat → Nat → Option Nat → Int32 → Int32 → Int64 → Int32 → Int32 → MM → (Int64 → MM → Prop) → Prop
  | 0 => fun _ _ _ _ _ _ _ _ _ => False
  | n + 1 => fun l0 l1 l2 l3 l4 l6 l7 M P => ∃ a1, l1 = some a1 ∧ (kd M a1 8 ∧ (((mI M a1 1) ≤ l7 → (k6 l0 (some a1) l2 l3 l4 (l6 + (1 : Int32)) M)) ∧ (¬ ((mI M a1 1) ≤ l7) → (kd M l0 9 ∧ (∃ a2, mR M l0 17 = some a2 ∧ (kd M a2 8 ∧ w32 a2 (some a1) l6 l7 M (fun M3 => kd M3 l0 9 ∧ (kd M3 l0 9 ∧ (∃ a4, mR M3 l0 18 = some a4 ∧ (kd M3 a4 8 ∧ w132 a4 (mR M3 l0 17) M3 (fun M5 => kd M5 a1 8 ∧ w128 a1 l6 l7 M5 (fun r7 M6 => (r7 ≠ 0 → (w131_100 k6 (fun z0 z1 z2 z3 z4 z5 z6 z7 => w131_21 k6 n z0 z1 z2 z3 z4 z5 z6 z7 P) l0 (some a1) l2 l3 l4 l6 l7 M6 P)) ∧ (¬ (r7 ≠ 0) → (kd M6 l0 9 ∧ (kd M6 l0 9 ∧ (kd M6 l0 9 ∧ (∃ a8, mR M6 l0 15 = some a8 ∧ (kd M6 a8 5 ∧ w95 a8 (mR M6 l0 18) (mR M6 l0 17) (0 : Int32) l2 l3 M6 (fun r10 M9 => (r10 = 0 → (w131_100 k6 (fun z0 z1 z2 z3 z4 z5 z6 z7 => w131_21 k6 n z0 z1 z2 z3 z4 z5 z6 z7 P) l0 (some a1) l2 l3 l4 l6 l7 M9 P)) ∧ (¬ (r10 = 0) → (w131_100 k6 (fun z0 z1 z2 z3 z4 z5 z6 z7 => w131_21 k6 n z0 z1 z2 z3 z4 z5 z6 z7 P) l0 (some a1) l2 l3 (l4 ||| ((1 : Int64) <<< (((l6 * (8 : Int32)) + l7).toInt64 &&& 63))) l6 l7 M9 P)))))))))))))))))))))
theorem t131_21 {sl : Nat} {sx : Nat → Int32} {d : Nat} {M0 : MM} {P : Int64 → MM → Prop} {k6 : Nat → Option Nat → Int32 → Int32 → Int64 → Int32 → MM → Prop} (hk6 : ∀ (l0 : Nat) (l1 : Option Nat) (l2 : Int32) (l3 : Int32) (l4 : Int64) (l6 : Int32) (M : MM), lenO M0 M → k6 l0 l1 l2 l3 l4 l6 M → R131 sl sx d M0 P 6 [some (vR (some l0)), some (vR l1), some (vI l2), some (vI l3), some (vL l4), none, some (vI l6), none] [] M) (n : Nat) : ∀ (l0 : Nat) (l1 : Option Nat) (l2 : Int32) (l3 : Int32) (l4 : Int64) (l6 : Int32) (l7 : Int32) (M : MM) (_ : lenO M0 M) (_ : w131_21 k6 n l0 l1 l2 l3 l4 l6 l7 M P), R131 sl sx d M0 P 21 [some (vR (some l0)), some (vR l1), some (vI l2), some (vI l3), some (vL l4), none, some (vI l6), some (vI l7)] [] M := by
  induction n with
  | zero => intro l0 l1 l2 l3 l4 l6 l7 M hM h; cases h
  | succ n ih =>
    intro l0 l1 l2 l3 l4 l6 l7 M hM h
    obtain ⟨a1, he, h⟩ := h
    refine RN_k (callX_det _) 2 _ _ _ _ (show R131 sl sx d M0 P 24 [some (vR (some l0)), some (vR l1), some (vI l2), some (vI l3), some (vL l4), none, some (vI l6), some (vI l7)] [vR l1, vI l7] M from ?_)
    subst he
    refine RN_k (callX_det _) 1 _ _ _ _ (show kd M a1 8 ∧ R131 sl sx d M0 P 27 [some (vR (some l0)), some (vR (some a1)), some (vI l2), some (vI l3), some (vL l4), none, some (vI l6), some (vI l7)] [vI (mI M a1 1), vI l7] M from ⟨h.1, ?_⟩)
    replace h := h.2
    refine RN_k (callX_det _) 1 _ _ _ _ (show ((mI M a1 1) ≤ l7 → R131 sl sx d M0 P 106 [some (vR (some l0)), some (vR (some a1)), some (vI l2), some (vI l3), some (vL l4), none, some (vI l6), some (vI l7)] [] M) ∧ (¬ ((mI M a1 1) ≤ l7) → R131 sl sx d M0 P 30 [some (vR (some l0)), some (vR (some a1)), some (vI l2), some (vI l3), some (vL l4), none, some (vI l6), some (vI l7)] [] M) from ⟨fun hc => ?_, fun hc => ?_⟩)
    · replace h := h.1 hc
      refine RN_k (callX_det _) 2 _ _ _ _ (show R131 sl sx d M0 P 6 [some (vR (some l0)), some (vR (some a1)), some (vI l2), some (vI l3), some (vL l4), none, some (vI (l6 + (1 : Int32))), some (vI l7)] [] M from ?_)
      exact RN_weak (K := [some (vR (some l0)), some (vR (some a1)), some (vI l2), some (vI l3), some (vL l4), none, some (vI (l6 + (1 : Int32))), none]) (callX_det _) (show _ ∧ _ ∧ _ ∧ _ ∧ _ ∧ _ ∧ True from ⟨rfl, rfl, rfl, rfl, rfl, rfl, trivial⟩) (hk6 l0 (some a1) l2 l3 l4 (l6 + (1 : Int32)) _ hM h)
    · replace h := h.2 hc
      refine RN_k (callX_det _) 2 _ _ _ _ (show kd M l0 9 ∧ R131 sl sx d M0 P 34 [some (vR (some l0)), some (vR (some a1)), some (vI l2), some (vI l3), some (vL l4), none, some (vI l6), some (vI l7)] [vR (mR M l0 17)] M from ⟨h.1, ?_⟩)
      replace h := h.2
      obtain ⟨a2, he, h⟩ := h
      refine RN_k (callX_det _) 3 _ _ _ _ (show R131 sl sx d M0 P 39 [some (vR (some l0)), some (vR (some a1)), some (vI l2), some (vI l3), some (vL l4), none, some (vI l6), some (vI l7)] [vI l7, vI l6, vR (some a1), vR (mR M l0 17)] M from ?_)
      rw [he]
      refine RN_k (callX_det _) 1 _ _ _ _ (show kd M a2 8 ∧ callX TBg sl sx (d + 5) 32 [vR (some a2), vR (some a1), vI l6, vI l7] M (fun v M9 => R131 sl sx d M0 P 42 [some (vR (some l0)), some (vR (some a1)), some (vI l2), some (vI l3), some (vL l4), none, some (vI l6), some (vI l7)] (pushO v []) M9) from ⟨h.1, ?_⟩)
      replace h := h.2
      refine callX_mono (callX_len (d := (d + 5)) rfl rfl rfl (c32 (d := d + 3) h)) ?_
      clear h
      rintro v9 M3 ⟨hl, rfl, h⟩
      replace hM := lenT hM hl
      show R131 sl sx d M0 P 42 [some (vR (some l0)), some (vR (some a1)), some (vI l2), some (vI l3), some (vL l4), none, some (vI l6), some (vI l7)] [] M3
      refine RN_k (callX_det _) 2 _ _ _ _ (show kd M3 l0 9 ∧ R131 sl sx d M0 P 46 [some (vR (some l0)), some (vR (some a1)), some (vI l2), some (vI l3), some (vL l4), none, some (vI l6), some (vI l7)] [vR (mR M3 l0 18)] M3 from ⟨h.1, ?_⟩)
      replace h := h.2
      refine RN_k (callX_det _) 2 _ _ _ _ (show kd M3 l0 9 ∧ R131 sl sx d M0 P 50 [some (vR (some l0)), some (vR (some a1)), some (vI l2), some (vI l3), some (vL l4), none, some (vI l6), some (vI l7)] [vR (mR M3 l0 17), vR (mR M3 l0 18)] M3 from ⟨h.1, ?_⟩)
      replace h := h.2
      obtain ⟨a4, he, h⟩ := h
      rw [he]
      refine RN_k (callX_det _) 1 _ _ _ _ (show kd M3 a4 8 ∧ callX TBg sl sx (d + 5) 132 [vR (some a4), vR (mR M3 l0 17)] M3 (fun v M9 => R131 sl sx d M0 P 53 [some (vR (some l0)), some (vR (some a1)), some (vI l2), some (vI l3), some (vL l4), none, some (vI l6), some (vI l7)] (pushO v []) M9) from ⟨h.1, ?_⟩)
      replace h := h.2
      refine callX_mono (callX_len (d := (d + 5)) rfl rfl rfl (c132 (d := d + 3) h)) ?_
      clear h
      rintro v9 M5 ⟨hl, rfl, h⟩
      replace hM := lenT hM hl
      show R131 sl sx d M0 P 53 [some (vR (some l0)), some (vR (some a1)), some (vI l2), some (vI l3), some (vL l4), none, some (vI l6), some (vI l7)] [] M5
      refine RN_k (callX_det _) 4 _ _ _ _ (show kd M5 a1 8 ∧ callX TBg sl sx (d + 5) 128 [vR (some a1), vI l6, vI l7] M5 (fun v M9 => R131 sl sx d M0 P 61 [some (vR (some l0)), some (vR (some a1)), some (vI l2), some (vI l3), some (vL l4), none, some (vI l6), some (vI l7)] (pushO v []) M9) from ⟨h.1, ?_⟩)
      replace h := h.2
      refine callX_mono (callX_len (d := (d + 5)) rfl rfl rfl (c128 (d := d + 3) h)) ?_
      clear h
      rintro v9 M6 ⟨hl, r7, rfl, h⟩
      replace hM := lenT hM hl
      show R131 sl sx d M0 P 61 [some (vR (some l0)), some (vR (some a1)), some (vI l2), some (vI l3), some (vL l4), none, some (vI l6), some (vI l7)] [vI r7] M6
      refine RN_k (callX_det _) 1 _ _ _ _ (show (r7 ≠ 0 → R131 sl sx d M0 P 100 [some (vR (some l0)), some (vR (some a1)), some (vI l2), some (vI l3), some (vL l4), none, some (vI l6), some (vI l7)] [] M6) ∧ (¬ (r7 ≠ 0) → R131 sl sx d M0 P 64 [some (vR (some l0)), some (vR (some a1)), some (vI l2), some (vI l3), some (vL l4), none, some (vI l6), some (vI l7)] [] M6) from ⟨fun hc => ?_, fun hc => ?_⟩)
      · replace h := h.1 hc
        exact RN_weak (K := [some (vR (some l0)), some (vR (some a1)), some (vI l2), some (vI l3), some (vL l4), none, some (vI l6), some (vI l7)]) (callX_det _) (show _ ∧ _ ∧ _ ∧ _ ∧ _ ∧ _ ∧ _ ∧ True from ⟨rfl, rfl, rfl, rfl, rfl, rfl, rfl, trivial⟩) (t131_100 hk6 ih l0 (some a1) l2 l3 l4 l6 l7 _ hM h)
      · replace h := h.2 hc
        refine RN_k (callX_det _) 2 _ _ _ _ (show kd M6 l0 9 ∧ R131 sl sx d M0 P 68 [some (vR (some l0)), some (vR (some a1)), some (vI l2), some (vI l3), some (vL l4), none, some (vI l6), some (vI l7)] [vR (mR M6 l0 15)] M6 from ⟨h.1, ?_⟩)
        replace h := h.2
        refine RN_k (callX_det _) 2 _ _ _ _ (show kd M6 l0 9 ∧ R131 sl sx d M0 P 72 [some (vR (some l0)), some (vR (some a1)), some (vI l2), some (vI l3), some (vL l4), none, some (vI l6), some (vI l7)] [vR (mR M6 l0 18), vR (mR M6 l0 15)] M6 from ⟨h.1, ?_⟩)
        replace h := h.2
        refine RN_k (callX_det _) 2 _ _ _ _ (show kd M6 l0 9 ∧ R131 sl sx d M0 P 76 [some (vR (some l0)), some (vR (some a1)), some (vI l2), some (vI l3), some (vL l4), none, some (vI l6), some (vI l7)] [vR (mR M6 l0 17), vR (mR M6 l0 18), vR (mR M6 l0 15)] M6 from ⟨h.1, ?_⟩)
        replace h := h.2
        obtain ⟨a8, he, h⟩ := h
        refine RN_k (callX_det _) 3 _ _ _ _ (show R131 sl sx d M0 P 79 [some (vR (some l0)), some (vR (some a1)), some (vI l2), some (vI l3), some (vL l4), none, some (vI l6), some (vI l7)] [vI l3, vI l2, vI (0 : Int32), vR (mR M6 l0 17), vR (mR M6 l0 18), vR (mR M6 l0 15)] M6 from ?_)
        rw [he]
        refine RN_k (callX_det _) 1 _ _ _ _ (show kd M6 a8 5 ∧ callX TBg sl sx (d + 5) 95 [vR (some a8), vR (mR M6 l0 18), vR (mR M6 l0 17), vI (0 : Int32), vI l2, vI l3] M6 (fun v M9 => R131 sl sx d M0 P 82 [some (vR (some l0)), some (vR (some a1)), some (vI l2), some (vI l3), some (vL l4), none, some (vI l6), some (vI l7)] (pushO v []) M9) from ⟨h.1, ?_⟩)
        replace h := h.2
        refine callX_mono (callX_len (d := (d + 5)) rfl rfl rfl (c95 (d := d) h)) ?_
        clear h
        rintro v9 M9 ⟨hl, r10, rfl, h⟩
        replace hM := lenT hM hl
        show R131 sl sx d M0 P 82 [some (vR (some l0)), some (vR (some a1)), some (vI l2), some (vI l3), some (vL l4), none, some (vI l6), some (vI l7)] [vI r10] M9
        refine RN_k (callX_det _) 1 _ _ _ _ (show (r10 = 0 → R131 sl sx d M0 P 100 [some (vR (some l0)), some (vR (some a1)), some (vI l2), some (vI l3), some (vL l4), none, some (vI l6), some (vI l7)] [] M9) ∧ (¬ (r10 = 0) → R131 sl sx d M0 P 85 [some (vR (some l0)), some (vR (some a1)), some (vI l2), some (vI l3), some (vL l4), none, some (vI l6), some (vI l7)] [] M9) from ⟨fun hc => ?_, fun hc => ?_⟩)
        · replace h := h.1 hc
          exact RN_weak (K := [some (vR (some l0)), some (vR (some a1)), some (vI l2), some (vI l3), some (vL l4), none, some (vI l6), some (vI l7)]) (callX_det _) (show _ ∧ _ ∧ _ ∧ _ ∧ _ ∧ _ ∧ _ ∧ True from ⟨rfl, rfl, rfl, rfl, rfl, rfl, rfl, trivial⟩) (t131_100 hk6 ih l0 (some a1) l2 l3 l4 l6 l7 _ hM h)
        · replace h := h.2 hc
          refine RN_k (callX_det _) 10 _ _ _ _ (show R131 sl sx d M0 P 100 [some (vR (some l0)), some (vR (some a1)), some (vI l2), some (vI l3), some (vL (l4 ||| ((1 : Int64) <<< (((l6 * (8 : Int32)) + l7).toInt64 &&& 63)))), none, some (vI l6), some (vI l7)] [] M9 from ?_)
          exact RN_weak (K := [some (vR (some l0)), some (vR (some a1)), some (vI l2), some (vI l3), some (vL (l4 ||| ((1 : Int64) <<< (((l6 * (8 : Int32)) + l7).toInt64 &&& 63)))), none, some (vI l6), some (vI l7)]) (callX_det _) (show _ ∧ _ ∧ _ ∧ _ ∧ _ ∧ _ ∧ _ ∧ True from ⟨rfl, rfl, rfl, rfl, rfl, rfl, rfl, trivial⟩) (t131_100 hk6 ih l0 (some a1) l2 l3 (l4 ||| ((1 : Int64) <<< (((l6 * (8 : Int32)) + l7).toInt64 &&& 63))) l6 l7 _ hM h)
def w131_6 : Nat → Nat → Option Nat → Int32 → Int32 → Int64 → Int32 → MM → (Int64 → MM → Prop) → Prop
  | 0 => fun _ _ _ _ _ _ _ _ => False
  | n + 1 => fun l0 l1 l2 l3 l4 l6 M P => ∃ a1, l1 = some a1 ∧ (kd M a1 8 ∧ (((mI M a1 1) ≤ l6 → (P l4 M)) ∧ (¬ ((mI M a1 1) ≤ l6) → (∃ n2, w131_21 (fun z0 z1 z2 z3 z4 z5 z6 => w131_6  n z0 z1 z2 z3 z4 z5 z6 P) n2 l0 (some a1) l2 l3 l4 l6 (l6 + (1 : Int32)) M P))))
theorem t131_6 {sl : Nat} {sx : Nat → Int32} {d : Nat} {M0 : MM} {P : Int64 → MM → Prop} (n : Nat) : ∀ (l0 : Nat) (l1 : Option Nat) (l2 : Int32) (l3 : Int32) (l4 : Int64) (l6 : Int32) (M : MM) (_ : lenO M0 M) (_ : w131_6  n l0 l1 l2 l3 l4 l6 M P), R131 sl sx d M0 P 6 [some (vR (some l0)), some (vR l1), some (vI l2), some (vI l3), some (vL l4), none, some (vI l6), none] [] M := by
  induction n with
  | zero => intro l0 l1 l2 l3 l4 l6 M hM h; cases h
  | succ n ih =>
    intro l0 l1 l2 l3 l4 l6 M hM h
    obtain ⟨a1, he, h⟩ := h
    refine RN_k (callX_det _) 2 _ _ _ _ (show R131 sl sx d M0 P 9 [some (vR (some l0)), some (vR l1), some (vI l2), some (vI l3), some (vL l4), none, some (vI l6), none] [vR l1, vI l6] M from ?_)
    subst he
    refine RN_k (callX_det _) 1 _ _ _ _ (show kd M a1 8 ∧ R131 sl sx d M0 P 12 [some (vR (some l0)), some (vR (some a1)), some (vI l2), some (vI l3), some (vL l4), none, some (vI l6), none] [vI (mI M a1 1), vI l6] M from ⟨h.1, ?_⟩)
    replace h := h.2
    refine RN_k (callX_det _) 1 _ _ _ _ (show ((mI M a1 1) ≤ l6 → R131 sl sx d M0 P 112 [some (vR (some l0)), some (vR (some a1)), some (vI l2), some (vI l3), some (vL l4), none, some (vI l6), none] [] M) ∧ (¬ ((mI M a1 1) ≤ l6) → R131 sl sx d M0 P 15 [some (vR (some l0)), some (vR (some a1)), some (vI l2), some (vI l3), some (vL l4), none, some (vI l6), none] [] M) from ⟨fun hc => ?_, fun hc => ?_⟩)
    · replace h := h.1 hc
      exact RN_k (callX_det _) 2 _ _ _ _ (show rtW q131 M0 (PL P) (some (vL l4)) M from ⟨⟨_, rfl⟩, hM.1, hM.2, _, rfl, h⟩)
    · replace h := h.2 hc
      refine RN_k (callX_det _) 4 _ _ _ _ (show R131 sl sx d M0 P 21 [some (vR (some l0)), some (vR (some a1)), some (vI l2), some (vI l3), some (vL l4), none, some (vI l6), some (vI (l6 + (1 : Int32)))] [] M from ?_)
      obtain ⟨n2, h⟩ := h
      exact RN_weak (K := [some (vR (some l0)), some (vR (some a1)), some (vI l2), some (vI l3), some (vL l4), none, some (vI l6), some (vI (l6 + (1 : Int32)))]) (callX_det _) (show _ ∧ _ ∧ _ ∧ _ ∧ _ ∧ _ ∧ _ ∧ True from ⟨rfl, rfl, rfl, rfl, rfl, rfl, rfl, trivial⟩) (t131_21 ih n2 l0 (some a1) l2 l3 l4 l6 (l6 + (1 : Int32)) _ hM h)
def w131 (l0 : Nat) (l1 : Option Nat) (l2 : Int32) (l3 : Int32) (M : MM) (P : Int64 → MM → Prop) : Prop := ∃ n2, w131_6  n2 l0 l1 l2 l3 (0 : Int64) (0 : Int32) M P
theorem t131_E {sl : Nat} {sx : Nat → Int32} {d : Nat} {M0 : MM} {P : Int64 → MM → Prop} (l0 : Nat) (l1 : Option Nat) (l2 : Int32) (l3 : Int32) (M : MM) (hM : lenO M0 M) (h : w131  l0 l1 l2 l3 M P) : R131 sl sx d M0 P 0 [some (vR (some l0)), some (vR l1), some (vI l2), some (vI l3), none, none, none, none] [] M := by
  refine RN_k (callX_det _) 4 _ _ _ _ (show R131 sl sx d M0 P 6 [some (vR (some l0)), some (vR l1), some (vI l2), some (vI l3), some (vL (0 : Int64)), none, some (vI (0 : Int32)), none] [] M from ?_)
  obtain ⟨n2, h⟩ := h
  exact RN_weak (K := [some (vR (some l0)), some (vR l1), some (vI l2), some (vI l3), some (vL (0 : Int64)), none, some (vI (0 : Int32)), none]) (callX_det _) (show _ ∧ _ ∧ _ ∧ _ ∧ _ ∧ _ ∧ True from ⟨rfl, rfl, rfl, rfl, rfl, rfl, trivial⟩) (t131_6  n2 l0 l1 l2 l3 (0 : Int64) (0 : Int32) _ hM h)
theorem c131 {sl : Nat} {sx : Nat → Int32} {d : Nat} {l0 : Nat} {l1 : Option Nat} {l2 : Int32} {l3 : Int32} {M : MM} {P : Int64 → MM → Prop} (h : w131 l0 l1 l2 l3 M P) : callX TBg sl sx (d + 6) 131 [vR (some l0), vR l1, vI l2, vI l3] M (PL P) :=
  cX (d := d + 5) q131 (false, tb131) rfl rfl rfl (t131_E l0 l1 l2 l3 M lenR h)
-- java/lang/Integer.bitCount(I)I
abbrev q133 : MQ7 := (1, 0, 1, 12, 0, 0, 1)
abbrev R133 (sl : Nat) (sx : Nat → Int32) (d : Nat) (M0 : MM) (P : Int32 → MM → Prop) : Nat → LL → List VV → MM → Prop := RN 12 false (mS M0).length (mT M0) 0 0 sl sx (callX TBg sl sx (d + 0)) (rtW q133 M0 (PI P)) (as2 tb133)
def w133 (l0 : Int32) (M : MM) (P : Int32 → MM → Prop) : Prop := P ((((((((l0 - (((l0.toUInt32 >>> ((1 : Int32).toUInt32 &&& Int32.toUInt32 31)).toInt32) &&& (1431655765 : Int32))) &&& (858993459 : Int32)) + ((((l0 - (((l0.toUInt32 >>> ((1 : Int32).toUInt32 &&& Int32.toUInt32 31)).toInt32) &&& (1431655765 : Int32))).toUInt32 >>> ((2 : Int32).toUInt32 &&& Int32.toUInt32 31)).toInt32) &&& (858993459 : Int32))) + (((((l0 - (((l0.toUInt32 >>> ((1 : Int32).toUInt32 &&& Int32.toUInt32 31)).toInt32) &&& (1431655765 : Int32))) &&& (858993459 : Int32)) + ((((l0 - (((l0.toUInt32 >>> ((1 : Int32).toUInt32 &&& Int32.toUInt32 31)).toInt32) &&& (1431655765 : Int32))).toUInt32 >>> ((2 : Int32).toUInt32 &&& Int32.toUInt32 31)).toInt32) &&& (858993459 : Int32))).toUInt32 >>> ((4 : Int32).toUInt32 &&& Int32.toUInt32 31)).toInt32)) &&& (252645135 : Int32)) + (((((((l0 - (((l0.toUInt32 >>> ((1 : Int32).toUInt32 &&& Int32.toUInt32 31)).toInt32) &&& (1431655765 : Int32))) &&& (858993459 : Int32)) + ((((l0 - (((l0.toUInt32 >>> ((1 : Int32).toUInt32 &&& Int32.toUInt32 31)).toInt32) &&& (1431655765 : Int32))).toUInt32 >>> ((2 : Int32).toUInt32 &&& Int32.toUInt32 31)).toInt32) &&& (858993459 : Int32))) + (((((l0 - (((l0.toUInt32 >>> ((1 : Int32).toUInt32 &&& Int32.toUInt32 31)).toInt32) &&& (1431655765 : Int32))) &&& (858993459 : Int32)) + ((((l0 - (((l0.toUInt32 >>> ((1 : Int32).toUInt32 &&& Int32.toUInt32 31)).toInt32) &&& (1431655765 : Int32))).toUInt32 >>> ((2 : Int32).toUInt32 &&& Int32.toUInt32 31)).toInt32) &&& (858993459 : Int32))).toUInt32 >>> ((4 : Int32).toUInt32 &&& Int32.toUInt32 31)).toInt32)) &&& (252645135 : Int32)).toUInt32 >>> ((8 : Int32).toUInt32 &&& Int32.toUInt32 31)).toInt32)) + ((((((((l0 - (((l0.toUInt32 >>> ((1 : Int32).toUInt32 &&& Int32.toUInt32 31)).toInt32) &&& (1431655765 : Int32))) &&& (858993459 : Int32)) + ((((l0 - (((l0.toUInt32 >>> ((1 : Int32).toUInt32 &&& Int32.toUInt32 31)).toInt32) &&& (1431655765 : Int32))).toUInt32 >>> ((2 : Int32).toUInt32 &&& Int32.toUInt32 31)).toInt32) &&& (858993459 : Int32))) + (((((l0 - (((l0.toUInt32 >>> ((1 : Int32).toUInt32 &&& Int32.toUInt32 31)).toInt32) &&& (1431655765 : Int32))) &&& (858993459 : Int32)) + ((((l0 - (((l0.toUInt32 >>> ((1 : Int32).toUInt32 &&& Int32.toUInt32 31)).toInt32) &&& (1431655765 : Int32))).toUInt32 >>> ((2 : Int32).toUInt32 &&& Int32.toUInt32 31)).toInt32) &&& (858993459 : Int32))).toUInt32 >>> ((4 : Int32).toUInt32 &&& Int32.toUInt32 31)).toInt32)) &&& (252645135 : Int32)) + (((((((l0 - (((l0.toUInt32 >>> ((1 : Int32).toUInt32 &&& Int32.toUInt32 31)).toInt32) &&& (1431655765 : Int32))) &&& (858993459 : Int32)) + ((((l0 - (((l0.toUInt32 >>> ((1 : Int32).toUInt32 &&& Int32.toUInt32 31)).toInt32) &&& (1431655765 : Int32))).toUInt32 >>> ((2 : Int32).toUInt32 &&& Int32.toUInt32 31)).toInt32) &&& (858993459 : Int32))) + (((((l0 - (((l0.toUInt32 >>> ((1 : Int32).toUInt32 &&& Int32.toUInt32 31)).toInt32) &&& (1431655765 : Int32))) &&& (858993459 : Int32)) + ((((l0 - (((l0.toUInt32 >>> ((1 : Int32).toUInt32 &&& Int32.toUInt32 31)).toInt32) &&& (1431655765 : Int32))).toUInt32 >>> ((2 : Int32).toUInt32 &&& Int32.toUInt32 31)).toInt32) &&& (858993459 : Int32))).toUInt32 >>> ((4 : Int32).toUInt32 &&& Int32.toUInt32 31)).toInt32)) &&& (252645135 : Int32)).toUInt32 >>> ((8 : Int32).toUInt32 &&& Int32.toUInt32 31)).toInt32)).toUInt32 >>> ((16 : Int32).toUInt32 &&& Int32.toUInt32 31)).toInt32)) &&& (63 : Int32)) M
theorem t133_E {sl : Nat} {sx : Nat → Int32} {d : Nat} {M0 : MM} {P : Int32 → MM → Prop} (l0 : Int32) (M : MM) (hM : lenO M0 M) (h : w133  l0 M P) : R133 sl sx d M0 P 0 [some (vI l0)] [] M := by
  exact RN_k (callX_det _) 42 _ _ _ _ (show rtW q133 M0 (PI P) (some (vI ((((((((l0 - (((l0.toUInt32 >>> ((1 : Int32).toUInt32 &&& Int32.toUInt32 31)).toInt32) &&& (1431655765 : Int32))) &&& (858993459 : Int32)) + ((((l0 - (((l0.toUInt32 >>> ((1 : Int32).toUInt32 &&& Int32.toUInt32 31)).toInt32) &&& (1431655765 : Int32))).toUInt32 >>> ((2 : Int32).toUInt32 &&& Int32.toUInt32 31)).toInt32) &&& (858993459 : Int32))) + (((((l0 - (((l0.toUInt32 >>> ((1 : Int32).toUInt32 &&& Int32.toUInt32 31)).toInt32) &&& (1431655765 : Int32))) &&& (858993459 : Int32)) + ((((l0 - (((l0.toUInt32 >>> ((1 : Int32).toUInt32 &&& Int32.toUInt32 31)).toInt32) &&& (1431655765 : Int32))).toUInt32 >>> ((2 : Int32).toUInt32 &&& Int32.toUInt32 31)).toInt32) &&& (858993459 : Int32))).toUInt32 >>> ((4 : Int32).toUInt32 &&& Int32.toUInt32 31)).toInt32)) &&& (252645135 : Int32)) + (((((((l0 - (((l0.toUInt32 >>> ((1 : Int32).toUInt32 &&& Int32.toUInt32 31)).toInt32) &&& (1431655765 : Int32))) &&& (858993459 : Int32)) + ((((l0 - (((l0.toUInt32 >>> ((1 : Int32).toUInt32 &&& Int32.toUInt32 31)).toInt32) &&& (1431655765 : Int32))).toUInt32 >>> ((2 : Int32).toUInt32 &&& Int32.toUInt32 31)).toInt32) &&& (858993459 : Int32))) + (((((l0 - (((l0.toUInt32 >>> ((1 : Int32).toUInt32 &&& Int32.toUInt32 31)).toInt32) &&& (1431655765 : Int32))) &&& (858993459 : Int32)) + ((((l0 - (((l0.toUInt32 >>> ((1 : Int32).toUInt32 &&& Int32.toUInt32 31)).toInt32) &&& (1431655765 : Int32))).toUInt32 >>> ((2 : Int32).toUInt32 &&& Int32.toUInt32 31)).toInt32) &&& (858993459 : Int32))).toUInt32 >>> ((4 : Int32).toUInt32 &&& Int32.toUInt32 31)).toInt32)) &&& (252645135 : Int32)).toUInt32 >>> ((8 : Int32).toUInt32 &&& Int32.toUInt32 31)).toInt32)) + ((((((((l0 - (((l0.toUInt32 >>> ((1 : Int32).toUInt32 &&& Int32.toUInt32 31)).toInt32) &&& (1431655765 : Int32))) &&& (858993459 : Int32)) + ((((l0 - (((l0.toUInt32 >>> ((1 : Int32).toUInt32 &&& Int32.toUInt32 31)).toInt32) &&& (1431655765 : Int32))).toUInt32 >>> ((2 : Int32).toUInt32 &&& Int32.toUInt32 31)).toInt32) &&& (858993459 : Int32))) + (((((l0 - (((l0.toUInt32 >>> ((1 : Int32).toUInt32 &&& Int32.toUInt32 31)).toInt32) &&& (1431655765 : Int32))) &&& (858993459 : Int32)) + ((((l0 - (((l0.toUInt32 >>> ((1 : Int32).toUInt32 &&& Int32.toUInt32 31)).toInt32) &&& (1431655765 : Int32))).toUInt32 >>> ((2 : Int32).toUInt32 &&& Int32.toUInt32 31)).toInt32) &&& (858993459 : Int32))).toUInt32 >>> ((4 : Int32).toUInt32 &&& Int32.toUInt32 31)).toInt32)) &&& (252645135 : Int32)) + (((((((l0 - (((l0.toUInt32 >>> ((1 : Int32).toUInt32 &&& Int32.toUInt32 31)).toInt32) &&& (1431655765 : Int32))) &&& (858993459 : Int32)) + ((((l0 - (((l0.toUInt32 >>> ((1 : Int32).toUInt32 &&& Int32.toUInt32 31)).toInt32) &&& (1431655765 : Int32))).toUInt32 >>> ((2 : Int32).toUInt32 &&& Int32.toUInt32 31)).toInt32) &&& (858993459 : Int32))) + (((((l0 - (((l0.toUInt32 >>> ((1 : Int32).toUInt32 &&& Int32.toUInt32 31)).toInt32) &&& (1431655765 : Int32))) &&& (858993459 : Int32)) + ((((l0 - (((l0.toUInt32 >>> ((1 : Int32).toUInt32 &&& Int32.toUInt32 31)).toInt32) &&& (1431655765 : Int32))).toUInt32 >>> ((2 : Int32).toUInt32 &&& Int32.toUInt32 31)).toInt32) &&& (858993459 : Int32))).toUInt32 >>> ((4 : Int32).toUInt32 &&& Int32.toUInt32 31)).toInt32)) &&& (252645135 : Int32)).toUInt32 >>> ((8 : Int32).toUInt32 &&& Int32.toUInt32 31)).toInt32)).toUInt32 >>> ((16 : Int32).toUInt32 &&& Int32.toUInt32 31)).toInt32)) &&& (63 : Int32)))) M from ⟨⟨_, rfl⟩, hM.1, hM.2, _, rfl, h⟩)
theorem c133 {sl : Nat} {sx : Nat → Int32} {d : Nat} {l0 : Int32} {M : MM} {P : Int32 → MM → Prop} (h : w133 l0 M P) : callX TBg sl sx (d + 1) 133 [vI l0] M (PI P) :=
  cX (d := d + 0) q133 (false, tb133) rfl rfl rfl (t133_E l0 M lenR h)
-- TwoLeash.isChain(IIJ)Z
abbrev q134 : MQ7 := (3, 0, 6, 9, 0, 0, 4)
abbrev R134 (sl : Nat) (sx : Nat → Int32) (d : Nat) (M0 : MM) (P : Int32 → MM → Prop) : Nat → LL → List VV → MM → Prop := RN 9 false (mS M0).length (mT M0) 0 0 sl sx (callX TBg sl sx (d + 0)) (rtW q134 M0 (PI P)) (as2 tb134)
def w134_44 (k6 : Int32 → Int32 → Int64 → Int32 → Int32 → MM → Prop) (l0 : Int32) (l1 : Int32) (l2 : Int64) (l4 : Int32) (l5 : Int32) (M : MM) (P : Int32 → MM → Prop) : Prop := k6 l0 l1 l2 l4 (l5 + (1 : Int32)) M
theorem t134_44 {sl : Nat} {sx : Nat → Int32} {d : Nat} {M0 : MM} {P : Int32 → MM → Prop} {k6 : Int32 → Int32 → Int64 → Int32 → Int32 → MM → Prop} (hk6 : ∀ (l0 : Int32) (l1 : Int32) (l2 : Int64) (l4 : Int32) (l5 : Int32) (M : MM), lenO M0 M → k6 l0 l1 l2 l4 l5 M → R134 sl sx d M0 P 6 [some (vI l0), some (vI l1), some (vL l2), none, some (vI l4), some (vI l5)] [] M) (l0 : Int32) (l1 : Int32) (l2 : Int64) (l4 : Int32) (l5 : Int32) (M : MM) (hM : lenO M0 M) (h : w134_44 k6 l0 l1 l2 l4 l5 M P) : R134 sl sx d M0 P 44 [some (vI l0), some (vI l1), some (vL l2), none, some (vI l4), some (vI l5)] [] M := by
  refine RN_k (callX_det _) 2 _ _ _ _ (show R134 sl sx d M0 P 6 [some (vI l0), some (vI l1), some (vL l2), none, some (vI l4), some (vI (l5 + (1 : Int32)))] [] M from ?_)
  exact RN_weak (K := [some (vI l0), some (vI l1), some (vL l2), none, some (vI l4), some (vI (l5 + (1 : Int32)))]) (callX_det _) (show _ ∧ _ ∧ _ ∧ _ ∧ _ ∧ True from ⟨rfl, rfl, rfl, rfl, rfl, trivial⟩) (hk6 l0 l1 l2 l4 (l5 + (1 : Int32)) _ hM h)
def w134_6 : Nat → Int32 → Int32 → Int64 → Int32 → Int32 → MM → (Int32 → MM → Prop) → Prop
  | 0 => fun _ _ _ _ _ _ _ => False
  | n + 1 => fun l0 l1 l2 l4 l5 M P => (l1 < l5 → (P (1 : Int32) M)) ∧ (¬ (l1 < l5) → ((((l0 >>> (l5 &&& 31)) &&& (1 : Int32)) = 0 → (w134_44 (fun z0 z1 z2 z3 z4 z5 => w134_6  n z0 z1 z2 z3 z4 z5 P) l0 l1 l2 l4 l5 M P)) ∧ (¬ (((l0 >>> (l5 &&& 31)) &&& (1 : Int32)) = 0) → (((lg_cmp (((l2.toUInt64 >>> (((l4 * (8 : Int32)) + l5).toInt64.toUInt64 &&& Int64.toUInt64 63)).toInt64) &&& (1 : Int64)) (0 : Int64)) ≠ 0 → (w134_44 (fun z0 z1 z2 z3 z4 z5 => w134_6  n z0 z1 z2 z3 z4 z5 P) l0 l1 l2 l5 l5 M P)) ∧ (¬ ((lg_cmp (((l2.toUInt64 >>> (((l4 * (8 : Int32)) + l5).toInt64.toUInt64 &&& Int64.toUInt64 63)).toInt64) &&& (1 : Int64)) (0 : Int64)) ≠ 0) → (P (0 : Int32) M))))))
theorem t134_6 {sl : Nat} {sx : Nat → Int32} {d : Nat} {M0 : MM} {P : Int32 → MM → Prop} (n : Nat) : ∀ (l0 : Int32) (l1 : Int32) (l2 : Int64) (l4 : Int32) (l5 : Int32) (M : MM) (_ : lenO M0 M) (_ : w134_6  n l0 l1 l2 l4 l5 M P), R134 sl sx d M0 P 6 [some (vI l0), some (vI l1), some (vL l2), none, some (vI l4), some (vI l5)] [] M := by
  induction n with
  | zero => intro l0 l1 l2 l4 l5 M hM h; cases h
  | succ n ih =>
    intro l0 l1 l2 l4 l5 M hM h
    refine RN_k (callX_det _) 3 _ _ _ _ (show (l1 < l5 → R134 sl sx d M0 P 50 [some (vI l0), some (vI l1), some (vL l2), none, some (vI l4), some (vI l5)] [] M) ∧ (¬ (l1 < l5) → R134 sl sx d M0 P 12 [some (vI l0), some (vI l1), some (vL l2), none, some (vI l4), some (vI l5)] [] M) from ⟨fun hc => ?_, fun hc => ?_⟩)
    · replace h := h.1 hc
      exact RN_k (callX_det _) 2 _ _ _ _ (show rtW q134 M0 (PI P) (some (vI (1 : Int32))) M from ⟨⟨_, rfl, Or.inr rfl⟩, hM.1, hM.2, _, rfl, h⟩)
    · replace h := h.2 hc
      refine RN_k (callX_det _) 6 _ _ _ _ (show (((l0 >>> (l5 &&& 31)) &&& (1 : Int32)) = 0 → R134 sl sx d M0 P 44 [some (vI l0), some (vI l1), some (vL l2), none, some (vI l4), some (vI l5)] [] M) ∧ (¬ (((l0 >>> (l5 &&& 31)) &&& (1 : Int32)) = 0) → R134 sl sx d M0 P 21 [some (vI l0), some (vI l1), some (vL l2), none, some (vI l4), some (vI l5)] [] M) from ⟨fun hc => ?_, fun hc => ?_⟩)
      · replace h := h.1 hc
        exact RN_weak (K := [some (vI l0), some (vI l1), some (vL l2), none, some (vI l4), some (vI l5)]) (callX_det _) (show _ ∧ _ ∧ _ ∧ _ ∧ _ ∧ True from ⟨rfl, rfl, rfl, rfl, rfl, trivial⟩) (t134_44 ih l0 l1 l2 l4 l5 _ hM h)
      · replace h := h.2 hc
        refine RN_k (callX_det _) 12 _ _ _ _ (show ((lg_cmp (((l2.toUInt64 >>> (((l4 * (8 : Int32)) + l5).toInt64.toUInt64 &&& Int64.toUInt64 63)).toInt64) &&& (1 : Int64)) (0 : Int64)) ≠ 0 → R134 sl sx d M0 P 40 [some (vI l0), some (vI l1), some (vL l2), none, some (vI l4), some (vI l5)] [] M) ∧ (¬ ((lg_cmp (((l2.toUInt64 >>> (((l4 * (8 : Int32)) + l5).toInt64.toUInt64 &&& Int64.toUInt64 63)).toInt64) &&& (1 : Int64)) (0 : Int64)) ≠ 0) → R134 sl sx d M0 P 38 [some (vI l0), some (vI l1), some (vL l2), none, some (vI l4), some (vI l5)] [] M) from ⟨fun hc => ?_, fun hc => ?_⟩)
        · replace h := h.1 hc
          refine RN_k (callX_det _) 2 _ _ _ _ (show R134 sl sx d M0 P 44 [some (vI l0), some (vI l1), some (vL l2), none, some (vI l5), some (vI l5)] [] M from ?_)
          exact RN_weak (K := [some (vI l0), some (vI l1), some (vL l2), none, some (vI l5), some (vI l5)]) (callX_det _) (show _ ∧ _ ∧ _ ∧ _ ∧ _ ∧ True from ⟨rfl, rfl, rfl, rfl, rfl, trivial⟩) (t134_44 ih l0 l1 l2 l5 l5 _ hM h)
        · replace h := h.2 hc
          exact RN_k (callX_det _) 2 _ _ _ _ (show rtW q134 M0 (PI P) (some (vI (0 : Int32))) M from ⟨⟨_, rfl, Or.inl rfl⟩, hM.1, hM.2, _, rfl, h⟩)
def w134 (l0 : Int32) (l1 : Int32) (l2 : Int64) (M : MM) (P : Int32 → MM → Prop) : Prop := ∃ n2, w134_6  n2 l0 l1 l2 (0 : Int32) (1 : Int32) M P
theorem t134_E {sl : Nat} {sx : Nat → Int32} {d : Nat} {M0 : MM} {P : Int32 → MM → Prop} (l0 : Int32) (l1 : Int32) (l2 : Int64) (M : MM) (hM : lenO M0 M) (h : w134  l0 l1 l2 M P) : R134 sl sx d M0 P 0 [some (vI l0), some (vI l1), some (vL l2), none, none, none] [] M := by
  refine RN_k (callX_det _) 4 _ _ _ _ (show R134 sl sx d M0 P 6 [some (vI l0), some (vI l1), some (vL l2), none, some (vI (0 : Int32)), some (vI (1 : Int32))] [] M from ?_)
  obtain ⟨n2, h⟩ := h
  exact RN_weak (K := [some (vI l0), some (vI l1), some (vL l2), none, some (vI (0 : Int32)), some (vI (1 : Int32))]) (callX_det _) (show _ ∧ _ ∧ _ ∧ _ ∧ _ ∧ True from ⟨rfl, rfl, rfl, rfl, rfl, trivial⟩) (t134_6  n2 l0 l1 l2 (0 : Int32) (1 : Int32) _ hM h)
theorem c134 {sl : Nat} {sx : Nat → Int32} {d : Nat} {l0 : Int32} {l1 : Int32} {l2 : Int64} {M : MM} {P : Int32 → MM → Prop} (h : w134 l0 l1 l2 M P) : callX TBg sl sx (d + 1) 134 [vI l0, vI l1, vL l2] M (PI P) :=
  cX (d := d + 0) q134 (false, tb134) rfl rfl rfl (t134_E l0 l1 l2 M lenR h)
-- TwoLeash.thinned(IIII)I
abbrev q130 : MQ7 := (5, 1, 12, 9, 0, 0, 1)
abbrev R130 (sl : Nat) (sx : Nat → Int32) (d : Nat) (M0 : MM) (P : Int32 → MM → Prop) : Nat → LL → List VV → MM → Prop := RN 9 false (mS M0).length (mT M0) 0 0 sl sx (callX TBg sl sx (d + 6)) (rtW q130 M0 (PI P)) (as2 tb130)
def w130_168 (s0 : Option Nat) (s1 : Int32) (M : MM) (P : Int32 → MM → Prop) : Prop := ∃ a1, s0 = some a1 ∧ (kd M a1 9 ∧ w35 a1 s1 M (fun r3 M2 => P r3 M2))
theorem t130_168 {sl : Nat} {sx : Nat → Int32} {d : Nat} {M0 : MM} {P : Int32 → MM → Prop} (s0 : Option Nat) (s1 : Int32) (M : MM) (hM : lenO M0 M) (h : w130_168  s0 s1 M P) : R130 sl sx d M0 P 168 [none, none, none, none, none, none, none, none, none, none, none, none] [vI s1, vR s0] M := by
  obtain ⟨a1, he, h⟩ := h
  subst he
  refine RN_k (callX_det _) 1 _ _ _ _ (show kd M a1 9 ∧ callX TBg sl sx (d + 6) 35 [vR (some a1), vI s1] M (fun v M9 => R130 sl sx d M0 P 171 [none, none, none, none, none, none, none, none, none, none, none, none] (pushO v []) M9) from ⟨h.1, ?_⟩)
  replace h := h.2
  refine callX_mono (callX_len (d := (d + 6)) rfl rfl rfl (c35 (d := d + 5) h)) ?_
  clear h
  rintro v9 M2 ⟨hl, r3, rfl, h⟩
  replace hM := lenT hM hl
  show R130 sl sx d M0 P 171 [none, none, none, none, none, none, none, none, none, none, none, none] [vI r3] M2
  exact RN_k (callX_det _) 1 _ _ _ _ (show rtW q130 M0 (PI P) (some (vI r3)) M2 from ⟨⟨_, rfl⟩, hM.1, hM.2, _, rfl, h⟩)
def w130_146 (k81 : Nat → Int32 → Int32 → Int64 → Int32 → Int32 → Int32 → MM → Prop) (l0 : Nat) (l4 : Int32) (l5 : Int32) (l6 : Int64) (l8 : Int32) (l9 : Int32) (l10 : Int32) (M : MM) (P : Int32 → MM → Prop) : Prop := k81 l0 l4 l5 l6 l8 l9 (l10 + (1 : Int32)) M
theorem t130_146 {sl : Nat} {sx : Nat → Int32} {d : Nat} {M0 : MM} {P : Int32 → MM → Prop} {k81 : Nat → Int32 → Int32 → Int64 → Int32 → Int32 → Int32 → MM → Prop} (hk81 : ∀ (l0 : Nat) (l4 : Int32) (l5 : Int32) (l6 : Int64) (l8 : Int32) (l9 : Int32) (l10 : Int32) (M : MM), lenO M0 M → k81 l0 l4 l5 l6 l8 l9 l10 M → R130 sl sx d M0 P 81 [some (vR (some l0)), none, none, none, some (vI l4), some (vI l5), some (vL l6), none, some (vI l8), some (vI l9), some (vI l10), none] [] M) (l0 : Nat) (l4 : Int32) (l5 : Int32) (l6 : Int64) (l8 : Int32) (l9 : Int32) (l10 : Int32) (M : MM) (hM : lenO M0 M) (h : w130_146 k81 l0 l4 l5 l6 l8 l9 l10 M P) : R130 sl sx d M0 P 146 [some (vR (some l0)), none, none, none, some (vI l4), some (vI l5), some (vL l6), none, some (vI l8), some (vI l9), some (vI l10), none] [] M := by
  refine RN_k (callX_det _) 2 _ _ _ _ (show R130 sl sx d M0 P 81 [some (vR (some l0)), none, none, none, some (vI l4), some (vI l5), some (vL l6), none, some (vI l8), some (vI l9), some (vI (l10 + (1 : Int32))), none] [] M from ?_)
  exact RN_weak (K := [some (vR (some l0)), none, none, none, some (vI l4), some (vI l5), some (vL l6), none, some (vI l8), some (vI l9), some (vI (l10 + (1 : Int32))), none]) (callX_det _) (show _ ∧ _ ∧ _ ∧ _ ∧ _ ∧ _ ∧ _ ∧ True from ⟨rfl, rfl, rfl, rfl, rfl, rfl, rfl, trivial⟩) (hk81 l0 l4 l5 l6 l8 l9 (l10 + (1 : Int32)) _ hM h)
def w130_113 (k81 : Nat → Int32 → Int32 → Int64 → Int32 → Int32 → Int32 → MM → Prop) (l0 : Nat) (l4 : Int32) (l5 : Int32) (l6 : Int64) (l8 : Int32) (l9 : Int32) (l10 : Int32) (s0 : Int32) (M : MM) (P : Int32 → MM → Prop) : Prop := (s0 = 0 → (w130_146 k81 l0 l4 l5 l6 l8 l9 l10 M P)) ∧ (¬ (s0 = 0) → (((l10 &&& l8) ≠ l8 → (w130_146 k81 l0 l4 l5 l6 l8 l9 l10 M P)) ∧ (¬ ((l10 &&& l8) ≠ l8) → (w134 l10 l5 l6 M (fun r2 M1 => (r2 = 0 → (w130_146 k81 l0 l4 l5 l6 l8 l9 l10 M1 P)) ∧ (¬ (r2 = 0) → (w130_146 k81 l0 l4 l5 l6 l8 l10 l10 M1 P)))))))
theorem t130_113 {sl : Nat} {sx : Nat → Int32} {d : Nat} {M0 : MM} {P : Int32 → MM → Prop} {k81 : Nat → Int32 → Int32 → Int64 → Int32 → Int32 → Int32 → MM → Prop} (hk81 : ∀ (l0 : Nat) (l4 : Int32) (l5 : Int32) (l6 : Int64) (l8 : Int32) (l9 : Int32) (l10 : Int32) (M : MM), lenO M0 M → k81 l0 l4 l5 l6 l8 l9 l10 M → R130 sl sx d M0 P 81 [some (vR (some l0)), none, none, none, some (vI l4), some (vI l5), some (vL l6), none, some (vI l8), some (vI l9), some (vI l10), none] [] M) (l0 : Nat) (l4 : Int32) (l5 : Int32) (l6 : Int64) (l8 : Int32) (l9 : Int32) (l10 : Int32) (s0 : Int32) (M : MM) (hM : lenO M0 M) (h : w130_113 k81 l0 l4 l5 l6 l8 l9 l10 s0 M P) : R130 sl sx d M0 P 113 [some (vR (some l0)), none, none, none, some (vI l4), some (vI l5), some (vL l6), none, some (vI l8), some (vI l9), some (vI l10), none] [vI s0] M := by
  refine RN_k (callX_det _) 3 _ _ _ _ (show (s0 = 0 → R130 sl sx d M0 P 146 [some (vR (some l0)), none, none, none, some (vI l4), some (vI l5), some (vL l6), none, some (vI l8), some (vI l9), some (vI l10), some (vI s0)] [] M) ∧ (¬ (s0 = 0) → R130 sl sx d M0 P 120 [some (vR (some l0)), none, none, none, some (vI l4), some (vI l5), some (vL l6), none, some (vI l8), some (vI l9), some (vI l10), some (vI s0)] [] M) from ⟨fun hc => ?_, fun hc => ?_⟩)
  · replace h := h.1 hc
    exact RN_weak (K := [some (vR (some l0)), none, none, none, some (vI l4), some (vI l5), some (vL l6), none, some (vI l8), some (vI l9), some (vI l10), none]) (callX_det _) (show _ ∧ _ ∧ _ ∧ _ ∧ _ ∧ _ ∧ _ ∧ True from ⟨rfl, rfl, rfl, rfl, rfl, rfl, rfl, trivial⟩) (t130_146 hk81 l0 l4 l5 l6 l8 l9 l10 _ hM h)
  · replace h := h.2 hc
    refine RN_k (callX_det _) 5 _ _ _ _ (show ((l10 &&& l8) ≠ l8 → R130 sl sx d M0 P 146 [some (vR (some l0)), none, none, none, some (vI l4), some (vI l5), some (vL l6), none, some (vI l8), some (vI l9), some (vI l10), some (vI s0)] [] M) ∧ (¬ ((l10 &&& l8) ≠ l8) → R130 sl sx d M0 P 130 [some (vR (some l0)), none, none, none, some (vI l4), some (vI l5), some (vL l6), none, some (vI l8), some (vI l9), some (vI l10), some (vI s0)] [] M) from ⟨fun hc => ?_, fun hc => ?_⟩)
    · replace h := h.1 hc
      exact RN_weak (K := [some (vR (some l0)), none, none, none, some (vI l4), some (vI l5), some (vL l6), none, some (vI l8), some (vI l9), some (vI l10), none]) (callX_det _) (show _ ∧ _ ∧ _ ∧ _ ∧ _ ∧ _ ∧ _ ∧ True from ⟨rfl, rfl, rfl, rfl, rfl, rfl, rfl, trivial⟩) (t130_146 hk81 l0 l4 l5 l6 l8 l9 l10 _ hM h)
    · replace h := h.2 hc
      refine RN_k (callX_det _) 4 _ _ _ _ (show callX TBg sl sx (d + 6) 134 [vI l10, vI l5, vL l6] M (fun v M9 => R130 sl sx d M0 P 139 [some (vR (some l0)), none, none, none, some (vI l4), some (vI l5), some (vL l6), none, some (vI l8), some (vI l9), some (vI l10), some (vI s0)] (pushO v []) M9) from ?_)
      refine callX_mono (callX_len (d := (d + 6)) rfl rfl rfl (c134 (d := d + 5) h)) ?_
      clear h
      rintro v9 M1 ⟨hl, r2, rfl, h⟩
      replace hM := lenT hM hl
      show R130 sl sx d M0 P 139 [some (vR (some l0)), none, none, none, some (vI l4), some (vI l5), some (vL l6), none, some (vI l8), some (vI l9), some (vI l10), some (vI s0)] [vI r2] M1
      refine RN_k (callX_det _) 1 _ _ _ _ (show (r2 = 0 → R130 sl sx d M0 P 146 [some (vR (some l0)), none, none, none, some (vI l4), some (vI l5), some (vL l6), none, some (vI l8), some (vI l9), some (vI l10), some (vI s0)] [] M1) ∧ (¬ (r2 = 0) → R130 sl sx d M0 P 142 [some (vR (some l0)), none, none, none, some (vI l4), some (vI l5), some (vL l6), none, some (vI l8), some (vI l9), some (vI l10), some (vI s0)] [] M1) from ⟨fun hc => ?_, fun hc => ?_⟩)
      · replace h := h.1 hc
        exact RN_weak (K := [some (vR (some l0)), none, none, none, some (vI l4), some (vI l5), some (vL l6), none, some (vI l8), some (vI l9), some (vI l10), none]) (callX_det _) (show _ ∧ _ ∧ _ ∧ _ ∧ _ ∧ _ ∧ _ ∧ True from ⟨rfl, rfl, rfl, rfl, rfl, rfl, rfl, trivial⟩) (t130_146 hk81 l0 l4 l5 l6 l8 l9 l10 _ hM h)
      · replace h := h.2 hc
        refine RN_k (callX_det _) 2 _ _ _ _ (show R130 sl sx d M0 P 146 [some (vR (some l0)), none, none, none, some (vI l4), some (vI l5), some (vL l6), none, some (vI l8), some (vI l10), some (vI l10), some (vI s0)] [] M1 from ?_)
        exact RN_weak (K := [some (vR (some l0)), none, none, none, some (vI l4), some (vI l5), some (vL l6), none, some (vI l8), some (vI l10), some (vI l10), none]) (callX_det _) (show _ ∧ _ ∧ _ ∧ _ ∧ _ ∧ _ ∧ _ ∧ True from ⟨rfl, rfl, rfl, rfl, rfl, rfl, rfl, trivial⟩) (t130_146 hk81 l0 l4 l5 l6 l8 l10 l10 _ hM h)
def w130_108 (k81 : Nat → Int32 → Int32 → Int64 → Int32 → Int32 → Int32 → MM → Prop) (l0 : Nat) (l4 : Int32) (l5 : Int32) (l6 : Int64) (l8 : Int32) (l9 : Int32) (l10 : Int32) (M : MM) (P : Int32 → MM → Prop) : Prop := w130_113 k81 l0 l4 l5 l6 l8 l9 l10 (1 : Int32) M P
theorem t130_108 {sl : Nat} {sx : Nat → Int32} {d : Nat} {M0 : MM} {P : Int32 → MM → Prop} {k81 : Nat → Int32 → Int32 → Int64 → Int32 → Int32 → Int32 → MM → Prop} (hk81 : ∀ (l0 : Nat) (l4 : Int32) (l5 : Int32) (l6 : Int64) (l8 : Int32) (l9 : Int32) (l10 : Int32) (M : MM), lenO M0 M → k81 l0 l4 l5 l6 l8 l9 l10 M → R130 sl sx d M0 P 81 [some (vR (some l0)), none, none, none, some (vI l4), some (vI l5), some (vL l6), none, some (vI l8), some (vI l9), some (vI l10), none] [] M) (l0 : Nat) (l4 : Int32) (l5 : Int32) (l6 : Int64) (l8 : Int32) (l9 : Int32) (l10 : Int32) (M : MM) (hM : lenO M0 M) (h : w130_108 k81 l0 l4 l5 l6 l8 l9 l10 M P) : R130 sl sx d M0 P 108 [some (vR (some l0)), none, none, none, some (vI l4), some (vI l5), some (vL l6), none, some (vI l8), some (vI l9), some (vI l10), none] [] M := by
  refine RN_k (callX_det _) 2 _ _ _ _ (show R130 sl sx d M0 P 113 [some (vR (some l0)), none, none, none, some (vI l4), some (vI l5), some (vL l6), none, some (vI l8), some (vI l9), some (vI l10), none] [vI (1 : Int32)] M from ?_)
  exact RN_weak (K := [some (vR (some l0)), none, none, none, some (vI l4), some (vI l5), some (vL l6), none, some (vI l8), some (vI l9), some (vI l10), none]) (callX_det _) (show _ ∧ _ ∧ _ ∧ _ ∧ _ ∧ _ ∧ _ ∧ True from ⟨rfl, rfl, rfl, rfl, rfl, rfl, rfl, trivial⟩) (t130_113 hk81 l0 l4 l5 l6 l8 l9 l10 (1 : Int32) _ hM h)
def w130_81 : Nat → Nat → Int32 → Int32 → Int64 → Int32 → Int32 → Int32 → MM → (Int32 → MM → Prop) → Prop
  | 0 => fun _ _ _ _ _ _ _ _ _ => False
  | n + 1 => fun l0 l4 l5 l6 l8 l9 l10 M P => (((2 : Int32) <<< (l5 &&& 31)) ≤ l10 → ((l4 ≠ 0 → (w130_168  (some l0) l9 M P)) ∧ (¬ (l4 ≠ 0) → (w133 l9 M (fun r2 M1 => w130_168  (some l0) r2 M1 P))))) ∧ (¬ (((2 : Int32) <<< (l5 &&& 31)) ≤ l10) → ((l9 = 0 → (w130_108 (fun z0 z1 z2 z3 z4 z5 z6 z7 => w130_81  n z0 z1 z2 z3 z4 z5 z6 z7 P) l0 l4 l5 l6 l8 l9 l10 M P)) ∧ (¬ (l9 = 0) → (w133 l10 M (fun r4 M3 => w133 l9 M3 (fun r6 M5 => (r6 ≤ r4 → (w130_113 (fun z0 z1 z2 z3 z4 z5 z6 z7 => w130_81  n z0 z1 z2 z3 z4 z5 z6 z7 P) l0 l4 l5 l6 l8 l9 l10 (0 : Int32) M5 P)) ∧ (¬ (r6 ≤ r4) → (w130_108 (fun z0 z1 z2 z3 z4 z5 z6 z7 => w130_81  n z0 z1 z2 z3 z4 z5 z6 z7 P) l0 l4 l5 l6 l8 l9 l10 M5 P))))))))
theorem t130_81 {sl : Nat} {sx : Nat → Int32} {d : Nat} {M0 : MM} {P : Int32 → MM → Prop} (n : Nat) : ∀ (l0 : Nat) (l4 : Int32) (l5 : Int32) (l6 : Int64) (l8 : Int32) (l9 : Int32) (l10 : Int32) (M : MM) (_ : lenO M0 M) (_ : w130_81  n l0 l4 l5 l6 l8 l9 l10 M P), R130 sl sx d M0 P 81 [some (vR (some l0)), none, none, none, some (vI l4), some (vI l5), some (vL l6), none, some (vI l8), some (vI l9), some (vI l10), none] [] M := by
  induction n with
  | zero => intro l0 l4 l5 l6 l8 l9 l10 M hM h; cases h
  | succ n ih =>
    intro l0 l4 l5 l6 l8 l9 l10 M hM h
    refine RN_k (callX_det _) 5 _ _ _ _ (show (((2 : Int32) <<< (l5 &&& 31)) ≤ l10 → R130 sl sx d M0 P 152 [some (vR (some l0)), none, none, none, some (vI l4), some (vI l5), some (vL l6), none, some (vI l8), some (vI l9), some (vI l10), none] [] M) ∧ (¬ (((2 : Int32) <<< (l5 &&& 31)) ≤ l10) → R130 sl sx d M0 P 90 [some (vR (some l0)), none, none, none, some (vI l4), some (vI l5), some (vL l6), none, some (vI l8), some (vI l9), some (vI l10), none] [] M) from ⟨fun hc => ?_, fun hc => ?_⟩)
    · replace h := h.1 hc
      refine RN_k (callX_det _) 3 _ _ _ _ (show (l4 ≠ 0 → R130 sl sx d M0 P 166 [some (vR (some l0)), none, none, none, some (vI l4), some (vI l5), some (vL l6), none, some (vI l8), some (vI l9), some (vI l10), none] [vR (some l0)] M) ∧ (¬ (l4 ≠ 0) → R130 sl sx d M0 P 158 [some (vR (some l0)), none, none, none, some (vI l4), some (vI l5), some (vL l6), none, some (vI l8), some (vI l9), some (vI l10), none] [vR (some l0)] M) from ⟨fun hc => ?_, fun hc => ?_⟩)
      · replace h := h.1 hc
        refine RN_k (callX_det _) 1 _ _ _ _ (show R130 sl sx d M0 P 168 [some (vR (some l0)), none, none, none, some (vI l4), some (vI l5), some (vL l6), none, some (vI l8), some (vI l9), some (vI l10), none] [vI l9, vR (some l0)] M from ?_)
        exact RN_weak (K := [none, none, none, none, none, none, none, none, none, none, none, none]) (callX_det _) (show True from trivial) (t130_168  (some l0) l9 _ hM h)
      · replace h := h.2 hc
        refine RN_k (callX_det _) 2 _ _ _ _ (show callX TBg sl sx (d + 6) 133 [vI l9] M (fun v M9 => R130 sl sx d M0 P 163 [some (vR (some l0)), none, none, none, some (vI l4), some (vI l5), some (vL l6), none, some (vI l8), some (vI l9), some (vI l10), none] (pushO v [vR (some l0)]) M9) from ?_)
        refine callX_mono (callX_len (d := (d + 6)) rfl rfl rfl (c133 (d := d + 5) h)) ?_
        clear h
        rintro v9 M1 ⟨hl, r2, rfl, h⟩
        replace hM := lenT hM hl
        show R130 sl sx d M0 P 163 [some (vR (some l0)), none, none, none, some (vI l4), some (vI l5), some (vL l6), none, some (vI l8), some (vI l9), some (vI l10), none] [vI r2, vR (some l0)] M1
        refine RN_k (callX_det _) 1 _ _ _ _ (show R130 sl sx d M0 P 168 [some (vR (some l0)), none, none, none, some (vI l4), some (vI l5), some (vL l6), none, some (vI l8), some (vI l9), some (vI l10), none] [vI r2, vR (some l0)] M1 from ?_)
        exact RN_weak (K := [none, none, none, none, none, none, none, none, none, none, none, none]) (callX_det _) (show True from trivial) (t130_168  (some l0) r2 _ hM h)
    · replace h := h.2 hc
      refine RN_k (callX_det _) 2 _ _ _ _ (show (l9 = 0 → R130 sl sx d M0 P 108 [some (vR (some l0)), none, none, none, some (vI l4), some (vI l5), some (vL l6), none, some (vI l8), some (vI l9), some (vI l10), none] [] M) ∧ (¬ (l9 = 0) → R130 sl sx d M0 P 95 [some (vR (some l0)), none, none, none, some (vI l4), some (vI l5), some (vL l6), none, some (vI l8), some (vI l9), some (vI l10), none] [] M) from ⟨fun hc => ?_, fun hc => ?_⟩)
      · replace h := h.1 hc
        exact RN_weak (K := [some (vR (some l0)), none, none, none, some (vI l4), some (vI l5), some (vL l6), none, some (vI l8), some (vI l9), some (vI l10), none]) (callX_det _) (show _ ∧ _ ∧ _ ∧ _ ∧ _ ∧ _ ∧ _ ∧ True from ⟨rfl, rfl, rfl, rfl, rfl, rfl, rfl, trivial⟩) (t130_108 ih l0 l4 l5 l6 l8 l9 l10 _ hM h)
      · replace h := h.2 hc
        refine RN_k (callX_det _) 2 _ _ _ _ (show callX TBg sl sx (d + 6) 133 [vI l10] M (fun v M9 => R130 sl sx d M0 P 100 [some (vR (some l0)), none, none, none, some (vI l4), some (vI l5), some (vL l6), none, some (vI l8), some (vI l9), some (vI l10), none] (pushO v []) M9) from ?_)
        refine callX_mono (callX_len (d := (d + 6)) rfl rfl rfl (c133 (d := d + 5) h)) ?_
        clear h
        rintro v9 M3 ⟨hl, r4, rfl, h⟩
        replace hM := lenT hM hl
        show R130 sl sx d M0 P 100 [some (vR (some l0)), none, none, none, some (vI l4), some (vI l5), some (vL l6), none, some (vI l8), some (vI l9), some (vI l10), none] [vI r4] M3
        refine RN_k (callX_det _) 2 _ _ _ _ (show callX TBg sl sx (d + 6) 133 [vI l9] M3 (fun v M9 => R130 sl sx d M0 P 105 [some (vR (some l0)), none, none, none, some (vI l4), some (vI l5), some (vL l6), none, some (vI l8), some (vI l9), some (vI l10), none] (pushO v [vI r4]) M9) from ?_)
        refine callX_mono (callX_len (d := (d + 6)) rfl rfl rfl (c133 (d := d + 5) h)) ?_
        clear h
        rintro v9 M5 ⟨hl, r6, rfl, h⟩
        replace hM := lenT hM hl
        show R130 sl sx d M0 P 105 [some (vR (some l0)), none, none, none, some (vI l4), some (vI l5), some (vL l6), none, some (vI l8), some (vI l9), some (vI l10), none] [vI r6, vI r4] M5
        refine RN_k (callX_det _) 1 _ _ _ _ (show (r6 ≤ r4 → R130 sl sx d M0 P 112 [some (vR (some l0)), none, none, none, some (vI l4), some (vI l5), some (vL l6), none, some (vI l8), some (vI l9), some (vI l10), none] [] M5) ∧ (¬ (r6 ≤ r4) → R130 sl sx d M0 P 108 [some (vR (some l0)), none, none, none, some (vI l4), some (vI l5), some (vL l6), none, some (vI l8), some (vI l9), some (vI l10), none] [] M5) from ⟨fun hc => ?_, fun hc => ?_⟩)
        · replace h := h.1 hc
          refine RN_k (callX_det _) 1 _ _ _ _ (show R130 sl sx d M0 P 113 [some (vR (some l0)), none, none, none, some (vI l4), some (vI l5), some (vL l6), none, some (vI l8), some (vI l9), some (vI l10), none] [vI (0 : Int32)] M5 from ?_)
          exact RN_weak (K := [some (vR (some l0)), none, none, none, some (vI l4), some (vI l5), some (vL l6), none, some (vI l8), some (vI l9), some (vI l10), none]) (callX_det _) (show _ ∧ _ ∧ _ ∧ _ ∧ _ ∧ _ ∧ _ ∧ True from ⟨rfl, rfl, rfl, rfl, rfl, rfl, rfl, trivial⟩) (t130_113 ih l0 l4 l5 l6 l8 l9 l10 (0 : Int32) _ hM h)
        · replace h := h.2 hc
          exact RN_weak (K := [some (vR (some l0)), none, none, none, some (vI l4), some (vI l5), some (vL l6), none, some (vI l8), some (vI l9), some (vI l10), none]) (callX_det _) (show _ ∧ _ ∧ _ ∧ _ ∧ _ ∧ _ ∧ _ ∧ True from ⟨rfl, rfl, rfl, rfl, rfl, rfl, rfl, trivial⟩) (t130_108 ih l0 l4 l5 l6 l8 l9 l10 _ hM h)
def w130_19 (l0 : Nat) (M : MM) (P : Int32 → MM → Prop) : Prop := kd M l0 9 ∧ w17 l0 (1 : Int32) M (fun r2 M1 => P r2 M1)
theorem t130_19 {sl : Nat} {sx : Nat → Int32} {d : Nat} {M0 : MM} {P : Int32 → MM → Prop} (l0 : Nat) (M : MM) (hM : lenO M0 M) (h : w130_19  l0 M P) : R130 sl sx d M0 P 19 [some (vR (some l0)), none, none, none, none, none, none, none, none, none, none, none] [] M := by
  refine RN_k (callX_det _) 3 _ _ _ _ (show kd M l0 9 ∧ callX TBg sl sx (d + 6) 17 [vR (some l0), vI (1 : Int32)] M (fun v M9 => R130 sl sx d M0 P 24 [some (vR (some l0)), none, none, none, none, none, none, none, none, none, none, none] (pushO v []) M9) from ⟨h.1, ?_⟩)
  replace h := h.2
  refine callX_mono (callX_len (d := (d + 6)) rfl rfl rfl (c17 (d := d + 5) h)) ?_
  clear h
  rintro v9 M1 ⟨hl, r2, rfl, h⟩
  replace hM := lenT hM hl
  show R130 sl sx d M0 P 24 [some (vR (some l0)), none, none, none, none, none, none, none, none, none, none, none] [vI r2] M1
  exact RN_k (callX_det _) 1 _ _ _ _ (show rtW q130 M0 (PI P) (some (vI r2)) M1 from ⟨⟨_, rfl⟩, hM.1, hM.2, _, rfl, h⟩)
def w130 (l0 : Nat) (l1 : Int32) (l2 : Int32) (l3 : Int32) (l4 : Int32) (M : MM) (P : Int32 → MM → Prop) : Prop := w74 l2 l3 M (fun r2 M1 => (r2 = 0 → (w130_19  l0 M1 P)) ∧ (¬ (r2 = 0) → ((l4 < 0 → (w130_19  l0 M1 P)) ∧ (¬ (l4 < 0) → ((l4 ≤ (1 : Int32) → (kd M1 l0 9 ∧ w40 l0 l1 M1 (fun r4 M3 => (r4 ≠ 0 → (kd M3 l0 9 ∧ (∃ a5, mR M3 l0 5 = some a5 ∧ (inb M3 a5 16 l1 ∧ (∃ a6, mR M3 a5 l1.toNatClampNeg = some a6 ∧ (kd M3 a6 8 ∧ (kd M3 l0 9 ∧ (∃ a7, mR M3 l0 5 = some a7 ∧ (inb M3 a7 16 l1 ∧ (kd M3 l0 9 ∧ w131 l0 (mR M3 a7 l1.toNatClampNeg) l2 l3 M3 (fun r9 M8 => ∃ n2, w130_81  n2 l0 l4 ((mI M3 a6 1) - (1 : Int32)) r9 ((1 : Int32) ||| ((1 : Int32) <<< (((mI M3 a6 1) - (1 : Int32)) &&& 31))) (0 : Int32) ((1 : Int32) ||| ((1 : Int32) <<< (((mI M3 a6 1) - (1 : Int32)) &&& 31))) M8 P))))))))))) ∧ (¬ (r4 ≠ 0) → (kd M3 l0 9 ∧ w17 l0 (2 : Int32) M3 (fun r11 M10 => P r11 M10)))))) ∧ (¬ (l4 ≤ (1 : Int32)) → (w130_19  l0 M1 P)))))))
theorem t130_E {sl : Nat} {sx : Nat → Int32} {d : Nat} {M0 : MM} {P : Int32 → MM → Prop} (l0 : Nat) (l1 : Int32) (l2 : Int32) (l3 : Int32) (l4 : Int32) (M : MM) (hM : lenO M0 M) (h : w130  l0 l1 l2 l3 l4 M P) : R130 sl sx d M0 P 0 [some (vR (some l0)), some (vI l1), some (vI l2), some (vI l3), some (vI l4), none, none, none, none, none, none, none] [] M := by
  refine RN_k (callX_det _) 3 _ _ _ _ (show callX TBg sl sx (d + 6) 74 [vI l2, vI l3] M (fun v M9 => R130 sl sx d M0 P 5 [some (vR (some l0)), some (vI l1), some (vI l2), some (vI l3), some (vI l4), none, none, none, none, none, none, none] (pushO v []) M9) from ?_)
  refine callX_mono (callX_len (d := (d + 6)) rfl rfl rfl (c74 (d := d + 5) h)) ?_
  clear h
  rintro v9 M1 ⟨hl, r2, rfl, h⟩
  replace hM := lenT hM hl
  show R130 sl sx d M0 P 5 [some (vR (some l0)), some (vI l1), some (vI l2), some (vI l3), some (vI l4), none, none, none, none, none, none, none] [vI r2] M1
  refine RN_k (callX_det _) 1 _ _ _ _ (show (r2 = 0 → R130 sl sx d M0 P 19 [some (vR (some l0)), some (vI l1), some (vI l2), some (vI l3), some (vI l4), none, none, none, none, none, none, none] [] M1) ∧ (¬ (r2 = 0) → R130 sl sx d M0 P 8 [some (vR (some l0)), some (vI l1), some (vI l2), some (vI l3), some (vI l4), none, none, none, none, none, none, none] [] M1) from ⟨fun hc => ?_, fun hc => ?_⟩)
  · replace h := h.1 hc
    exact RN_weak (K := [some (vR (some l0)), none, none, none, none, none, none, none, none, none, none, none]) (callX_det _) (show _ ∧ True from ⟨rfl, trivial⟩) (t130_19  l0 _ hM h)
  · replace h := h.2 hc
    refine RN_k (callX_det _) 2 _ _ _ _ (show (l4 < 0 → R130 sl sx d M0 P 19 [some (vR (some l0)), some (vI l1), some (vI l2), some (vI l3), some (vI l4), none, none, none, none, none, none, none] [] M1) ∧ (¬ (l4 < 0) → R130 sl sx d M0 P 13 [some (vR (some l0)), some (vI l1), some (vI l2), some (vI l3), some (vI l4), none, none, none, none, none, none, none] [] M1) from ⟨fun hc => ?_, fun hc => ?_⟩)
    · replace h := h.1 hc
      exact RN_weak (K := [some (vR (some l0)), none, none, none, none, none, none, none, none, none, none, none]) (callX_det _) (show _ ∧ True from ⟨rfl, trivial⟩) (t130_19  l0 _ hM h)
    · replace h := h.2 hc
      refine RN_k (callX_det _) 3 _ _ _ _ (show (l4 ≤ (1 : Int32) → R130 sl sx d M0 P 25 [some (vR (some l0)), some (vI l1), some (vI l2), some (vI l3), some (vI l4), none, none, none, none, none, none, none] [] M1) ∧ (¬ (l4 ≤ (1 : Int32)) → R130 sl sx d M0 P 19 [some (vR (some l0)), some (vI l1), some (vI l2), some (vI l3), some (vI l4), none, none, none, none, none, none, none] [] M1) from ⟨fun hc => ?_, fun hc => ?_⟩)
      · replace h := h.1 hc
        refine RN_k (callX_det _) 3 _ _ _ _ (show kd M1 l0 9 ∧ callX TBg sl sx (d + 6) 40 [vR (some l0), vI l1] M1 (fun v M9 => R130 sl sx d M0 P 30 [some (vR (some l0)), some (vI l1), some (vI l2), some (vI l3), some (vI l4), none, none, none, none, none, none, none] (pushO v []) M9) from ⟨h.1, ?_⟩)
        replace h := h.2
        refine callX_mono (callX_len (d := (d + 6)) rfl rfl rfl (c40 (d := d + 5) h)) ?_
        clear h
        rintro v9 M3 ⟨hl, r4, rfl, h⟩
        replace hM := lenT hM hl
        show R130 sl sx d M0 P 30 [some (vR (some l0)), some (vI l1), some (vI l2), some (vI l3), some (vI l4), none, none, none, none, none, none, none] [vI r4] M3
        refine RN_k (callX_det _) 1 _ _ _ _ (show (r4 ≠ 0 → R130 sl sx d M0 P 39 [some (vR (some l0)), some (vI l1), some (vI l2), some (vI l3), some (vI l4), none, none, none, none, none, none, none] [] M3) ∧ (¬ (r4 ≠ 0) → R130 sl sx d M0 P 33 [some (vR (some l0)), some (vI l1), some (vI l2), some (vI l3), some (vI l4), none, none, none, none, none, none, none] [] M3) from ⟨fun hc => ?_, fun hc => ?_⟩)
        · replace h := h.1 hc
          refine RN_k (callX_det _) 2 _ _ _ _ (show kd M3 l0 9 ∧ R130 sl sx d M0 P 43 [some (vR (some l0)), some (vI l1), some (vI l2), some (vI l3), some (vI l4), none, none, none, none, none, none, none] [vR (mR M3 l0 5)] M3 from ⟨h.1, ?_⟩)
          replace h := h.2
          obtain ⟨a5, he, h⟩ := h
          refine RN_k (callX_det _) 1 _ _ _ _ (show R130 sl sx d M0 P 44 [some (vR (some l0)), some (vI l1), some (vI l2), some (vI l3), some (vI l4), none, none, none, none, none, none, none] [vI l1, vR (mR M3 l0 5)] M3 from ?_)
          rw [he]
          refine RN_k (callX_det _) 1 _ _ _ _ (show inb M3 a5 16 l1 ∧ R130 sl sx d M0 P 45 [some (vR (some l0)), some (vI l1), some (vI l2), some (vI l3), some (vI l4), none, none, none, none, none, none, none] [vR (mR M3 a5 l1.toNatClampNeg)] M3 from ⟨h.1, ?_⟩)
          replace h := h.2
          obtain ⟨a6, he, h⟩ := h
          rw [he]
          refine RN_k (callX_det _) 1 _ _ _ _ (show kd M3 a6 8 ∧ R130 sl sx d M0 P 48 [some (vR (some l0)), some (vI l1), some (vI l2), some (vI l3), some (vI l4), none, none, none, none, none, none, none] [vI (mI M3 a6 1)] M3 from ⟨h.1, ?_⟩)
          replace h := h.2
          refine RN_k (callX_det _) 6 _ _ _ _ (show kd M3 l0 9 ∧ R130 sl sx d M0 P 57 [some (vR (some l0)), some (vI l1), some (vI l2), some (vI l3), some (vI l4), some (vI ((mI M3 a6 1) - (1 : Int32))), none, none, none, none, none, none] [vR (mR M3 l0 5), vR (some l0)] M3 from ⟨h.1, ?_⟩)
          replace h := h.2
          obtain ⟨a7, he, h⟩ := h
          refine RN_k (callX_det _) 1 _ _ _ _ (show R130 sl sx d M0 P 58 [some (vR (some l0)), some (vI l1), some (vI l2), some (vI l3), some (vI l4), some (vI ((mI M3 a6 1) - (1 : Int32))), none, none, none, none, none, none] [vI l1, vR (mR M3 l0 5), vR (some l0)] M3 from ?_)
          rw [he]
          refine RN_k (callX_det _) 1 _ _ _ _ (show inb M3 a7 16 l1 ∧ R130 sl sx d M0 P 59 [some (vR (some l0)), some (vI l1), some (vI l2), some (vI l3), some (vI l4), some (vI ((mI M3 a6 1) - (1 : Int32))), none, none, none, none, none, none] [vR (mR M3 a7 l1.toNatClampNeg), vR (some l0)] M3 from ⟨h.1, ?_⟩)
          replace h := h.2
          refine RN_k (callX_det _) 3 _ _ _ _ (show kd M3 l0 9 ∧ callX TBg sl sx (d + 6) 131 [vR (some l0), vR (mR M3 a7 l1.toNatClampNeg), vI l2, vI l3] M3 (fun v M9 => R130 sl sx d M0 P 64 [some (vR (some l0)), some (vI l1), some (vI l2), some (vI l3), some (vI l4), some (vI ((mI M3 a6 1) - (1 : Int32))), none, none, none, none, none, none] (pushO v []) M9) from ⟨h.1, ?_⟩)
          replace h := h.2
          refine callX_mono (callX_len (d := (d + 6)) rfl rfl rfl (c131 (d := d) h)) ?_
          clear h
          rintro v9 M8 ⟨hl, r9, rfl, h⟩
          replace hM := lenT hM hl
          show R130 sl sx d M0 P 64 [some (vR (some l0)), some (vI l1), some (vI l2), some (vI l3), some (vI l4), some (vI ((mI M3 a6 1) - (1 : Int32))), none, none, none, none, none, none] [vL r9] M8
          refine RN_k (callX_det _) 11 _ _ _ _ (show R130 sl sx d M0 P 81 [some (vR (some l0)), some (vI l1), some (vI l2), some (vI l3), some (vI l4), some (vI ((mI M3 a6 1) - (1 : Int32))), some (vL r9), none, some (vI ((1 : Int32) ||| ((1 : Int32) <<< (((mI M3 a6 1) - (1 : Int32)) &&& 31)))), some (vI (0 : Int32)), some (vI ((1 : Int32) ||| ((1 : Int32) <<< (((mI M3 a6 1) - (1 : Int32)) &&& 31)))), none] [] M8 from ?_)
          obtain ⟨n2, h⟩ := h
          exact RN_weak (K := [some (vR (some l0)), none, none, none, some (vI l4), some (vI ((mI M3 a6 1) - (1 : Int32))), some (vL r9), none, some (vI ((1 : Int32) ||| ((1 : Int32) <<< (((mI M3 a6 1) - (1 : Int32)) &&& 31)))), some (vI (0 : Int32)), some (vI ((1 : Int32) ||| ((1 : Int32) <<< (((mI M3 a6 1) - (1 : Int32)) &&& 31)))), none]) (callX_det _) (show _ ∧ _ ∧ _ ∧ _ ∧ _ ∧ _ ∧ _ ∧ True from ⟨rfl, rfl, rfl, rfl, rfl, rfl, rfl, trivial⟩) (t130_81  n2 l0 l4 ((mI M3 a6 1) - (1 : Int32)) r9 ((1 : Int32) ||| ((1 : Int32) <<< (((mI M3 a6 1) - (1 : Int32)) &&& 31))) (0 : Int32) ((1 : Int32) ||| ((1 : Int32) <<< (((mI M3 a6 1) - (1 : Int32)) &&& 31))) _ hM h)
        · replace h := h.2 hc
          refine RN_k (callX_det _) 3 _ _ _ _ (show kd M3 l0 9 ∧ callX TBg sl sx (d + 6) 17 [vR (some l0), vI (2 : Int32)] M3 (fun v M9 => R130 sl sx d M0 P 38 [some (vR (some l0)), some (vI l1), some (vI l2), some (vI l3), some (vI l4), none, none, none, none, none, none, none] (pushO v []) M9) from ⟨h.1, ?_⟩)
          replace h := h.2
          refine callX_mono (callX_len (d := (d + 6)) rfl rfl rfl (c17 (d := d + 5) h)) ?_
          clear h
          rintro v9 M10 ⟨hl, r11, rfl, h⟩
          replace hM := lenT hM hl
          show R130 sl sx d M0 P 38 [some (vR (some l0)), some (vI l1), some (vI l2), some (vI l3), some (vI l4), none, none, none, none, none, none, none] [vI r11] M10
          exact RN_k (callX_det _) 1 _ _ _ _ (show rtW q130 M0 (PI P) (some (vI r11)) M10 from ⟨⟨_, rfl⟩, hM.1, hM.2, _, rfl, h⟩)
      · replace h := h.2 hc
        exact RN_weak (K := [some (vR (some l0)), none, none, none, none, none, none, none, none, none, none, none]) (callX_det _) (show _ ∧ True from ⟨rfl, trivial⟩) (t130_19  l0 _ hM h)
theorem c130 {sl : Nat} {sx : Nat → Int32} {d : Nat} {l0 : Nat} {l1 : Int32} {l2 : Int32} {l3 : Int32} {l4 : Int32} {M : MM} {P : Int32 → MM → Prop} (h : w130 l0 l1 l2 l3 l4 M P) : callX TBg sl sx (d + 7) 130 [vR (some l0), vI l1, vI l2, vI l3, vI l4] M (PI P) :=
  cX (d := d + 6) q130 (false, tb130) rfl rfl rfl (t130_E l0 l1 l2 l3 l4 M lenR h)
-- TwoLeash.kin(I)I
abbrev q135 : MQ7 := (2, 1, 4, 9, 0, 0, 1)
abbrev R135 (sl : Nat) (sx : Nat → Int32) (d : Nat) (M0 : MM) (P : Int32 → MM → Prop) : Nat → LL → List VV → MM → Prop := RN 9 false (mS M0).length (mT M0) 0 0 sl sx (callX TBg sl sx (d + 5)) (rtW q135 M0 (PI P)) (as2 tb135)
def w135_111 (s0 : Int32) (M : MM) (P : Int32 → MM → Prop) : Prop := P s0 M
theorem t135_111 {sl : Nat} {sx : Nat → Int32} {d : Nat} {M0 : MM} {P : Int32 → MM → Prop} (s0 : Int32) (M : MM) (hM : lenO M0 M) (h : w135_111  s0 M P) : R135 sl sx d M0 P 111 [none, none, none, none] [vI s0] M := by
  exact RN_k (callX_det _) 1 _ _ _ _ (show rtW q135 M0 (PI P) (some (vI s0)) M from ⟨⟨_, rfl⟩, hM.1, hM.2, _, rfl, h⟩)
def w135_87 (k18 : Nat → Int32 → Int32 → Int32 → MM → Prop) (l0 : Nat) (l1 : Int32) (l2 : Int32) (l3 : Int32) (M : MM) (P : Int32 → MM → Prop) : Prop := k18 l0 l1 l2 (l3 + (1 : Int32)) M
theorem t135_87 {sl : Nat} {sx : Nat → Int32} {d : Nat} {M0 : MM} {P : Int32 → MM → Prop} {k18 : Nat → Int32 → Int32 → Int32 → MM → Prop} (hk18 : ∀ (l0 : Nat) (l1 : Int32) (l2 : Int32) (l3 : Int32) (M : MM), lenO M0 M → k18 l0 l1 l2 l3 M → R135 sl sx d M0 P 18 [some (vR (some l0)), some (vI l1), some (vI l2), some (vI l3)] [] M) (l0 : Nat) (l1 : Int32) (l2 : Int32) (l3 : Int32) (M : MM) (hM : lenO M0 M) (h : w135_87 k18 l0 l1 l2 l3 M P) : R135 sl sx d M0 P 87 [some (vR (some l0)), some (vI l1), some (vI l2), some (vI l3)] [] M := by
  refine RN_k (callX_det _) 2 _ _ _ _ (show R135 sl sx d M0 P 18 [some (vR (some l0)), some (vI l1), some (vI l2), some (vI (l3 + (1 : Int32)))] [] M from ?_)
  exact RN_weak (K := [some (vR (some l0)), some (vI l1), some (vI l2), some (vI (l3 + (1 : Int32)))]) (callX_det _) (show _ ∧ _ ∧ _ ∧ _ ∧ True from ⟨rfl, rfl, rfl, rfl, trivial⟩) (hk18 l0 l1 l2 (l3 + (1 : Int32)) _ hM h)
def w135_74 (k18 : Nat → Int32 → Int32 → Int32 → MM → Prop) (l0 : Nat) (l1 : Int32) (l3 : Int32) (M : MM) (P : Int32 → MM → Prop) : Prop := kd M l0 9 ∧ (kd M l0 9 ∧ (∃ a1, mR M l0 13 = some a1 ∧ (kd M a1 3 ∧ w56 a1 (mR M l0 12) M (fun M2 => w135_87 k18 l0 l1 l3 l3 M2 P))))
theorem t135_74 {sl : Nat} {sx : Nat → Int32} {d : Nat} {M0 : MM} {P : Int32 → MM → Prop} {k18 : Nat → Int32 → Int32 → Int32 → MM → Prop} (hk18 : ∀ (l0 : Nat) (l1 : Int32) (l2 : Int32) (l3 : Int32) (M : MM), lenO M0 M → k18 l0 l1 l2 l3 M → R135 sl sx d M0 P 18 [some (vR (some l0)), some (vI l1), some (vI l2), some (vI l3)] [] M) (l0 : Nat) (l1 : Int32) (l3 : Int32) (M : MM) (hM : lenO M0 M) (h : w135_74 k18 l0 l1 l3 M P) : R135 sl sx d M0 P 74 [some (vR (some l0)), some (vI l1), none, some (vI l3)] [] M := by
  refine RN_k (callX_det _) 4 _ _ _ _ (show kd M l0 9 ∧ R135 sl sx d M0 P 80 [some (vR (some l0)), some (vI l1), some (vI l3), some (vI l3)] [vR (mR M l0 13)] M from ⟨h.1, ?_⟩)
  replace h := h.2
  refine RN_k (callX_det _) 2 _ _ _ _ (show kd M l0 9 ∧ R135 sl sx d M0 P 84 [some (vR (some l0)), some (vI l1), some (vI l3), some (vI l3)] [vR (mR M l0 12), vR (mR M l0 13)] M from ⟨h.1, ?_⟩)
  replace h := h.2
  obtain ⟨a1, he, h⟩ := h
  rw [he]
  refine RN_k (callX_det _) 1 _ _ _ _ (show kd M a1 3 ∧ callX TBg sl sx (d + 5) 56 [vR (some a1), vR (mR M l0 12)] M (fun v M9 => R135 sl sx d M0 P 87 [some (vR (some l0)), some (vI l1), some (vI l3), some (vI l3)] (pushO v []) M9) from ⟨h.1, ?_⟩)
  replace h := h.2
  refine callX_mono (callX_len (d := (d + 5)) rfl rfl rfl (c56 (d := d + 4) h)) ?_
  clear h
  rintro v9 M2 ⟨hl, rfl, h⟩
  replace hM := lenT hM hl
  show R135 sl sx d M0 P 87 [some (vR (some l0)), some (vI l1), some (vI l3), some (vI l3)] [] M2
  exact RN_weak (K := [some (vR (some l0)), some (vI l1), some (vI l3), some (vI l3)]) (callX_det _) (show _ ∧ _ ∧ _ ∧ _ ∧ True from ⟨rfl, rfl, rfl, rfl, trivial⟩) (t135_87 hk18 l0 l1 l3 l3 _ hM h)
def w135_18 : Nat → Nat → Int32 → Int32 → Int32 → MM → (Int32 → MM → Prop) → Prop
  | 0 => fun _ _ _ _ _ _ => False
  | n + 1 => fun l0 l1 l2 l3 M P => kd M l0 9 ∧ (((mI M l0 6) ≤ l3 → ((l2 ≠ (-1 : Int32) → (kd M l0 9 ∧ w35 l0 l2 M (fun r2 M1 => w135_111  r2 M1 P))) ∧ (¬ (l2 ≠ (-1 : Int32)) → (kd M l0 9 ∧ w17 l0 (5 : Int32) M (fun r4 M3 => w135_111  r4 M3 P))))) ∧ (¬ ((mI M l0 6) ≤ l3) → ((l3 = l1 → (w135_87 (fun z0 z1 z2 z3 z4 => w135_18  n z0 z1 z2 z3 z4 P) l0 l1 l2 l3 M P)) ∧ (¬ (l3 = l1) → (kd M l0 9 ∧ (kd M l0 9 ∧ (∃ a5, mR M l0 5 = some a5 ∧ (inb M a5 16 l1 ∧ (kd M l0 9 ∧ (∃ a6, mR M l0 5 = some a6 ∧ (inb M a6 16 l3 ∧ (kd M l0 9 ∧ (∃ a7, mR M l0 15 = some a7 ∧ (kd M a7 5 ∧ w106 a7 (mR M a5 l1.toNatClampNeg) (mR M a6 l3.toNatClampNeg) (0 : Int32) (mR M l0 12) M (fun M8 => (l2 = (-1 : Int32) → (w135_74 (fun z0 z1 z2 z3 z4 => w135_18  n z0 z1 z2 z3 z4 P) l0 l1 l3 M8 P)) ∧ (¬ (l2 = (-1 : Int32)) → (kd M8 l0 9 ∧ (kd M8 l0 9 ∧ (∃ a9, mR M8 l0 12 = some a9 ∧ (kd M8 a9 3 ∧ w63 a9 (mR M8 l0 13) M8 (fun r11 M10 => (r11 = 0 → (w135_87 (fun z0 z1 z2 z3 z4 => w135_18  n z0 z1 z2 z3 z4 P) l0 l1 l2 l3 M10 P)) ∧ (¬ (r11 = 0) → (w135_74 (fun z0 z1 z2 z3 z4 => w135_18  n z0 z1 z2 z3 z4 P) l0 l1 l3 M10 P)))))))))))))))))))))))
theorem t135_18 {sl : Nat} {sx : Nat → Int32} {d : Nat} {M0 : MM} {P : Int32 → MM → Prop} (n : Nat) : ∀ (l0 : Nat) (l1 : Int32) (l2 : Int32) (l3 : Int32) (M : MM) (_ : lenO M0 M) (_ : w135_18  n l0 l1 l2 l3 M P), R135 sl sx d M0 P 18 [some (vR (some l0)), some (vI l1), some (vI l2), some (vI l3)] [] M := by
  induction n with
  | zero => intro l0 l1 l2 l3 M hM h; cases h
  | succ n ih =>
    intro l0 l1 l2 l3 M hM h
    refine RN_k (callX_det _) 3 _ _ _ _ (show kd M l0 9 ∧ R135 sl sx d M0 P 23 [some (vR (some l0)), some (vI l1), some (vI l2), some (vI l3)] [vI (mI M l0 6), vI l3] M from ⟨h.1, ?_⟩)
    replace h := h.2
    refine RN_k (callX_det _) 1 _ _ _ _ (show ((mI M l0 6) ≤ l3 → R135 sl sx d M0 P 93 [some (vR (some l0)), some (vI l1), some (vI l2), some (vI l3)] [] M) ∧ (¬ ((mI M l0 6) ≤ l3) → R135 sl sx d M0 P 26 [some (vR (some l0)), some (vI l1), some (vI l2), some (vI l3)] [] M) from ⟨fun hc => ?_, fun hc => ?_⟩)
    · replace h := h.1 hc
      refine RN_k (callX_det _) 3 _ _ _ _ (show (l2 ≠ (-1 : Int32) → R135 sl sx d M0 P 106 [some (vR (some l0)), some (vI l1), some (vI l2), some (vI l3)] [] M) ∧ (¬ (l2 ≠ (-1 : Int32)) → R135 sl sx d M0 P 98 [some (vR (some l0)), some (vI l1), some (vI l2), some (vI l3)] [] M) from ⟨fun hc => ?_, fun hc => ?_⟩)
      · replace h := h.1 hc
        refine RN_k (callX_det _) 3 _ _ _ _ (show kd M l0 9 ∧ callX TBg sl sx (d + 5) 35 [vR (some l0), vI l2] M (fun v M9 => R135 sl sx d M0 P 111 [some (vR (some l0)), some (vI l1), some (vI l2), some (vI l3)] (pushO v []) M9) from ⟨h.1, ?_⟩)
        replace h := h.2
        refine callX_mono (callX_len (d := (d + 5)) rfl rfl rfl (c35 (d := d + 4) h)) ?_
        clear h
        rintro v9 M1 ⟨hl, r2, rfl, h⟩
        replace hM := lenT hM hl
        show R135 sl sx d M0 P 111 [some (vR (some l0)), some (vI l1), some (vI l2), some (vI l3)] [vI r2] M1
        exact RN_weak (K := [none, none, none, none]) (callX_det _) (show True from trivial) (t135_111  r2 _ hM h)
      · replace h := h.2 hc
        refine RN_k (callX_det _) 3 _ _ _ _ (show kd M l0 9 ∧ callX TBg sl sx (d + 5) 17 [vR (some l0), vI (5 : Int32)] M (fun v M9 => R135 sl sx d M0 P 103 [some (vR (some l0)), some (vI l1), some (vI l2), some (vI l3)] (pushO v []) M9) from ⟨h.1, ?_⟩)
        replace h := h.2
        refine callX_mono (callX_len (d := (d + 5)) rfl rfl rfl (c17 (d := d + 4) h)) ?_
        clear h
        rintro v9 M3 ⟨hl, r4, rfl, h⟩
        replace hM := lenT hM hl
        show R135 sl sx d M0 P 103 [some (vR (some l0)), some (vI l1), some (vI l2), some (vI l3)] [vI r4] M3
        refine RN_k (callX_det _) 1 _ _ _ _ (show R135 sl sx d M0 P 111 [some (vR (some l0)), some (vI l1), some (vI l2), some (vI l3)] [vI r4] M3 from ?_)
        exact RN_weak (K := [none, none, none, none]) (callX_det _) (show True from trivial) (t135_111  r4 _ hM h)
    · replace h := h.2 hc
      refine RN_k (callX_det _) 3 _ _ _ _ (show (l3 = l1 → R135 sl sx d M0 P 87 [some (vR (some l0)), some (vI l1), some (vI l2), some (vI l3)] [] M) ∧ (¬ (l3 = l1) → R135 sl sx d M0 P 31 [some (vR (some l0)), some (vI l1), some (vI l2), some (vI l3)] [] M) from ⟨fun hc => ?_, fun hc => ?_⟩)
      · replace h := h.1 hc
        exact RN_weak (K := [some (vR (some l0)), some (vI l1), some (vI l2), some (vI l3)]) (callX_det _) (show _ ∧ _ ∧ _ ∧ _ ∧ True from ⟨rfl, rfl, rfl, rfl, trivial⟩) (t135_87 ih l0 l1 l2 l3 _ hM h)
      · replace h := h.2 hc
        refine RN_k (callX_det _) 2 _ _ _ _ (show kd M l0 9 ∧ R135 sl sx d M0 P 35 [some (vR (some l0)), some (vI l1), some (vI l2), some (vI l3)] [vR (mR M l0 15)] M from ⟨h.1, ?_⟩)
        replace h := h.2
        refine RN_k (callX_det _) 2 _ _ _ _ (show kd M l0 9 ∧ R135 sl sx d M0 P 39 [some (vR (some l0)), some (vI l1), some (vI l2), some (vI l3)] [vR (mR M l0 5), vR (mR M l0 15)] M from ⟨h.1, ?_⟩)
        replace h := h.2
        obtain ⟨a5, he, h⟩ := h
        refine RN_k (callX_det _) 1 _ _ _ _ (show R135 sl sx d M0 P 40 [some (vR (some l0)), some (vI l1), some (vI l2), some (vI l3)] [vI l1, vR (mR M l0 5), vR (mR M l0 15)] M from ?_)
        rw [he]
        refine RN_k (callX_det _) 1 _ _ _ _ (show inb M a5 16 l1 ∧ R135 sl sx d M0 P 41 [some (vR (some l0)), some (vI l1), some (vI l2), some (vI l3)] [vR (mR M a5 l1.toNatClampNeg), vR (mR M l0 15)] M from ⟨h.1, ?_⟩)
        replace h := h.2
        refine RN_k (callX_det _) 2 _ _ _ _ (show kd M l0 9 ∧ R135 sl sx d M0 P 45 [some (vR (some l0)), some (vI l1), some (vI l2), some (vI l3)] [vR (mR M l0 5), vR (mR M a5 l1.toNatClampNeg), vR (mR M l0 15)] M from ⟨h.1, ?_⟩)
        replace h := h.2
        obtain ⟨a6, he, h⟩ := h
        refine RN_k (callX_det _) 1 _ _ _ _ (show R135 sl sx d M0 P 46 [some (vR (some l0)), some (vI l1), some (vI l2), some (vI l3)] [vI l3, vR (mR M l0 5), vR (mR M a5 l1.toNatClampNeg), vR (mR M l0 15)] M from ?_)
        rw [he]
        refine RN_k (callX_det _) 1 _ _ _ _ (show inb M a6 16 l3 ∧ R135 sl sx d M0 P 47 [some (vR (some l0)), some (vI l1), some (vI l2), some (vI l3)] [vR (mR M a6 l3.toNatClampNeg), vR (mR M a5 l1.toNatClampNeg), vR (mR M l0 15)] M from ⟨h.1, ?_⟩)
        replace h := h.2
        refine RN_k (callX_det _) 3 _ _ _ _ (show kd M l0 9 ∧ R135 sl sx d M0 P 52 [some (vR (some l0)), some (vI l1), some (vI l2), some (vI l3)] [vR (mR M l0 12), vI (0 : Int32), vR (mR M a6 l3.toNatClampNeg), vR (mR M a5 l1.toNatClampNeg), vR (mR M l0 15)] M from ⟨h.1, ?_⟩)
        replace h := h.2
        obtain ⟨a7, he, h⟩ := h
        rw [he]
        refine RN_k (callX_det _) 1 _ _ _ _ (show kd M a7 5 ∧ callX TBg sl sx (d + 5) 106 [vR (some a7), vR (mR M a5 l1.toNatClampNeg), vR (mR M a6 l3.toNatClampNeg), vI (0 : Int32), vR (mR M l0 12)] M (fun v M9 => R135 sl sx d M0 P 55 [some (vR (some l0)), some (vI l1), some (vI l2), some (vI l3)] (pushO v []) M9) from ⟨h.1, ?_⟩)
        replace h := h.2
        refine callX_mono (callX_len (d := (d + 5)) rfl rfl rfl (c106 (d := d) h)) ?_
        clear h
        rintro v9 M8 ⟨hl, rfl, h⟩
        replace hM := lenT hM hl
        show R135 sl sx d M0 P 55 [some (vR (some l0)), some (vI l1), some (vI l2), some (vI l3)] [] M8
        refine RN_k (callX_det _) 3 _ _ _ _ (show (l2 = (-1 : Int32) → R135 sl sx d M0 P 74 [some (vR (some l0)), some (vI l1), some (vI l2), some (vI l3)] [] M8) ∧ (¬ (l2 = (-1 : Int32)) → R135 sl sx d M0 P 60 [some (vR (some l0)), some (vI l1), some (vI l2), some (vI l3)] [] M8) from ⟨fun hc => ?_, fun hc => ?_⟩)
        · replace h := h.1 hc
          exact RN_weak (K := [some (vR (some l0)), some (vI l1), none, some (vI l3)]) (callX_det _) (show _ ∧ _ ∧ _ ∧ True from ⟨rfl, rfl, rfl, trivial⟩) (t135_74 ih l0 l1 l3 _ hM h)
        · replace h := h.2 hc
          refine RN_k (callX_det _) 2 _ _ _ _ (show kd M8 l0 9 ∧ R135 sl sx d M0 P 64 [some (vR (some l0)), some (vI l1), some (vI l2), some (vI l3)] [vR (mR M8 l0 12)] M8 from ⟨h.1, ?_⟩)
          replace h := h.2
          refine RN_k (callX_det _) 2 _ _ _ _ (show kd M8 l0 9 ∧ R135 sl sx d M0 P 68 [some (vR (some l0)), some (vI l1), some (vI l2), some (vI l3)] [vR (mR M8 l0 13), vR (mR M8 l0 12)] M8 from ⟨h.1, ?_⟩)
          replace h := h.2
          obtain ⟨a9, he, h⟩ := h
          rw [he]
          refine RN_k (callX_det _) 1 _ _ _ _ (show kd M8 a9 3 ∧ callX TBg sl sx (d + 5) 63 [vR (some a9), vR (mR M8 l0 13)] M8 (fun v M9 => R135 sl sx d M0 P 71 [some (vR (some l0)), some (vI l1), some (vI l2), some (vI l3)] (pushO v []) M9) from ⟨h.1, ?_⟩)
          replace h := h.2
          refine callX_mono (callX_len (d := (d + 5)) rfl rfl rfl (c63 (d := d + 4) h)) ?_
          clear h
          rintro v9 M10 ⟨hl, r11, rfl, h⟩
          replace hM := lenT hM hl
          show R135 sl sx d M0 P 71 [some (vR (some l0)), some (vI l1), some (vI l2), some (vI l3)] [vI r11] M10
          refine RN_k (callX_det _) 1 _ _ _ _ (show (r11 = 0 → R135 sl sx d M0 P 87 [some (vR (some l0)), some (vI l1), some (vI l2), some (vI l3)] [] M10) ∧ (¬ (r11 = 0) → R135 sl sx d M0 P 74 [some (vR (some l0)), some (vI l1), some (vI l2), some (vI l3)] [] M10) from ⟨fun hc => ?_, fun hc => ?_⟩)
          · replace h := h.1 hc
            exact RN_weak (K := [some (vR (some l0)), some (vI l1), some (vI l2), some (vI l3)]) (callX_det _) (show _ ∧ _ ∧ _ ∧ _ ∧ True from ⟨rfl, rfl, rfl, rfl, trivial⟩) (t135_87 ih l0 l1 l2 l3 _ hM h)
          · replace h := h.2 hc
            exact RN_weak (K := [some (vR (some l0)), some (vI l1), none, some (vI l3)]) (callX_det _) (show _ ∧ _ ∧ _ ∧ True from ⟨rfl, rfl, rfl, trivial⟩) (t135_74 ih l0 l1 l3 _ hM h)
def w135 (l0 : Nat) (l1 : Int32) (M : MM) (P : Int32 → MM → Prop) : Prop := kd M l0 9 ∧ w40 l0 l1 M (fun r2 M1 => (r2 ≠ 0 → (∃ n2, w135_18  n2 l0 l1 (-1 : Int32) (0 : Int32) M1 P)) ∧ (¬ (r2 ≠ 0) → (kd M1 l0 9 ∧ w17 l0 (2 : Int32) M1 (fun r4 M3 => P r4 M3))))
theorem t135_E {sl : Nat} {sx : Nat → Int32} {d : Nat} {M0 : MM} {P : Int32 → MM → Prop} (l0 : Nat) (l1 : Int32) (M : MM) (hM : lenO M0 M) (h : w135  l0 l1 M P) : R135 sl sx d M0 P 0 [some (vR (some l0)), some (vI l1), none, none] [] M := by
  refine RN_k (callX_det _) 3 _ _ _ _ (show kd M l0 9 ∧ callX TBg sl sx (d + 5) 40 [vR (some l0), vI l1] M (fun v M9 => R135 sl sx d M0 P 5 [some (vR (some l0)), some (vI l1), none, none] (pushO v []) M9) from ⟨h.1, ?_⟩)
  replace h := h.2
  refine callX_mono (callX_len (d := (d + 5)) rfl rfl rfl (c40 (d := d + 4) h)) ?_
  clear h
  rintro v9 M1 ⟨hl, r2, rfl, h⟩
  replace hM := lenT hM hl
  show R135 sl sx d M0 P 5 [some (vR (some l0)), some (vI l1), none, none] [vI r2] M1
  refine RN_k (callX_det _) 1 _ _ _ _ (show (r2 ≠ 0 → R135 sl sx d M0 P 14 [some (vR (some l0)), some (vI l1), none, none] [] M1) ∧ (¬ (r2 ≠ 0) → R135 sl sx d M0 P 8 [some (vR (some l0)), some (vI l1), none, none] [] M1) from ⟨fun hc => ?_, fun hc => ?_⟩)
  · replace h := h.1 hc
    refine RN_k (callX_det _) 4 _ _ _ _ (show R135 sl sx d M0 P 18 [some (vR (some l0)), some (vI l1), some (vI (-1 : Int32)), some (vI (0 : Int32))] [] M1 from ?_)
    obtain ⟨n2, h⟩ := h
    exact RN_weak (K := [some (vR (some l0)), some (vI l1), some (vI (-1 : Int32)), some (vI (0 : Int32))]) (callX_det _) (show _ ∧ _ ∧ _ ∧ _ ∧ True from ⟨rfl, rfl, rfl, rfl, trivial⟩) (t135_18  n2 l0 l1 (-1 : Int32) (0 : Int32) _ hM h)
  · replace h := h.2 hc
    refine RN_k (callX_det _) 3 _ _ _ _ (show kd M1 l0 9 ∧ callX TBg sl sx (d + 5) 17 [vR (some l0), vI (2 : Int32)] M1 (fun v M9 => R135 sl sx d M0 P 13 [some (vR (some l0)), some (vI l1), none, none] (pushO v []) M9) from ⟨h.1, ?_⟩)
    replace h := h.2
    refine callX_mono (callX_len (d := (d + 5)) rfl rfl rfl (c17 (d := d + 4) h)) ?_
    clear h
    rintro v9 M3 ⟨hl, r4, rfl, h⟩
    replace hM := lenT hM hl
    show R135 sl sx d M0 P 13 [some (vR (some l0)), some (vI l1), none, none] [vI r4] M3
    exact RN_k (callX_det _) 1 _ _ _ _ (show rtW q135 M0 (PI P) (some (vI r4)) M3 from ⟨⟨_, rfl⟩, hM.1, hM.2, _, rfl, h⟩)
theorem c135 {sl : Nat} {sx : Nat → Int32} {d : Nat} {l0 : Nat} {l1 : Int32} {M : MM} {P : Int32 → MM → Prop} (h : w135 l0 l1 M P) : callX TBg sl sx (d + 6) 135 [vR (some l0), vI l1] M (PI P) :=
  cX (d := d + 5) q135 (false, tb135) rfl rfl rfl (t135_E l0 l1 M lenR h)
-- TwoLeash.findWorst(I)V
abbrev q137 : MQ7 := (2, 1, 3, 9, 0, 0, 0)
abbrev R137 (sl : Nat) (sx : Nat → Int32) (d : Nat) (M0 : MM) (P : MM → Prop) : Nat → LL → List VV → MM → Prop := RN 9 false (mS M0).length (mT M0) 0 0 sl sx (callX TBg sl sx (d + 5)) (rtW q137 M0 (PV P)) (as2 tb137)
def w137_73 (k11 : Nat → Int32 → Int32 → MM → Prop) (l0 : Nat) (l1 : Int32) (l2 : Int32) (M : MM) (P : MM → Prop) : Prop := k11 l0 l1 (l2 + (1 : Int32)) M
theorem t137_73 {sl : Nat} {sx : Nat → Int32} {d : Nat} {M0 : MM} {P : MM → Prop} {k11 : Nat → Int32 → Int32 → MM → Prop} (hk11 : ∀ (l0 : Nat) (l1 : Int32) (l2 : Int32) (M : MM), lenO M0 M → k11 l0 l1 l2 M → R137 sl sx d M0 P 11 [some (vR (some l0)), some (vI l1), some (vI l2)] [] M) (l0 : Nat) (l1 : Int32) (l2 : Int32) (M : MM) (hM : lenO M0 M) (h : w137_73 k11 l0 l1 l2 M P) : R137 sl sx d M0 P 73 [some (vR (some l0)), some (vI l1), some (vI l2)] [] M := by
  refine RN_k (callX_det _) 2 _ _ _ _ (show R137 sl sx d M0 P 11 [some (vR (some l0)), some (vI l1), some (vI (l2 + (1 : Int32)))] [] M from ?_)
  exact RN_weak (K := [some (vR (some l0)), some (vI l1), some (vI (l2 + (1 : Int32)))]) (callX_det _) (show _ ∧ _ ∧ _ ∧ True from ⟨rfl, rfl, rfl, trivial⟩) (hk11 l0 l1 (l2 + (1 : Int32)) _ hM h)
def w137_11 : Nat → Nat → Int32 → Int32 → MM → (MM → Prop) → Prop
  | 0 => fun _ _ _ _ _ => False
  | n + 1 => fun l0 l1 l2 M P => kd M l0 9 ∧ (((mI M l0 6) ≤ l2 → (P M)) ∧ (¬ ((mI M l0 6) ≤ l2) → ((l2 = l1 → (w137_73 (fun z0 z1 z2 z3 => w137_11  n z0 z1 z2 z3 P) l0 l1 l2 M P)) ∧ (¬ (l2 = l1) → (kd M l0 9 ∧ (kd M l0 9 ∧ (∃ a1, mR M l0 5 = some a1 ∧ (inb M a1 16 l1 ∧ (kd M l0 9 ∧ (∃ a2, mR M l0 5 = some a2 ∧ (inb M a2 16 l2 ∧ (kd M l0 9 ∧ (∃ a3, mR M l0 15 = some a3 ∧ (kd M a3 5 ∧ w106 a3 (mR M a1 l1.toNatClampNeg) (mR M a2 l2.toNatClampNeg) (0 : Int32) (mR M l0 12) M (fun M4 => kd M4 l0 9 ∧ (kd M4 l0 9 ∧ (∃ a5, mR M4 l0 14 = some a5 ∧ (kd M4 a5 3 ∧ w63 a5 (mR M4 l0 12) M4 (fun r7 M6 => (r7 = 0 → (w137_73 (fun z0 z1 z2 z3 => w137_11  n z0 z1 z2 z3 P) l0 l1 l2 M6 P)) ∧ (¬ (r7 = 0) → (kd M6 l0 9 ∧ (kd M6 l0 9 ∧ (∃ a8, mR M6 l0 14 = some a8 ∧ (kd M6 a8 3 ∧ w56 a8 (mR M6 l0 12) M6 (fun M9 => w137_73 (fun z0 z1 z2 z3 => w137_11  n z0 z1 z2 z3 P) l0 l1 l2 M9 P)))))))))))))))))))))))))
theorem t137_11 {sl : Nat} {sx : Nat → Int32} {d : Nat} {M0 : MM} {P : MM → Prop} (n : Nat) : ∀ (l0 : Nat) (l1 : Int32) (l2 : Int32) (M : MM) (_ : lenO M0 M) (_ : w137_11  n l0 l1 l2 M P), R137 sl sx d M0 P 11 [some (vR (some l0)), some (vI l1), some (vI l2)] [] M := by
  induction n with
  | zero => intro l0 l1 l2 M hM h; cases h
  | succ n ih =>
    intro l0 l1 l2 M hM h
    refine RN_k (callX_det _) 3 _ _ _ _ (show kd M l0 9 ∧ R137 sl sx d M0 P 16 [some (vR (some l0)), some (vI l1), some (vI l2)] [vI (mI M l0 6), vI l2] M from ⟨h.1, ?_⟩)
    replace h := h.2
    refine RN_k (callX_det _) 1 _ _ _ _ (show ((mI M l0 6) ≤ l2 → R137 sl sx d M0 P 79 [some (vR (some l0)), some (vI l1), some (vI l2)] [] M) ∧ (¬ ((mI M l0 6) ≤ l2) → R137 sl sx d M0 P 19 [some (vR (some l0)), some (vI l1), some (vI l2)] [] M) from ⟨fun hc => ?_, fun hc => ?_⟩)
    · replace h := h.1 hc
      exact RN_k (callX_det _) 1 _ _ _ _ (show rtW q137 M0 (PV P) none M from ⟨rfl, hM.1, hM.2, rfl, h⟩)
    · replace h := h.2 hc
      refine RN_k (callX_det _) 3 _ _ _ _ (show (l2 = l1 → R137 sl sx d M0 P 73 [some (vR (some l0)), some (vI l1), some (vI l2)] [] M) ∧ (¬ (l2 = l1) → R137 sl sx d M0 P 24 [some (vR (some l0)), some (vI l1), some (vI l2)] [] M) from ⟨fun hc => ?_, fun hc => ?_⟩)
      · replace h := h.1 hc
        exact RN_weak (K := [some (vR (some l0)), some (vI l1), some (vI l2)]) (callX_det _) (show _ ∧ _ ∧ _ ∧ True from ⟨rfl, rfl, rfl, trivial⟩) (t137_73 ih l0 l1 l2 _ hM h)
      · replace h := h.2 hc
        refine RN_k (callX_det _) 2 _ _ _ _ (show kd M l0 9 ∧ R137 sl sx d M0 P 28 [some (vR (some l0)), some (vI l1), some (vI l2)] [vR (mR M l0 15)] M from ⟨h.1, ?_⟩)
        replace h := h.2
        refine RN_k (callX_det _) 2 _ _ _ _ (show kd M l0 9 ∧ R137 sl sx d M0 P 32 [some (vR (some l0)), some (vI l1), some (vI l2)] [vR (mR M l0 5), vR (mR M l0 15)] M from ⟨h.1, ?_⟩)
        replace h := h.2
        obtain ⟨a1, he, h⟩ := h
        refine RN_k (callX_det _) 1 _ _ _ _ (show R137 sl sx d M0 P 33 [some (vR (some l0)), some (vI l1), some (vI l2)] [vI l1, vR (mR M l0 5), vR (mR M l0 15)] M from ?_)
        rw [he]
        refine RN_k (callX_det _) 1 _ _ _ _ (show inb M a1 16 l1 ∧ R137 sl sx d M0 P 34 [some (vR (some l0)), some (vI l1), some (vI l2)] [vR (mR M a1 l1.toNatClampNeg), vR (mR M l0 15)] M from ⟨h.1, ?_⟩)
        replace h := h.2
        refine RN_k (callX_det _) 2 _ _ _ _ (show kd M l0 9 ∧ R137 sl sx d M0 P 38 [some (vR (some l0)), some (vI l1), some (vI l2)] [vR (mR M l0 5), vR (mR M a1 l1.toNatClampNeg), vR (mR M l0 15)] M from ⟨h.1, ?_⟩)
        replace h := h.2
        obtain ⟨a2, he, h⟩ := h
        refine RN_k (callX_det _) 1 _ _ _ _ (show R137 sl sx d M0 P 39 [some (vR (some l0)), some (vI l1), some (vI l2)] [vI l2, vR (mR M l0 5), vR (mR M a1 l1.toNatClampNeg), vR (mR M l0 15)] M from ?_)
        rw [he]
        refine RN_k (callX_det _) 1 _ _ _ _ (show inb M a2 16 l2 ∧ R137 sl sx d M0 P 40 [some (vR (some l0)), some (vI l1), some (vI l2)] [vR (mR M a2 l2.toNatClampNeg), vR (mR M a1 l1.toNatClampNeg), vR (mR M l0 15)] M from ⟨h.1, ?_⟩)
        replace h := h.2
        refine RN_k (callX_det _) 3 _ _ _ _ (show kd M l0 9 ∧ R137 sl sx d M0 P 45 [some (vR (some l0)), some (vI l1), some (vI l2)] [vR (mR M l0 12), vI (0 : Int32), vR (mR M a2 l2.toNatClampNeg), vR (mR M a1 l1.toNatClampNeg), vR (mR M l0 15)] M from ⟨h.1, ?_⟩)
        replace h := h.2
        obtain ⟨a3, he, h⟩ := h
        rw [he]
        refine RN_k (callX_det _) 1 _ _ _ _ (show kd M a3 5 ∧ callX TBg sl sx (d + 5) 106 [vR (some a3), vR (mR M a1 l1.toNatClampNeg), vR (mR M a2 l2.toNatClampNeg), vI (0 : Int32), vR (mR M l0 12)] M (fun v M9 => R137 sl sx d M0 P 48 [some (vR (some l0)), some (vI l1), some (vI l2)] (pushO v []) M9) from ⟨h.1, ?_⟩)
        replace h := h.2
        refine callX_mono (callX_len (d := (d + 5)) rfl rfl rfl (c106 (d := d) h)) ?_
        clear h
        rintro v9 M4 ⟨hl, rfl, h⟩
        replace hM := lenT hM hl
        show R137 sl sx d M0 P 48 [some (vR (some l0)), some (vI l1), some (vI l2)] [] M4
        refine RN_k (callX_det _) 2 _ _ _ _ (show kd M4 l0 9 ∧ R137 sl sx d M0 P 52 [some (vR (some l0)), some (vI l1), some (vI l2)] [vR (mR M4 l0 14)] M4 from ⟨h.1, ?_⟩)
        replace h := h.2
        refine RN_k (callX_det _) 2 _ _ _ _ (show kd M4 l0 9 ∧ R137 sl sx d M0 P 56 [some (vR (some l0)), some (vI l1), some (vI l2)] [vR (mR M4 l0 12), vR (mR M4 l0 14)] M4 from ⟨h.1, ?_⟩)
        replace h := h.2
        obtain ⟨a5, he, h⟩ := h
        rw [he]
        refine RN_k (callX_det _) 1 _ _ _ _ (show kd M4 a5 3 ∧ callX TBg sl sx (d + 5) 63 [vR (some a5), vR (mR M4 l0 12)] M4 (fun v M9 => R137 sl sx d M0 P 59 [some (vR (some l0)), some (vI l1), some (vI l2)] (pushO v []) M9) from ⟨h.1, ?_⟩)
        replace h := h.2
        refine callX_mono (callX_len (d := (d + 5)) rfl rfl rfl (c63 (d := d + 4) h)) ?_
        clear h
        rintro v9 M6 ⟨hl, r7, rfl, h⟩
        replace hM := lenT hM hl
        show R137 sl sx d M0 P 59 [some (vR (some l0)), some (vI l1), some (vI l2)] [vI r7] M6
        refine RN_k (callX_det _) 1 _ _ _ _ (show (r7 = 0 → R137 sl sx d M0 P 73 [some (vR (some l0)), some (vI l1), some (vI l2)] [] M6) ∧ (¬ (r7 = 0) → R137 sl sx d M0 P 62 [some (vR (some l0)), some (vI l1), some (vI l2)] [] M6) from ⟨fun hc => ?_, fun hc => ?_⟩)
        · replace h := h.1 hc
          exact RN_weak (K := [some (vR (some l0)), some (vI l1), some (vI l2)]) (callX_det _) (show _ ∧ _ ∧ _ ∧ True from ⟨rfl, rfl, rfl, trivial⟩) (t137_73 ih l0 l1 l2 _ hM h)
        · replace h := h.2 hc
          refine RN_k (callX_det _) 2 _ _ _ _ (show kd M6 l0 9 ∧ R137 sl sx d M0 P 66 [some (vR (some l0)), some (vI l1), some (vI l2)] [vR (mR M6 l0 14)] M6 from ⟨h.1, ?_⟩)
          replace h := h.2
          refine RN_k (callX_det _) 2 _ _ _ _ (show kd M6 l0 9 ∧ R137 sl sx d M0 P 70 [some (vR (some l0)), some (vI l1), some (vI l2)] [vR (mR M6 l0 12), vR (mR M6 l0 14)] M6 from ⟨h.1, ?_⟩)
          replace h := h.2
          obtain ⟨a8, he, h⟩ := h
          rw [he]
          refine RN_k (callX_det _) 1 _ _ _ _ (show kd M6 a8 3 ∧ callX TBg sl sx (d + 5) 56 [vR (some a8), vR (mR M6 l0 12)] M6 (fun v M9 => R137 sl sx d M0 P 73 [some (vR (some l0)), some (vI l1), some (vI l2)] (pushO v []) M9) from ⟨h.1, ?_⟩)
          replace h := h.2
          refine callX_mono (callX_len (d := (d + 5)) rfl rfl rfl (c56 (d := d + 4) h)) ?_
          clear h
          rintro v9 M9 ⟨hl, rfl, h⟩
          replace hM := lenT hM hl
          show R137 sl sx d M0 P 73 [some (vR (some l0)), some (vI l1), some (vI l2)] [] M9
          exact RN_weak (K := [some (vR (some l0)), some (vI l1), some (vI l2)]) (callX_det _) (show _ ∧ _ ∧ _ ∧ True from ⟨rfl, rfl, rfl, trivial⟩) (t137_73 ih l0 l1 l2 _ hM h)
def w137 (l0 : Nat) (l1 : Int32) (M : MM) (P : MM → Prop) : Prop := kd M l0 9 ∧ (∃ a1, mR M l0 14 = some a1 ∧ (kd M a1 3 ∧ w54 a1 (0 : Int64) (1 : Int64) M (fun M2 => ∃ n2, w137_11  n2 l0 l1 (0 : Int32) M2 P)))
theorem t137_E {sl : Nat} {sx : Nat → Int32} {d : Nat} {M0 : MM} {P : MM → Prop} (l0 : Nat) (l1 : Int32) (M : MM) (hM : lenO M0 M) (h : w137  l0 l1 M P) : R137 sl sx d M0 P 0 [some (vR (some l0)), some (vI l1), none] [] M := by
  refine RN_k (callX_det _) 2 _ _ _ _ (show kd M l0 9 ∧ R137 sl sx d M0 P 4 [some (vR (some l0)), some (vI l1), none] [vR (mR M l0 14)] M from ⟨h.1, ?_⟩)
  replace h := h.2
  obtain ⟨a1, he, h⟩ := h
  refine RN_k (callX_det _) 2 _ _ _ _ (show R137 sl sx d M0 P 6 [some (vR (some l0)), some (vI l1), none] [vL (1 : Int64), vL (0 : Int64), vR (mR M l0 14)] M from ?_)
  rw [he]
  refine RN_k (callX_det _) 1 _ _ _ _ (show kd M a1 3 ∧ callX TBg sl sx (d + 5) 54 [vR (some a1), vL (0 : Int64), vL (1 : Int64)] M (fun v M9 => R137 sl sx d M0 P 9 [some (vR (some l0)), some (vI l1), none] (pushO v []) M9) from ⟨h.1, ?_⟩)
  replace h := h.2
  refine callX_mono (callX_len (d := (d + 5)) rfl rfl rfl (c54 (d := d + 4) h)) ?_
  clear h
  rintro v9 M2 ⟨hl, rfl, h⟩
  replace hM := lenT hM hl
  show R137 sl sx d M0 P 9 [some (vR (some l0)), some (vI l1), none] [] M2
  refine RN_k (callX_det _) 2 _ _ _ _ (show R137 sl sx d M0 P 11 [some (vR (some l0)), some (vI l1), some (vI (0 : Int32))] [] M2 from ?_)
  obtain ⟨n2, h⟩ := h
  exact RN_weak (K := [some (vR (some l0)), some (vI l1), some (vI (0 : Int32))]) (callX_det _) (show _ ∧ _ ∧ _ ∧ True from ⟨rfl, rfl, rfl, trivial⟩) (t137_11  n2 l0 l1 (0 : Int32) _ hM h)
theorem c137 {sl : Nat} {sx : Nat → Int32} {d : Nat} {l0 : Nat} {l1 : Int32} {M : MM} {P : MM → Prop} (h : w137 l0 l1 M P) : callX TBg sl sx (d + 6) 137 [vR (some l0), vI l1] M (PV P) :=
  cX (d := d + 5) q137 (false, tb137) rfl rfl rfl (t137_E l0 l1 M lenR h)
-- TwoLeash.middle()I
abbrev q136 : MQ7 := (1, 1, 3, 9, 0, 0, 1)
abbrev R136 (sl : Nat) (sx : Nat → Int32) (d : Nat) (M0 : MM) (P : Int32 → MM → Prop) : Nat → LL → List VV → MM → Prop := RN 9 false (mS M0).length (mT M0) 0 0 sl sx (callX TBg sl sx (d + 6)) (rtW q136 M0 (PI P)) (as2 tb136)
def w136_63 (k18 : Nat → Int32 → Int32 → MM → Prop) (l0 : Nat) (l1 : Int32) (l2 : Int32) (M : MM) (P : Int32 → MM → Prop) : Prop := k18 l0 l1 (l2 + (1 : Int32)) M
theorem t136_63 {sl : Nat} {sx : Nat → Int32} {d : Nat} {M0 : MM} {P : Int32 → MM → Prop} {k18 : Nat → Int32 → Int32 → MM → Prop} (hk18 : ∀ (l0 : Nat) (l1 : Int32) (l2 : Int32) (M : MM), lenO M0 M → k18 l0 l1 l2 M → R136 sl sx d M0 P 18 [some (vR (some l0)), some (vI l1), some (vI l2)] [] M) (l0 : Nat) (l1 : Int32) (l2 : Int32) (M : MM) (hM : lenO M0 M) (h : w136_63 k18 l0 l1 l2 M P) : R136 sl sx d M0 P 63 [some (vR (some l0)), some (vI l1), some (vI l2)] [] M := by
  refine RN_k (callX_det _) 2 _ _ _ _ (show R136 sl sx d M0 P 18 [some (vR (some l0)), some (vI l1), some (vI (l2 + (1 : Int32)))] [] M from ?_)
  exact RN_weak (K := [some (vR (some l0)), some (vI l1), some (vI (l2 + (1 : Int32)))]) (callX_det _) (show _ ∧ _ ∧ _ ∧ True from ⟨rfl, rfl, rfl, trivial⟩) (hk18 l0 l1 (l2 + (1 : Int32)) _ hM h)
def w136_50 (k18 : Nat → Int32 → Int32 → MM → Prop) (l0 : Nat) (l2 : Int32) (M : MM) (P : Int32 → MM → Prop) : Prop := kd M l0 9 ∧ (kd M l0 9 ∧ (∃ a1, mR M l0 13 = some a1 ∧ (kd M a1 3 ∧ w56 a1 (mR M l0 14) M (fun M2 => w136_63 k18 l0 l2 l2 M2 P))))
theorem t136_50 {sl : Nat} {sx : Nat → Int32} {d : Nat} {M0 : MM} {P : Int32 → MM → Prop} {k18 : Nat → Int32 → Int32 → MM → Prop} (hk18 : ∀ (l0 : Nat) (l1 : Int32) (l2 : Int32) (M : MM), lenO M0 M → k18 l0 l1 l2 M → R136 sl sx d M0 P 18 [some (vR (some l0)), some (vI l1), some (vI l2)] [] M) (l0 : Nat) (l2 : Int32) (M : MM) (hM : lenO M0 M) (h : w136_50 k18 l0 l2 M P) : R136 sl sx d M0 P 50 [some (vR (some l0)), none, some (vI l2)] [] M := by
  refine RN_k (callX_det _) 4 _ _ _ _ (show kd M l0 9 ∧ R136 sl sx d M0 P 56 [some (vR (some l0)), some (vI l2), some (vI l2)] [vR (mR M l0 13)] M from ⟨h.1, ?_⟩)
  replace h := h.2
  refine RN_k (callX_det _) 2 _ _ _ _ (show kd M l0 9 ∧ R136 sl sx d M0 P 60 [some (vR (some l0)), some (vI l2), some (vI l2)] [vR (mR M l0 14), vR (mR M l0 13)] M from ⟨h.1, ?_⟩)
  replace h := h.2
  obtain ⟨a1, he, h⟩ := h
  rw [he]
  refine RN_k (callX_det _) 1 _ _ _ _ (show kd M a1 3 ∧ callX TBg sl sx (d + 6) 56 [vR (some a1), vR (mR M l0 14)] M (fun v M9 => R136 sl sx d M0 P 63 [some (vR (some l0)), some (vI l2), some (vI l2)] (pushO v []) M9) from ⟨h.1, ?_⟩)
  replace h := h.2
  refine callX_mono (callX_len (d := (d + 6)) rfl rfl rfl (c56 (d := d + 5) h)) ?_
  clear h
  rintro v9 M2 ⟨hl, rfl, h⟩
  replace hM := lenT hM hl
  show R136 sl sx d M0 P 63 [some (vR (some l0)), some (vI l2), some (vI l2)] [] M2
  exact RN_weak (K := [some (vR (some l0)), some (vI l2), some (vI l2)]) (callX_det _) (show _ ∧ _ ∧ _ ∧ True from ⟨rfl, rfl, rfl, trivial⟩) (t136_63 hk18 l0 l2 l2 _ hM h)
def w136_18 : Nat → Nat → Int32 → Int32 → MM → (Int32 → MM → Prop) → Prop
  | 0 => fun _ _ _ _ _ => False
  | n + 1 => fun l0 l1 l2 M P => kd M l0 9 ∧ (((mI M l0 6) ≤ l2 → (kd M l0 9 ∧ w35 l0 l1 M (fun r2 M1 => P r2 M1))) ∧ (¬ ((mI M l0 6) ≤ l2) → (kd M l0 9 ∧ w137 l0 l2 M (fun M3 => (l1 = (-1 : Int32) → (w136_50 (fun z0 z1 z2 z3 => w136_18  n z0 z1 z2 z3 P) l0 l2 M3 P)) ∧ (¬ (l1 = (-1 : Int32)) → (kd M3 l0 9 ∧ (kd M3 l0 9 ∧ (∃ a4, mR M3 l0 14 = some a4 ∧ (kd M3 a4 3 ∧ w63 a4 (mR M3 l0 13) M3 (fun r6 M5 => (r6 = 0 → (w136_63 (fun z0 z1 z2 z3 => w136_18  n z0 z1 z2 z3 P) l0 l1 l2 M5 P)) ∧ (¬ (r6 = 0) → (w136_50 (fun z0 z1 z2 z3 => w136_18  n z0 z1 z2 z3 P) l0 l2 M5 P))))))))))))
theorem t136_18 {sl : Nat} {sx : Nat → Int32} {d : Nat} {M0 : MM} {P : Int32 → MM → Prop} (n : Nat) : ∀ (l0 : Nat) (l1 : Int32) (l2 : Int32) (M : MM) (_ : lenO M0 M) (_ : w136_18  n l0 l1 l2 M P), R136 sl sx d M0 P 18 [some (vR (some l0)), some (vI l1), some (vI l2)] [] M := by
  induction n with
  | zero => intro l0 l1 l2 M hM h; cases h
  | succ n ih =>
    intro l0 l1 l2 M hM h
    refine RN_k (callX_det _) 3 _ _ _ _ (show kd M l0 9 ∧ R136 sl sx d M0 P 23 [some (vR (some l0)), some (vI l1), some (vI l2)] [vI (mI M l0 6), vI l2] M from ⟨h.1, ?_⟩)
    replace h := h.2
    refine RN_k (callX_det _) 1 _ _ _ _ (show ((mI M l0 6) ≤ l2 → R136 sl sx d M0 P 69 [some (vR (some l0)), some (vI l1), some (vI l2)] [] M) ∧ (¬ ((mI M l0 6) ≤ l2) → R136 sl sx d M0 P 26 [some (vR (some l0)), some (vI l1), some (vI l2)] [] M) from ⟨fun hc => ?_, fun hc => ?_⟩)
    · replace h := h.1 hc
      refine RN_k (callX_det _) 3 _ _ _ _ (show kd M l0 9 ∧ callX TBg sl sx (d + 6) 35 [vR (some l0), vI l1] M (fun v M9 => R136 sl sx d M0 P 74 [some (vR (some l0)), some (vI l1), some (vI l2)] (pushO v []) M9) from ⟨h.1, ?_⟩)
      replace h := h.2
      refine callX_mono (callX_len (d := (d + 6)) rfl rfl rfl (c35 (d := d + 5) h)) ?_
      clear h
      rintro v9 M1 ⟨hl, r2, rfl, h⟩
      replace hM := lenT hM hl
      show R136 sl sx d M0 P 74 [some (vR (some l0)), some (vI l1), some (vI l2)] [vI r2] M1
      exact RN_k (callX_det _) 1 _ _ _ _ (show rtW q136 M0 (PI P) (some (vI r2)) M1 from ⟨⟨_, rfl⟩, hM.1, hM.2, _, rfl, h⟩)
    · replace h := h.2 hc
      refine RN_k (callX_det _) 3 _ _ _ _ (show kd M l0 9 ∧ callX TBg sl sx (d + 6) 137 [vR (some l0), vI l2] M (fun v M9 => R136 sl sx d M0 P 31 [some (vR (some l0)), some (vI l1), some (vI l2)] (pushO v []) M9) from ⟨h.1, ?_⟩)
      replace h := h.2
      refine callX_mono (callX_len (d := (d + 6)) rfl rfl rfl (c137 (d := d) h)) ?_
      clear h
      rintro v9 M3 ⟨hl, rfl, h⟩
      replace hM := lenT hM hl
      show R136 sl sx d M0 P 31 [some (vR (some l0)), some (vI l1), some (vI l2)] [] M3
      refine RN_k (callX_det _) 3 _ _ _ _ (show (l1 = (-1 : Int32) → R136 sl sx d M0 P 50 [some (vR (some l0)), some (vI l1), some (vI l2)] [] M3) ∧ (¬ (l1 = (-1 : Int32)) → R136 sl sx d M0 P 36 [some (vR (some l0)), some (vI l1), some (vI l2)] [] M3) from ⟨fun hc => ?_, fun hc => ?_⟩)
      · replace h := h.1 hc
        exact RN_weak (K := [some (vR (some l0)), none, some (vI l2)]) (callX_det _) (show _ ∧ _ ∧ True from ⟨rfl, rfl, trivial⟩) (t136_50 ih l0 l2 _ hM h)
      · replace h := h.2 hc
        refine RN_k (callX_det _) 2 _ _ _ _ (show kd M3 l0 9 ∧ R136 sl sx d M0 P 40 [some (vR (some l0)), some (vI l1), some (vI l2)] [vR (mR M3 l0 14)] M3 from ⟨h.1, ?_⟩)
        replace h := h.2
        refine RN_k (callX_det _) 2 _ _ _ _ (show kd M3 l0 9 ∧ R136 sl sx d M0 P 44 [some (vR (some l0)), some (vI l1), some (vI l2)] [vR (mR M3 l0 13), vR (mR M3 l0 14)] M3 from ⟨h.1, ?_⟩)
        replace h := h.2
        obtain ⟨a4, he, h⟩ := h
        rw [he]
        refine RN_k (callX_det _) 1 _ _ _ _ (show kd M3 a4 3 ∧ callX TBg sl sx (d + 6) 63 [vR (some a4), vR (mR M3 l0 13)] M3 (fun v M9 => R136 sl sx d M0 P 47 [some (vR (some l0)), some (vI l1), some (vI l2)] (pushO v []) M9) from ⟨h.1, ?_⟩)
        replace h := h.2
        refine callX_mono (callX_len (d := (d + 6)) rfl rfl rfl (c63 (d := d + 5) h)) ?_
        clear h
        rintro v9 M5 ⟨hl, r6, rfl, h⟩
        replace hM := lenT hM hl
        show R136 sl sx d M0 P 47 [some (vR (some l0)), some (vI l1), some (vI l2)] [vI r6] M5
        refine RN_k (callX_det _) 1 _ _ _ _ (show (r6 = 0 → R136 sl sx d M0 P 63 [some (vR (some l0)), some (vI l1), some (vI l2)] [] M5) ∧ (¬ (r6 = 0) → R136 sl sx d M0 P 50 [some (vR (some l0)), some (vI l1), some (vI l2)] [] M5) from ⟨fun hc => ?_, fun hc => ?_⟩)
        · replace h := h.1 hc
          exact RN_weak (K := [some (vR (some l0)), some (vI l1), some (vI l2)]) (callX_det _) (show _ ∧ _ ∧ _ ∧ True from ⟨rfl, rfl, rfl, trivial⟩) (t136_63 ih l0 l1 l2 _ hM h)
        · replace h := h.2 hc
          exact RN_weak (K := [some (vR (some l0)), none, some (vI l2)]) (callX_det _) (show _ ∧ _ ∧ True from ⟨rfl, rfl, trivial⟩) (t136_50 ih l0 l2 _ hM h)
def w136 (l0 : Nat) (M : MM) (P : Int32 → MM → Prop) : Prop := kd M l0 9 ∧ (((2 : Int32) ≤ (mI M l0 6) → (∃ n2, w136_18  n2 l0 (-1 : Int32) (0 : Int32) M P)) ∧ (¬ ((2 : Int32) ≤ (mI M l0 6)) → (kd M l0 9 ∧ w17 l0 (5 : Int32) M (fun r2 M1 => P r2 M1))))
theorem t136_E {sl : Nat} {sx : Nat → Int32} {d : Nat} {M0 : MM} {P : Int32 → MM → Prop} (l0 : Nat) (M : MM) (hM : lenO M0 M) (h : w136  l0 M P) : R136 sl sx d M0 P 0 [some (vR (some l0)), none, none] [] M := by
  refine RN_k (callX_det _) 2 _ _ _ _ (show kd M l0 9 ∧ R136 sl sx d M0 P 4 [some (vR (some l0)), none, none] [vI (mI M l0 6)] M from ⟨h.1, ?_⟩)
  replace h := h.2
  refine RN_k (callX_det _) 2 _ _ _ _ (show ((2 : Int32) ≤ (mI M l0 6) → R136 sl sx d M0 P 14 [some (vR (some l0)), none, none] [] M) ∧ (¬ ((2 : Int32) ≤ (mI M l0 6)) → R136 sl sx d M0 P 8 [some (vR (some l0)), none, none] [] M) from ⟨fun hc => ?_, fun hc => ?_⟩)
  · replace h := h.1 hc
    refine RN_k (callX_det _) 4 _ _ _ _ (show R136 sl sx d M0 P 18 [some (vR (some l0)), some (vI (-1 : Int32)), some (vI (0 : Int32))] [] M from ?_)
    obtain ⟨n2, h⟩ := h
    exact RN_weak (K := [some (vR (some l0)), some (vI (-1 : Int32)), some (vI (0 : Int32))]) (callX_det _) (show _ ∧ _ ∧ _ ∧ True from ⟨rfl, rfl, rfl, trivial⟩) (t136_18  n2 l0 (-1 : Int32) (0 : Int32) _ hM h)
  · replace h := h.2 hc
    refine RN_k (callX_det _) 3 _ _ _ _ (show kd M l0 9 ∧ callX TBg sl sx (d + 6) 17 [vR (some l0), vI (5 : Int32)] M (fun v M9 => R136 sl sx d M0 P 13 [some (vR (some l0)), none, none] (pushO v []) M9) from ⟨h.1, ?_⟩)
    replace h := h.2
    refine callX_mono (callX_len (d := (d + 6)) rfl rfl rfl (c17 (d := d + 5) h)) ?_
    clear h
    rintro v9 M1 ⟨hl, r2, rfl, h⟩
    replace hM := lenT hM hl
    show R136 sl sx d M0 P 13 [some (vR (some l0)), none, none] [vI r2] M1
    exact RN_k (callX_det _) 1 _ _ _ _ (show rtW q136 M0 (PI P) (some (vI r2)) M1 from ⟨⟨_, rfl⟩, hM.1, hM.2, _, rfl, h⟩)
theorem c136 {sl : Nat} {sx : Nat → Int32} {d : Nat} {l0 : Nat} {M : MM} {P : Int32 → MM → Prop} (h : w136 l0 M P) : callX TBg sl sx (d + 7) 136 [vR (some l0)] M (PI P) :=
  cX (d := d + 6) q136 (false, tb136) rfl rfl rfl (t136_E l0 M lenR h)
-- TwoLeash.linksBy(II)I
abbrev q139 : MQ7 := (3, 1, 6, 9, 0, 0, 1)
abbrev R139 (sl : Nat) (sx : Nat → Int32) (d : Nat) (M0 : MM) (P : Int32 → MM → Prop) : Nat → LL → List VV → MM → Prop := RN 9 false (mS M0).length (mT M0) 0 0 sl sx (callX TBg sl sx (d + 5)) (rtW q139 M0 (PI P)) (as2 tb139)
def w139_73 (k5 : Nat → Int32 → Int32 → Int32 → Int32 → MM → Prop) (k17 : Nat → Int32 → Int32 → Int32 → Int32 → Int32 → MM → Prop) (l0 : Nat) (l1 : Int32) (l2 : Int32) (l3 : Int32) (l4 : Int32) (l5 : Int32) (M : MM) (P : Int32 → MM → Prop) : Prop := k17 l0 l1 l2 l3 l4 (l5 + (1 : Int32)) M
theorem t139_73 {sl : Nat} {sx : Nat → Int32} {d : Nat} {M0 : MM} {P : Int32 → MM → Prop} {k5 : Nat → Int32 → Int32 → Int32 → Int32 → MM → Prop} {k17 : Nat → Int32 → Int32 → Int32 → Int32 → Int32 → MM → Prop} (hk5 : ∀ (l0 : Nat) (l1 : Int32) (l2 : Int32) (l3 : Int32) (l4 : Int32) (M : MM), lenO M0 M → k5 l0 l1 l2 l3 l4 M → R139 sl sx d M0 P 5 [some (vR (some l0)), some (vI l1), some (vI l2), some (vI l3), some (vI l4), none] [] M) (hk17 : ∀ (l0 : Nat) (l1 : Int32) (l2 : Int32) (l3 : Int32) (l4 : Int32) (l5 : Int32) (M : MM), lenO M0 M → k17 l0 l1 l2 l3 l4 l5 M → R139 sl sx d M0 P 17 [some (vR (some l0)), some (vI l1), some (vI l2), some (vI l3), some (vI l4), some (vI l5)] [] M) (l0 : Nat) (l1 : Int32) (l2 : Int32) (l3 : Int32) (l4 : Int32) (l5 : Int32) (M : MM) (hM : lenO M0 M) (h : w139_73 k5 k17 l0 l1 l2 l3 l4 l5 M P) : R139 sl sx d M0 P 73 [some (vR (some l0)), some (vI l1), some (vI l2), some (vI l3), some (vI l4), some (vI l5)] [] M := by
  refine RN_k (callX_det _) 2 _ _ _ _ (show R139 sl sx d M0 P 17 [some (vR (some l0)), some (vI l1), some (vI l2), some (vI l3), some (vI l4), some (vI (l5 + (1 : Int32)))] [] M from ?_)
  exact RN_weak (K := [some (vR (some l0)), some (vI l1), some (vI l2), some (vI l3), some (vI l4), some (vI (l5 + (1 : Int32)))]) (callX_det _) (show _ ∧ _ ∧ _ ∧ _ ∧ _ ∧ _ ∧ True from ⟨rfl, rfl, rfl, rfl, rfl, rfl, trivial⟩) (hk17 l0 l1 l2 l3 l4 (l5 + (1 : Int32)) _ hM h)
def w139_17 (k5 : Nat → Int32 → Int32 → Int32 → Int32 → MM → Prop) : Nat → Nat → Int32 → Int32 → Int32 → Int32 → Int32 → MM → (Int32 → MM → Prop) → Prop
  | 0 => fun _ _ _ _ _ _ _ _ => False
  | n + 1 => fun l0 l1 l2 l3 l4 l5 M P => (l4 ≤ l5 → (k5 l0 l1 l2 l3 (l4 + (1 : Int32)) M)) ∧ (¬ (l4 ≤ l5) → (kd M l0 9 ∧ (kd M l0 9 ∧ (∃ a1, mR M l0 5 = some a1 ∧ (inb M a1 16 l4 ∧ (kd M l0 9 ∧ (∃ a2, mR M l0 5 = some a2 ∧ (inb M a2 16 l5 ∧ (∃ a3, mR M l0 15 = some a3 ∧ (kd M a3 5 ∧ w95 a3 (mR M a1 l4.toNatClampNeg) (mR M a2 l5.toNatClampNeg) (0 : Int32) l1 l2 M (fun r5 M4 => (r5 = 0 → (w139_73 k5 (fun z0 z1 z2 z3 z4 z5 z6 => w139_17 k5 n z0 z1 z2 z3 z4 z5 z6 P) l0 l1 l2 l3 l4 l5 M4 P)) ∧ (¬ (r5 = 0) → (w139_73 k5 (fun z0 z1 z2 z3 z4 z5 z6 => w139_17 k5 n z0 z1 z2 z3 z4 z5 z6 P) l0 l1 l2 (l3 ||| (((1 : Int32) <<< (((l4 * (4 : Int32)) + l5) &&& 31)) ||| ((1 : Int32) <<< (((l5 * (4 : Int32)) + l4) &&& 31)))) l4 l5 M4 P)))))))))))))
theorem t139_17 {sl : Nat} {sx : Nat → Int32} {d : Nat} {M0 : MM} {P : Int32 → MM → Prop} {k5 : Nat → Int32 → Int32 → Int32 → Int32 → MM → Prop} (hk5 : ∀ (l0 : Nat) (l1 : Int32) (l2 : Int32) (l3 : Int32) (l4 : Int32) (M : MM), lenO M0 M → k5 l0 l1 l2 l3 l4 M → R139 sl sx d M0 P 5 [some (vR (some l0)), some (vI l1), some (vI l2), some (vI l3), some (vI l4), none] [] M) (n : Nat) : ∀ (l0 : Nat) (l1 : Int32) (l2 : Int32) (l3 : Int32) (l4 : Int32) (l5 : Int32) (M : MM) (_ : lenO M0 M) (_ : w139_17 k5 n l0 l1 l2 l3 l4 l5 M P), R139 sl sx d M0 P 17 [some (vR (some l0)), some (vI l1), some (vI l2), some (vI l3), some (vI l4), some (vI l5)] [] M := by
  induction n with
  | zero => intro l0 l1 l2 l3 l4 l5 M hM h; cases h
  | succ n ih =>
    intro l0 l1 l2 l3 l4 l5 M hM h
    refine RN_k (callX_det _) 3 _ _ _ _ (show (l4 ≤ l5 → R139 sl sx d M0 P 79 [some (vR (some l0)), some (vI l1), some (vI l2), some (vI l3), some (vI l4), some (vI l5)] [] M) ∧ (¬ (l4 ≤ l5) → R139 sl sx d M0 P 24 [some (vR (some l0)), some (vI l1), some (vI l2), some (vI l3), some (vI l4), some (vI l5)] [] M) from ⟨fun hc => ?_, fun hc => ?_⟩)
    · replace h := h.1 hc
      refine RN_k (callX_det _) 2 _ _ _ _ (show R139 sl sx d M0 P 5 [some (vR (some l0)), some (vI l1), some (vI l2), some (vI l3), some (vI (l4 + (1 : Int32))), some (vI l5)] [] M from ?_)
      exact RN_weak (K := [some (vR (some l0)), some (vI l1), some (vI l2), some (vI l3), some (vI (l4 + (1 : Int32))), none]) (callX_det _) (show _ ∧ _ ∧ _ ∧ _ ∧ _ ∧ True from ⟨rfl, rfl, rfl, rfl, rfl, trivial⟩) (hk5 l0 l1 l2 l3 (l4 + (1 : Int32)) _ hM h)
    · replace h := h.2 hc
      refine RN_k (callX_det _) 2 _ _ _ _ (show kd M l0 9 ∧ R139 sl sx d M0 P 28 [some (vR (some l0)), some (vI l1), some (vI l2), some (vI l3), some (vI l4), some (vI l5)] [vR (mR M l0 15)] M from ⟨h.1, ?_⟩)
      replace h := h.2
      refine RN_k (callX_det _) 2 _ _ _ _ (show kd M l0 9 ∧ R139 sl sx d M0 P 32 [some (vR (some l0)), some (vI l1), some (vI l2), some (vI l3), some (vI l4), some (vI l5)] [vR (mR M l0 5), vR (mR M l0 15)] M from ⟨h.1, ?_⟩)
      replace h := h.2
      obtain ⟨a1, he, h⟩ := h
      refine RN_k (callX_det _) 1 _ _ _ _ (show R139 sl sx d M0 P 34 [some (vR (some l0)), some (vI l1), some (vI l2), some (vI l3), some (vI l4), some (vI l5)] [vI l4, vR (mR M l0 5), vR (mR M l0 15)] M from ?_)
      rw [he]
      refine RN_k (callX_det _) 1 _ _ _ _ (show inb M a1 16 l4 ∧ R139 sl sx d M0 P 35 [some (vR (some l0)), some (vI l1), some (vI l2), some (vI l3), some (vI l4), some (vI l5)] [vR (mR M a1 l4.toNatClampNeg), vR (mR M l0 15)] M from ⟨h.1, ?_⟩)
      replace h := h.2
      refine RN_k (callX_det _) 2 _ _ _ _ (show kd M l0 9 ∧ R139 sl sx d M0 P 39 [some (vR (some l0)), some (vI l1), some (vI l2), some (vI l3), some (vI l4), some (vI l5)] [vR (mR M l0 5), vR (mR M a1 l4.toNatClampNeg), vR (mR M l0 15)] M from ⟨h.1, ?_⟩)
      replace h := h.2
      obtain ⟨a2, he, h⟩ := h
      refine RN_k (callX_det _) 1 _ _ _ _ (show R139 sl sx d M0 P 41 [some (vR (some l0)), some (vI l1), some (vI l2), some (vI l3), some (vI l4), some (vI l5)] [vI l5, vR (mR M l0 5), vR (mR M a1 l4.toNatClampNeg), vR (mR M l0 15)] M from ?_)
      rw [he]
      refine RN_k (callX_det _) 1 _ _ _ _ (show inb M a2 16 l5 ∧ R139 sl sx d M0 P 42 [some (vR (some l0)), some (vI l1), some (vI l2), some (vI l3), some (vI l4), some (vI l5)] [vR (mR M a2 l5.toNatClampNeg), vR (mR M a1 l4.toNatClampNeg), vR (mR M l0 15)] M from ⟨h.1, ?_⟩)
      replace h := h.2
      obtain ⟨a3, he, h⟩ := h
      refine RN_k (callX_det _) 3 _ _ _ _ (show R139 sl sx d M0 P 45 [some (vR (some l0)), some (vI l1), some (vI l2), some (vI l3), some (vI l4), some (vI l5)] [vI l2, vI l1, vI (0 : Int32), vR (mR M a2 l5.toNatClampNeg), vR (mR M a1 l4.toNatClampNeg), vR (mR M l0 15)] M from ?_)
      rw [he]
      refine RN_k (callX_det _) 1 _ _ _ _ (show kd M a3 5 ∧ callX TBg sl sx (d + 5) 95 [vR (some a3), vR (mR M a1 l4.toNatClampNeg), vR (mR M a2 l5.toNatClampNeg), vI (0 : Int32), vI l1, vI l2] M (fun v M9 => R139 sl sx d M0 P 48 [some (vR (some l0)), some (vI l1), some (vI l2), some (vI l3), some (vI l4), some (vI l5)] (pushO v []) M9) from ⟨h.1, ?_⟩)
      replace h := h.2
      refine callX_mono (callX_len (d := (d + 5)) rfl rfl rfl (c95 (d := d) h)) ?_
      clear h
      rintro v9 M4 ⟨hl, r5, rfl, h⟩
      replace hM := lenT hM hl
      show R139 sl sx d M0 P 48 [some (vR (some l0)), some (vI l1), some (vI l2), some (vI l3), some (vI l4), some (vI l5)] [vI r5] M4
      refine RN_k (callX_det _) 1 _ _ _ _ (show (r5 = 0 → R139 sl sx d M0 P 73 [some (vR (some l0)), some (vI l1), some (vI l2), some (vI l3), some (vI l4), some (vI l5)] [] M4) ∧ (¬ (r5 = 0) → R139 sl sx d M0 P 51 [some (vR (some l0)), some (vI l1), some (vI l2), some (vI l3), some (vI l4), some (vI l5)] [] M4) from ⟨fun hc => ?_, fun hc => ?_⟩)
      · replace h := h.1 hc
        exact RN_weak (K := [some (vR (some l0)), some (vI l1), some (vI l2), some (vI l3), some (vI l4), some (vI l5)]) (callX_det _) (show _ ∧ _ ∧ _ ∧ _ ∧ _ ∧ _ ∧ True from ⟨rfl, rfl, rfl, rfl, rfl, rfl, trivial⟩) (t139_73 hk5 ih l0 l1 l2 l3 l4 l5 _ hM h)
      · replace h := h.2 hc
        refine RN_k (callX_det _) 18 _ _ _ _ (show R139 sl sx d M0 P 73 [some (vR (some l0)), some (vI l1), some (vI l2), some (vI (l3 ||| (((1 : Int32) <<< (((l4 * (4 : Int32)) + l5) &&& 31)) ||| ((1 : Int32) <<< (((l5 * (4 : Int32)) + l4) &&& 31))))), some (vI l4), some (vI l5)] [] M4 from ?_)
        exact RN_weak (K := [some (vR (some l0)), some (vI l1), some (vI l2), some (vI (l3 ||| (((1 : Int32) <<< (((l4 * (4 : Int32)) + l5) &&& 31)) ||| ((1 : Int32) <<< (((l5 * (4 : Int32)) + l4) &&& 31))))), some (vI l4), some (vI l5)]) (callX_det _) (show _ ∧ _ ∧ _ ∧ _ ∧ _ ∧ _ ∧ True from ⟨rfl, rfl, rfl, rfl, rfl, rfl, trivial⟩) (t139_73 hk5 ih l0 l1 l2 (l3 ||| (((1 : Int32) <<< (((l4 * (4 : Int32)) + l5) &&& 31)) ||| ((1 : Int32) <<< (((l5 * (4 : Int32)) + l4) &&& 31)))) l4 l5 _ hM h)
def w139_5 : Nat → Nat → Int32 → Int32 → Int32 → Int32 → MM → (Int32 → MM → Prop) → Prop
  | 0 => fun _ _ _ _ _ _ _ => False
  | n + 1 => fun l0 l1 l2 l3 l4 M P => kd M l0 9 ∧ (((mI M l0 6) ≤ l4 → (P l3 M)) ∧ (¬ ((mI M l0 6) ≤ l4) → (∃ n2, w139_17 (fun z0 z1 z2 z3 z4 z5 => w139_5  n z0 z1 z2 z3 z4 z5 P) n2 l0 l1 l2 l3 l4 (0 : Int32) M P)))
theorem t139_5 {sl : Nat} {sx : Nat → Int32} {d : Nat} {M0 : MM} {P : Int32 → MM → Prop} (n : Nat) : ∀ (l0 : Nat) (l1 : Int32) (l2 : Int32) (l3 : Int32) (l4 : Int32) (M : MM) (_ : lenO M0 M) (_ : w139_5  n l0 l1 l2 l3 l4 M P), R139 sl sx d M0 P 5 [some (vR (some l0)), some (vI l1), some (vI l2), some (vI l3), some (vI l4), none] [] M := by
  induction n with
  | zero => intro l0 l1 l2 l3 l4 M hM h; cases h
  | succ n ih =>
    intro l0 l1 l2 l3 l4 M hM h
    refine RN_k (callX_det _) 3 _ _ _ _ (show kd M l0 9 ∧ R139 sl sx d M0 P 11 [some (vR (some l0)), some (vI l1), some (vI l2), some (vI l3), some (vI l4), none] [vI (mI M l0 6), vI l4] M from ⟨h.1, ?_⟩)
    replace h := h.2
    refine RN_k (callX_det _) 1 _ _ _ _ (show ((mI M l0 6) ≤ l4 → R139 sl sx d M0 P 85 [some (vR (some l0)), some (vI l1), some (vI l2), some (vI l3), some (vI l4), none] [] M) ∧ (¬ ((mI M l0 6) ≤ l4) → R139 sl sx d M0 P 14 [some (vR (some l0)), some (vI l1), some (vI l2), some (vI l3), some (vI l4), none] [] M) from ⟨fun hc => ?_, fun hc => ?_⟩)
    · replace h := h.1 hc
      exact RN_k (callX_det _) 2 _ _ _ _ (show rtW q139 M0 (PI P) (some (vI l3)) M from ⟨⟨_, rfl⟩, hM.1, hM.2, _, rfl, h⟩)
    · replace h := h.2 hc
      refine RN_k (callX_det _) 2 _ _ _ _ (show R139 sl sx d M0 P 17 [some (vR (some l0)), some (vI l1), some (vI l2), some (vI l3), some (vI l4), some (vI (0 : Int32))] [] M from ?_)
      obtain ⟨n2, h⟩ := h
      exact RN_weak (K := [some (vR (some l0)), some (vI l1), some (vI l2), some (vI l3), some (vI l4), some (vI (0 : Int32))]) (callX_det _) (show _ ∧ _ ∧ _ ∧ _ ∧ _ ∧ _ ∧ True from ⟨rfl, rfl, rfl, rfl, rfl, rfl, trivial⟩) (t139_17 ih n2 l0 l1 l2 l3 l4 (0 : Int32) _ hM h)
def w139 (l0 : Nat) (l1 : Int32) (l2 : Int32) (M : MM) (P : Int32 → MM → Prop) : Prop := ∃ n2, w139_5  n2 l0 l1 l2 (0 : Int32) (0 : Int32) M P
theorem t139_E {sl : Nat} {sx : Nat → Int32} {d : Nat} {M0 : MM} {P : Int32 → MM → Prop} (l0 : Nat) (l1 : Int32) (l2 : Int32) (M : MM) (hM : lenO M0 M) (h : w139  l0 l1 l2 M P) : R139 sl sx d M0 P 0 [some (vR (some l0)), some (vI l1), some (vI l2), none, none, none] [] M := by
  refine RN_k (callX_det _) 4 _ _ _ _ (show R139 sl sx d M0 P 5 [some (vR (some l0)), some (vI l1), some (vI l2), some (vI (0 : Int32)), some (vI (0 : Int32)), none] [] M from ?_)
  obtain ⟨n2, h⟩ := h
  exact RN_weak (K := [some (vR (some l0)), some (vI l1), some (vI l2), some (vI (0 : Int32)), some (vI (0 : Int32)), none]) (callX_det _) (show _ ∧ _ ∧ _ ∧ _ ∧ _ ∧ True from ⟨rfl, rfl, rfl, rfl, rfl, trivial⟩) (t139_5  n2 l0 l1 l2 (0 : Int32) (0 : Int32) _ hM h)
theorem c139 {sl : Nat} {sx : Nat → Int32} {d : Nat} {l0 : Nat} {l1 : Int32} {l2 : Int32} {M : MM} {P : Int32 → MM → Prop} (h : w139 l0 l1 l2 M P) : callX TBg sl sx (d + 6) 139 [vR (some l0), vI l1, vI l2] M (PI P) :=
  cX (d := d + 5) q139 (false, tb139) rfl rfl rfl (t139_E l0 l1 l2 M lenR h)
