/-! ===== printed by program: what must hold that a call ends with what is asked ===== -/
-- TwoLeashModel.turn(I)I
abbrev q289 : MQ7 := (2, 1, 8, 10, 0, 0, 1)
abbrev R289 (sl : Nat) (sx : Nat → Int32) (d : Nat) (M0 : MM) (P : Int32 → MM → Prop) : Nat → LL → List VV → MM → Prop := RN 10 false (mS M0).length (mT M0) 0 0 sl sx (callX TBg sl sx (d + 2)) (rtW q289 M0 (PI P)) (as2 tb289)
def w289_104 (k26 : Nat → Int32 → Int32 → Int32 → MM → Prop) (k36 : Nat → Int32 → Int32 → Int32 → Int32 → MM → Prop) (l0 : Nat) (l1 : Int32) (l2 : Int32) (l3 : Int32) (l4 : Int32) (M : MM) (P : Int32 → MM → Prop) : Prop := k36 l0 l1 l2 l3 (l4 + (1 : Int32)) M
theorem t289_104 {sl : Nat} {sx : Nat → Int32} {d : Nat} {M0 : MM} {P : Int32 → MM → Prop} {k26 : Nat → Int32 → Int32 → Int32 → MM → Prop} {k36 : Nat → Int32 → Int32 → Int32 → Int32 → MM → Prop} (hk26 : ∀ (l0 : Nat) (l1 : Int32) (l2 : Int32) (l3 : Int32) (M : MM), lenO M0 M → k26 l0 l1 l2 l3 M → R289 sl sx d M0 P 26 [some (vR (some l0)), some (vI l1), some (vI l2), some (vI l3), none, none, none, none] [] M) (hk36 : ∀ (l0 : Nat) (l1 : Int32) (l2 : Int32) (l3 : Int32) (l4 : Int32) (M : MM), lenO M0 M → k36 l0 l1 l2 l3 l4 M → R289 sl sx d M0 P 36 [some (vR (some l0)), some (vI l1), some (vI l2), some (vI l3), some (vI l4), none, none, none] [] M) (l0 : Nat) (l1 : Int32) (l2 : Int32) (l3 : Int32) (l4 : Int32) (M : MM) (hM : lenO M0 M) (h : w289_104 k26 k36 l0 l1 l2 l3 l4 M P) : R289 sl sx d M0 P 104 [some (vR (some l0)), some (vI l1), some (vI l2), some (vI l3), some (vI l4), none, none, none] [] M := by
  refine RN_k (callX_det _) 2 _ _ _ _ (show R289 sl sx d M0 P 36 [some (vR (some l0)), some (vI l1), some (vI l2), some (vI l3), some (vI (l4 + (1 : Int32))), none, none, none] [] M from ?_)
  exact RN_weak (K := [some (vR (some l0)), some (vI l1), some (vI l2), some (vI l3), some (vI (l4 + (1 : Int32))), none, none, none]) (callX_det _) (show _ ∧ _ ∧ _ ∧ _ ∧ _ ∧ True from ⟨rfl, rfl, rfl, rfl, rfl, trivial⟩) (hk36 l0 l1 l2 l3 (l4 + (1 : Int32)) _ hM h)
def w289_36 (k26 : Nat → Int32 → Int32 → Int32 → MM → Prop) : Nat → Nat → Int32 → Int32 → Int32 → Int32 → MM → (Int32 → MM → Prop) → Prop
  | 0 => fun _ _ _ _ _ _ _ => False
  | n + 1 => fun l0 l1 l2 l3 l4 M P => ((3 : Int32) ≤ l4 → (k26 l0 l1 l2 (l3 + (1 : Int32)) M)) ∧ (¬ ((3 : Int32) ≤ l4) → (w174 l1 M (fun r2 M1 => w174 l1 M1 (fun r4 M3 => kd M3 l0 10 ∧ (∃ a5, mR M3 l0 0 = some a5 ∧ (inb M3 a5 11 ((r2 + ((2 : Int32) * l3)) + l4) ∧ (kd M3 l0 10 ∧ (kd M3 l0 10 ∧ (∃ a6, mR M3 l0 0 = some a6 ∧ (inb M3 a6 11 ((r4 + ((2 : Int32) * ((l2 - (1 : Int32)) - l3))) + l4) ∧ (inb M3 a6 11 ((r2 + ((2 : Int32) * l3)) + l4) ∧ (kd (sI M3 a6 ((r2 + ((2 : Int32) * l3)) + l4).toNatClampNeg (mI M3 a6 ((r4 + ((2 : Int32) * ((l2 - (1 : Int32)) - l3))) + l4).toNatClampNeg)) l0 10 ∧ (∃ a7, mR (sI M3 a6 ((r2 + ((2 : Int32) * l3)) + l4).toNatClampNeg (mI M3 a6 ((r4 + ((2 : Int32) * ((l2 - (1 : Int32)) - l3))) + l4).toNatClampNeg)) l0 0 = some a7 ∧ (inb (sI M3 a6 ((r2 + ((2 : Int32) * l3)) + l4).toNatClampNeg (mI M3 a6 ((r4 + ((2 : Int32) * ((l2 - (1 : Int32)) - l3))) + l4).toNatClampNeg)) a7 11 ((r4 + ((2 : Int32) * ((l2 - (1 : Int32)) - l3))) + l4) ∧ (w289_104 k26 (fun z0 z1 z2 z3 z4 z5 => w289_36 k26 n z0 z1 z2 z3 z4 z5 P) l0 l1 l2 l3 l4 (sI (sI M3 a6 ((r2 + ((2 : Int32) * l3)) + l4).toNatClampNeg (mI M3 a6 ((r4 + ((2 : Int32) * ((l2 - (1 : Int32)) - l3))) + l4).toNatClampNeg)) a7 ((r4 + ((2 : Int32) * ((l2 - (1 : Int32)) - l3))) + l4).toNatClampNeg (mI M3 a5 ((r2 + ((2 : Int32) * l3)) + l4).toNatClampNeg)) P)))))))))))))))
theorem t289_36 {sl : Nat} {sx : Nat → Int32} {d : Nat} {M0 : MM} {P : Int32 → MM → Prop} {k26 : Nat → Int32 → Int32 → Int32 → MM → Prop} (hk26 : ∀ (l0 : Nat) (l1 : Int32) (l2 : Int32) (l3 : Int32) (M : MM), lenO M0 M → k26 l0 l1 l2 l3 M → R289 sl sx d M0 P 26 [some (vR (some l0)), some (vI l1), some (vI l2), some (vI l3), none, none, none, none] [] M) (n : Nat) : ∀ (l0 : Nat) (l1 : Int32) (l2 : Int32) (l3 : Int32) (l4 : Int32) (M : MM) (_ : lenO M0 M) (_ : w289_36 k26 n l0 l1 l2 l3 l4 M P), R289 sl sx d M0 P 36 [some (vR (some l0)), some (vI l1), some (vI l2), some (vI l3), some (vI l4), none, none, none] [] M := by
  induction n with
  | zero => intro l0 l1 l2 l3 l4 M hM h; cases h
  | succ n ih =>
    intro l0 l1 l2 l3 l4 M hM h
    refine RN_k (callX_det _) 3 _ _ _ _ (show ((3 : Int32) ≤ l4 → R289 sl sx d M0 P 110 [some (vR (some l0)), some (vI l1), some (vI l2), some (vI l3), some (vI l4), none, none, none] [] M) ∧ (¬ ((3 : Int32) ≤ l4) → R289 sl sx d M0 P 42 [some (vR (some l0)), some (vI l1), some (vI l2), some (vI l3), some (vI l4), none, none, none] [] M) from ⟨fun hc => ?_, fun hc => ?_⟩)
    · replace h := h.1 hc
      refine RN_k (callX_det _) 2 _ _ _ _ (show R289 sl sx d M0 P 26 [some (vR (some l0)), some (vI l1), some (vI l2), some (vI (l3 + (1 : Int32))), some (vI l4), none, none, none] [] M from ?_)
      exact RN_weak (K := [some (vR (some l0)), some (vI l1), some (vI l2), some (vI (l3 + (1 : Int32))), none, none, none, none]) (callX_det _) (show _ ∧ _ ∧ _ ∧ _ ∧ True from ⟨rfl, rfl, rfl, rfl, trivial⟩) (hk26 l0 l1 l2 (l3 + (1 : Int32)) _ hM h)
    · replace h := h.2 hc
      refine RN_k (callX_det _) 2 _ _ _ _ (show callX TBg sl sx (d + 2) 174 [vI l1] M (fun v M9 => R289 sl sx d M0 P 46 [some (vR (some l0)), some (vI l1), some (vI l2), some (vI l3), some (vI l4), none, none, none] (pushO v []) M9) from ?_)
      refine callX_mono (callX_len (d := (d + 2)) rfl rfl rfl (c174 (d := d + 1) h)) ?_
      clear h
      rintro v9 M1 ⟨hl, r2, rfl, h⟩
      replace hM := lenT hM hl
      show R289 sl sx d M0 P 46 [some (vR (some l0)), some (vI l1), some (vI l2), some (vI l3), some (vI l4), none, none, none] [vI r2] M1
      refine RN_k (callX_det _) 9 _ _ _ _ (show callX TBg sl sx (d + 2) 174 [vI l1] M1 (fun v M9 => R289 sl sx d M0 P 59 [some (vR (some l0)), some (vI l1), some (vI l2), some (vI l3), some (vI l4), some (vI ((r2 + ((2 : Int32) * l3)) + l4)), none, none] (pushO v []) M9) from ?_)
      refine callX_mono (callX_len (d := (d + 2)) rfl rfl rfl (c174 (d := d + 1) h)) ?_
      clear h
      rintro v9 M3 ⟨hl, r4, rfl, h⟩
      replace hM := lenT hM hl
      show R289 sl sx d M0 P 59 [some (vR (some l0)), some (vI l1), some (vI l2), some (vI l3), some (vI l4), some (vI ((r2 + ((2 : Int32) * l3)) + l4)), none, none] [vI r4] M3
      refine RN_k (callX_det _) 13 _ _ _ _ (show kd M3 l0 10 ∧ R289 sl sx d M0 P 76 [some (vR (some l0)), some (vI l1), some (vI l2), some (vI l3), some (vI l4), some (vI ((r2 + ((2 : Int32) * l3)) + l4)), some (vI ((r4 + ((2 : Int32) * ((l2 - (1 : Int32)) - l3))) + l4)), none] [vR (mR M3 l0 0)] M3 from ⟨h.1, ?_⟩)
      replace h := h.2
      obtain ⟨a5, he, h⟩ := h
      refine RN_k (callX_det _) 1 _ _ _ _ (show R289 sl sx d M0 P 78 [some (vR (some l0)), some (vI l1), some (vI l2), some (vI l3), some (vI l4), some (vI ((r2 + ((2 : Int32) * l3)) + l4)), some (vI ((r4 + ((2 : Int32) * ((l2 - (1 : Int32)) - l3))) + l4)), none] [vI ((r2 + ((2 : Int32) * l3)) + l4), vR (mR M3 l0 0)] M3 from ?_)
      rw [he]
      refine RN_k (callX_det _) 1 _ _ _ _ (show inb M3 a5 11 ((r2 + ((2 : Int32) * l3)) + l4) ∧ R289 sl sx d M0 P 79 [some (vR (some l0)), some (vI l1), some (vI l2), some (vI l3), some (vI l4), some (vI ((r2 + ((2 : Int32) * l3)) + l4)), some (vI ((r4 + ((2 : Int32) * ((l2 - (1 : Int32)) - l3))) + l4)), none] [vI (mI M3 a5 ((r2 + ((2 : Int32) * l3)) + l4).toNatClampNeg)] M3 from ⟨h.1, ?_⟩)
      replace h := h.2
      refine RN_k (callX_det _) 3 _ _ _ _ (show kd M3 l0 10 ∧ R289 sl sx d M0 P 85 [some (vR (some l0)), some (vI l1), some (vI l2), some (vI l3), some (vI l4), some (vI ((r2 + ((2 : Int32) * l3)) + l4)), some (vI ((r4 + ((2 : Int32) * ((l2 - (1 : Int32)) - l3))) + l4)), some (vI (mI M3 a5 ((r2 + ((2 : Int32) * l3)) + l4).toNatClampNeg))] [vR (mR M3 l0 0)] M3 from ⟨h.1, ?_⟩)
      replace h := h.2
      refine RN_k (callX_det _) 3 _ _ _ _ (show kd M3 l0 10 ∧ R289 sl sx d M0 P 91 [some (vR (some l0)), some (vI l1), some (vI l2), some (vI l3), some (vI l4), some (vI ((r2 + ((2 : Int32) * l3)) + l4)), some (vI ((r4 + ((2 : Int32) * ((l2 - (1 : Int32)) - l3))) + l4)), some (vI (mI M3 a5 ((r2 + ((2 : Int32) * l3)) + l4).toNatClampNeg))] [vR (mR M3 l0 0), vI ((r2 + ((2 : Int32) * l3)) + l4), vR (mR M3 l0 0)] M3 from ⟨h.1, ?_⟩)
      replace h := h.2
      obtain ⟨a6, he, h⟩ := h
      refine RN_k (callX_det _) 1 _ _ _ _ (show R289 sl sx d M0 P 93 [some (vR (some l0)), some (vI l1), some (vI l2), some (vI l3), some (vI l4), some (vI ((r2 + ((2 : Int32) * l3)) + l4)), some (vI ((r4 + ((2 : Int32) * ((l2 - (1 : Int32)) - l3))) + l4)), some (vI (mI M3 a5 ((r2 + ((2 : Int32) * l3)) + l4).toNatClampNeg))] [vI ((r4 + ((2 : Int32) * ((l2 - (1 : Int32)) - l3))) + l4), vR (mR M3 l0 0), vI ((r2 + ((2 : Int32) * l3)) + l4), vR (mR M3 l0 0)] M3 from ?_)
      rw [he]
      refine RN_k (callX_det _) 1 _ _ _ _ (show inb M3 a6 11 ((r4 + ((2 : Int32) * ((l2 - (1 : Int32)) - l3))) + l4) ∧ R289 sl sx d M0 P 94 [some (vR (some l0)), some (vI l1), some (vI l2), some (vI l3), some (vI l4), some (vI ((r2 + ((2 : Int32) * l3)) + l4)), some (vI ((r4 + ((2 : Int32) * ((l2 - (1 : Int32)) - l3))) + l4)), some (vI (mI M3 a5 ((r2 + ((2 : Int32) * l3)) + l4).toNatClampNeg))] [vI (mI M3 a6 ((r4 + ((2 : Int32) * ((l2 - (1 : Int32)) - l3))) + l4).toNatClampNeg), vI ((r2 + ((2 : Int32) * l3)) + l4), vR (some a6)] M3 from ⟨h.1, ?_⟩)
      replace h := h.2
      refine RN_k (callX_det _) 1 _ _ _ _ (show inb M3 a6 11 ((r2 + ((2 : Int32) * l3)) + l4) ∧ R289 sl sx d M0 P 95 [some (vR (some l0)), some (vI l1), some (vI l2), some (vI l3), some (vI l4), some (vI ((r2 + ((2 : Int32) * l3)) + l4)), some (vI ((r4 + ((2 : Int32) * ((l2 - (1 : Int32)) - l3))) + l4)), some (vI (mI M3 a5 ((r2 + ((2 : Int32) * l3)) + l4).toNatClampNeg))] [] (sI M3 a6 ((r2 + ((2 : Int32) * l3)) + l4).toNatClampNeg (mI M3 a6 ((r4 + ((2 : Int32) * ((l2 - (1 : Int32)) - l3))) + l4).toNatClampNeg)) from ⟨h.1, ?_⟩)
      replace h := h.2
      refine RN_k (callX_det _) 2 _ _ _ _ (show kd (sI M3 a6 ((r2 + ((2 : Int32) * l3)) + l4).toNatClampNeg (mI M3 a6 ((r4 + ((2 : Int32) * ((l2 - (1 : Int32)) - l3))) + l4).toNatClampNeg)) l0 10 ∧ R289 sl sx d M0 P 99 [some (vR (some l0)), some (vI l1), some (vI l2), some (vI l3), some (vI l4), some (vI ((r2 + ((2 : Int32) * l3)) + l4)), some (vI ((r4 + ((2 : Int32) * ((l2 - (1 : Int32)) - l3))) + l4)), some (vI (mI M3 a5 ((r2 + ((2 : Int32) * l3)) + l4).toNatClampNeg))] [vR (mR (sI M3 a6 ((r2 + ((2 : Int32) * l3)) + l4).toNatClampNeg (mI M3 a6 ((r4 + ((2 : Int32) * ((l2 - (1 : Int32)) - l3))) + l4).toNatClampNeg)) l0 0)] (sI M3 a6 ((r2 + ((2 : Int32) * l3)) + l4).toNatClampNeg (mI M3 a6 ((r4 + ((2 : Int32) * ((l2 - (1 : Int32)) - l3))) + l4).toNatClampNeg)) from ⟨h.1, ?_⟩)
      replace h := h.2
      obtain ⟨a7, he, h⟩ := h
      refine RN_k (callX_det _) 2 _ _ _ _ (show R289 sl sx d M0 P 103 [some (vR (some l0)), some (vI l1), some (vI l2), some (vI l3), some (vI l4), some (vI ((r2 + ((2 : Int32) * l3)) + l4)), some (vI ((r4 + ((2 : Int32) * ((l2 - (1 : Int32)) - l3))) + l4)), some (vI (mI M3 a5 ((r2 + ((2 : Int32) * l3)) + l4).toNatClampNeg))] [vI (mI M3 a5 ((r2 + ((2 : Int32) * l3)) + l4).toNatClampNeg), vI ((r4 + ((2 : Int32) * ((l2 - (1 : Int32)) - l3))) + l4), vR (mR (sI M3 a6 ((r2 + ((2 : Int32) * l3)) + l4).toNatClampNeg (mI M3 a6 ((r4 + ((2 : Int32) * ((l2 - (1 : Int32)) - l3))) + l4).toNatClampNeg)) l0 0)] (sI M3 a6 ((r2 + ((2 : Int32) * l3)) + l4).toNatClampNeg (mI M3 a6 ((r4 + ((2 : Int32) * ((l2 - (1 : Int32)) - l3))) + l4).toNatClampNeg)) from ?_)
      rw [he]
      refine RN_k (callX_det _) 1 _ _ _ _ (show inb (sI M3 a6 ((r2 + ((2 : Int32) * l3)) + l4).toNatClampNeg (mI M3 a6 ((r4 + ((2 : Int32) * ((l2 - (1 : Int32)) - l3))) + l4).toNatClampNeg)) a7 11 ((r4 + ((2 : Int32) * ((l2 - (1 : Int32)) - l3))) + l4) ∧ R289 sl sx d M0 P 104 [some (vR (some l0)), some (vI l1), some (vI l2), some (vI l3), some (vI l4), some (vI ((r2 + ((2 : Int32) * l3)) + l4)), some (vI ((r4 + ((2 : Int32) * ((l2 - (1 : Int32)) - l3))) + l4)), some (vI (mI M3 a5 ((r2 + ((2 : Int32) * l3)) + l4).toNatClampNeg))] [] (sI (sI M3 a6 ((r2 + ((2 : Int32) * l3)) + l4).toNatClampNeg (mI M3 a6 ((r4 + ((2 : Int32) * ((l2 - (1 : Int32)) - l3))) + l4).toNatClampNeg)) a7 ((r4 + ((2 : Int32) * ((l2 - (1 : Int32)) - l3))) + l4).toNatClampNeg (mI M3 a5 ((r2 + ((2 : Int32) * l3)) + l4).toNatClampNeg)) from ⟨h.1, ?_⟩)
      replace h := h.2
      exact RN_weak (K := [some (vR (some l0)), some (vI l1), some (vI l2), some (vI l3), some (vI l4), none, none, none]) (callX_det _) (show _ ∧ _ ∧ _ ∧ _ ∧ _ ∧ True from ⟨rfl, rfl, rfl, rfl, rfl, trivial⟩) (t289_104 hk26 ih l0 l1 l2 l3 l4 _ hM h)
def w289_26 : Nat → Nat → Int32 → Int32 → Int32 → MM → (Int32 → MM → Prop) → Prop
  | 0 => fun _ _ _ _ _ _ => False
  | n + 1 => fun l0 l1 l2 l3 M P => ¬ (2 : Int32) = 0 ∧ (((l2 / (2 : Int32)) ≤ l3 → (kd M l0 10 ∧ w177 l0 l2 M (fun r2 M1 => P r2 M1))) ∧ (¬ ((l2 / (2 : Int32)) ≤ l3) → (∃ n2, w289_36 (fun z0 z1 z2 z3 z4 => w289_26  n z0 z1 z2 z3 z4 P) n2 l0 l1 l2 l3 (1 : Int32) M P)))
theorem t289_26 {sl : Nat} {sx : Nat → Int32} {d : Nat} {M0 : MM} {P : Int32 → MM → Prop} (n : Nat) : ∀ (l0 : Nat) (l1 : Int32) (l2 : Int32) (l3 : Int32) (M : MM) (_ : lenO M0 M) (_ : w289_26  n l0 l1 l2 l3 M P), R289 sl sx d M0 P 26 [some (vR (some l0)), some (vI l1), some (vI l2), some (vI l3), none, none, none, none] [] M := by
  induction n with
  | zero => intro l0 l1 l2 l3 M hM h; cases h
  | succ n ih =>
    intro l0 l1 l2 l3 M hM h
    refine RN_k (callX_det _) 4 _ _ _ _ (show ¬ (2 : Int32) = 0 ∧ R289 sl sx d M0 P 30 [some (vR (some l0)), some (vI l1), some (vI l2), some (vI l3), none, none, none, none] [vI (l2 / (2 : Int32)), vI l3] M from ⟨h.1, ?_⟩)
    replace h := h.2
    refine RN_k (callX_det _) 1 _ _ _ _ (show ((l2 / (2 : Int32)) ≤ l3 → R289 sl sx d M0 P 116 [some (vR (some l0)), some (vI l1), some (vI l2), some (vI l3), none, none, none, none] [] M) ∧ (¬ ((l2 / (2 : Int32)) ≤ l3) → R289 sl sx d M0 P 33 [some (vR (some l0)), some (vI l1), some (vI l2), some (vI l3), none, none, none, none] [] M) from ⟨fun hc => ?_, fun hc => ?_⟩)
    · replace h := h.1 hc
      refine RN_k (callX_det _) 3 _ _ _ _ (show kd M l0 10 ∧ callX TBg sl sx (d + 2) 177 [vR (some l0), vI l2] M (fun v M9 => R289 sl sx d M0 P 121 [some (vR (some l0)), some (vI l1), some (vI l2), some (vI l3), none, none, none, none] (pushO v []) M9) from ⟨h.1, ?_⟩)
      replace h := h.2
      refine callX_mono (callX_len (d := (d + 2)) rfl rfl rfl (c177 (d := d + 1) h)) ?_
      clear h
      rintro v9 M1 ⟨hl, r2, rfl, h⟩
      replace hM := lenT hM hl
      show R289 sl sx d M0 P 121 [some (vR (some l0)), some (vI l1), some (vI l2), some (vI l3), none, none, none, none] [vI r2] M1
      exact RN_k (callX_det _) 1 _ _ _ _ (show rtW q289 M0 (PI P) (some (vI r2)) M1 from ⟨⟨_, rfl⟩, hM.1, hM.2, _, rfl, h⟩)
    · replace h := h.2 hc
      refine RN_k (callX_det _) 2 _ _ _ _ (show R289 sl sx d M0 P 36 [some (vR (some l0)), some (vI l1), some (vI l2), some (vI l3), some (vI (1 : Int32)), none, none, none] [] M from ?_)
      obtain ⟨n2, h⟩ := h
      exact RN_weak (K := [some (vR (some l0)), some (vI l1), some (vI l2), some (vI l3), some (vI (1 : Int32)), none, none, none]) (callX_det _) (show _ ∧ _ ∧ _ ∧ _ ∧ _ ∧ True from ⟨rfl, rfl, rfl, rfl, rfl, trivial⟩) (t289_36 ih n2 l0 l1 l2 l3 (1 : Int32) _ hM h)
def w289 (l0 : Nat) (l1 : Int32) (M : MM) (P : Int32 → MM → Prop) : Prop := kd M l0 10 ∧ w182 l0 l1 M (fun r2 M1 => (r2 ≠ 0 → (kd M1 l0 10 ∧ w286 l0 M1 (fun M3 => kd M3 l0 10 ∧ w180 l0 l1 M3 (fun r5 M4 => ∃ n2, w289_26  n2 l0 l1 r5 (0 : Int32) M4 P)))) ∧ (¬ (r2 ≠ 0) → (kd M1 l0 10 ∧ w167 l0 (2 : Int32) M1 (fun r7 M6 => P r7 M6))))
theorem t289_E {sl : Nat} {sx : Nat → Int32} {d : Nat} {M0 : MM} {P : Int32 → MM → Prop} (l0 : Nat) (l1 : Int32) (M : MM) (hM : lenO M0 M) (h : w289  l0 l1 M P) : R289 sl sx d M0 P 0 [some (vR (some l0)), some (vI l1), none, none, none, none, none, none] [] M := by
  refine RN_k (callX_det _) 3 _ _ _ _ (show kd M l0 10 ∧ callX TBg sl sx (d + 2) 182 [vR (some l0), vI l1] M (fun v M9 => R289 sl sx d M0 P 5 [some (vR (some l0)), some (vI l1), none, none, none, none, none, none] (pushO v []) M9) from ⟨h.1, ?_⟩)
  replace h := h.2
  refine callX_mono (callX_len (d := (d + 2)) rfl rfl rfl (c182 (d := d) h)) ?_
  clear h
  rintro v9 M1 ⟨hl, r2, rfl, h⟩
  replace hM := lenT hM hl
  show R289 sl sx d M0 P 5 [some (vR (some l0)), some (vI l1), none, none, none, none, none, none] [vI r2] M1
  refine RN_k (callX_det _) 1 _ _ _ _ (show (r2 ≠ 0 → R289 sl sx d M0 P 14 [some (vR (some l0)), some (vI l1), none, none, none, none, none, none] [] M1) ∧ (¬ (r2 ≠ 0) → R289 sl sx d M0 P 8 [some (vR (some l0)), some (vI l1), none, none, none, none, none, none] [] M1) from ⟨fun hc => ?_, fun hc => ?_⟩)
  · replace h := h.1 hc
    refine RN_k (callX_det _) 2 _ _ _ _ (show kd M1 l0 10 ∧ callX TBg sl sx (d + 2) 286 [vR (some l0)] M1 (fun v M9 => R289 sl sx d M0 P 18 [some (vR (some l0)), some (vI l1), none, none, none, none, none, none] (pushO v []) M9) from ⟨h.1, ?_⟩)
    replace h := h.2
    refine callX_mono (callX_len (d := (d + 2)) rfl rfl rfl (c286 (d := d + 1) h)) ?_
    clear h
    rintro v9 M3 ⟨hl, rfl, h⟩
    replace hM := lenT hM hl
    show R289 sl sx d M0 P 18 [some (vR (some l0)), some (vI l1), none, none, none, none, none, none] [] M3
    refine RN_k (callX_det _) 3 _ _ _ _ (show kd M3 l0 10 ∧ callX TBg sl sx (d + 2) 180 [vR (some l0), vI l1] M3 (fun v M9 => R289 sl sx d M0 P 23 [some (vR (some l0)), some (vI l1), none, none, none, none, none, none] (pushO v []) M9) from ⟨h.1, ?_⟩)
    replace h := h.2
    refine callX_mono (callX_len (d := (d + 2)) rfl rfl rfl (c180 (d := d) h)) ?_
    clear h
    rintro v9 M4 ⟨hl, r5, rfl, h⟩
    replace hM := lenT hM hl
    show R289 sl sx d M0 P 23 [some (vR (some l0)), some (vI l1), none, none, none, none, none, none] [vI r5] M4
    refine RN_k (callX_det _) 3 _ _ _ _ (show R289 sl sx d M0 P 26 [some (vR (some l0)), some (vI l1), some (vI r5), some (vI (0 : Int32)), none, none, none, none] [] M4 from ?_)
    obtain ⟨n2, h⟩ := h
    exact RN_weak (K := [some (vR (some l0)), some (vI l1), some (vI r5), some (vI (0 : Int32)), none, none, none, none]) (callX_det _) (show _ ∧ _ ∧ _ ∧ _ ∧ True from ⟨rfl, rfl, rfl, rfl, trivial⟩) (t289_26  n2 l0 l1 r5 (0 : Int32) _ hM h)
  · replace h := h.2 hc
    refine RN_k (callX_det _) 3 _ _ _ _ (show kd M1 l0 10 ∧ callX TBg sl sx (d + 2) 167 [vR (some l0), vI (2 : Int32)] M1 (fun v M9 => R289 sl sx d M0 P 13 [some (vR (some l0)), some (vI l1), none, none, none, none, none, none] (pushO v []) M9) from ⟨h.1, ?_⟩)
    replace h := h.2
    refine callX_mono (callX_len (d := (d + 2)) rfl rfl rfl (c167 (d := d + 1) h)) ?_
    clear h
    rintro v9 M6 ⟨hl, r7, rfl, h⟩
    replace hM := lenT hM hl
    show R289 sl sx d M0 P 13 [some (vR (some l0)), some (vI l1), none, none, none, none, none, none] [vI r7] M6
    exact RN_k (callX_det _) 1 _ _ _ _ (show rtW q289 M0 (PI P) (some (vI r7)) M6 from ⟨⟨_, rfl⟩, hM.1, hM.2, _, rfl, h⟩)
theorem c289 {sl : Nat} {sx : Nat → Int32} {d : Nat} {l0 : Nat} {l1 : Int32} {M : MM} {P : Int32 → MM → Prop} (h : w289 l0 l1 M P) : callX TBg sl sx (d + 3) 289 [vR (some l0), vI l1] M (PI P) :=
  cX (d := d + 2) q289 (false, tb289) rfl rfl rfl (t289_E l0 l1 M lenR h)
