/-! ===== printed by program: what must hold that a call ends with what is asked ===== -/
-- TwoLeash.farthest(II)I
abbrev q61 : MQ7 := (3, 1, 5, 9, 0, 0, 1)
abbrev R61 (sl : Nat) (sx : Nat → Int32) (d : Nat) (M0 : MM) (P : Int32 → MM → Prop) : Nat → LL → List VV → MM → Prop := RN 9 false (mS M0).length (mT M0) 0 0 sl sx (callX TBg sl sx (d + 4)) (rtW q61 M0 (PI P)) (as2 tb61)
def w61_91 (k25 : Nat → Int32 → Int32 → Int32 → Int32 → MM → Prop) (l0 : Nat) (l1 : Int32) (l2 : Int32) (l3 : Int32) (l4 : Int32) (M : MM) (P : Int32 → MM → Prop) : Prop := k25 l0 l1 l2 l3 (l4 + (1 : Int32)) M
theorem t61_91 {sl : Nat} {sx : Nat → Int32} {d : Nat} {M0 : MM} {P : Int32 → MM → Prop} {k25 : Nat → Int32 → Int32 → Int32 → Int32 → MM → Prop} (hk25 : ∀ (l0 : Nat) (l1 : Int32) (l2 : Int32) (l3 : Int32) (l4 : Int32) (M : MM), lenO M0 M → k25 l0 l1 l2 l3 l4 M → R61 sl sx d M0 P 25 [some (vR (some l0)), some (vI l1), some (vI l2), some (vI l3), some (vI l4)] [] M) (l0 : Nat) (l1 : Int32) (l2 : Int32) (l3 : Int32) (l4 : Int32) (M : MM) (hM : lenO M0 M) (h : w61_91 k25 l0 l1 l2 l3 l4 M P) : R61 sl sx d M0 P 91 [some (vR (some l0)), some (vI l1), some (vI l2), some (vI l3), some (vI l4)] [] M := by
  refine RN_k (callX_det _) 2 _ _ _ _ (show R61 sl sx d M0 P 25 [some (vR (some l0)), some (vI l1), some (vI l2), some (vI l3), some (vI (l4 + (1 : Int32)))] [] M from ?_)
  exact RN_weak (K := [some (vR (some l0)), some (vI l1), some (vI l2), some (vI l3), some (vI (l4 + (1 : Int32)))]) (callX_det _) (show _ ∧ _ ∧ _ ∧ _ ∧ _ ∧ True from ⟨rfl, rfl, rfl, rfl, rfl, trivial⟩) (hk25 l0 l1 l2 l3 (l4 + (1 : Int32)) _ hM h)
def w61_77 (k25 : Nat → Int32 → Int32 → Int32 → Int32 → MM → Prop) (l0 : Nat) (l1 : Int32) (l2 : Int32) (l4 : Int32) (M : MM) (P : Int32 → MM → Prop) : Prop := kd M l0 9 ∧ (kd M l0 9 ∧ (∃ a1, mR M l0 13 = some a1 ∧ (kd M a1 3 ∧ w56 a1 (mR M l0 12) M (fun M2 => w61_91 k25 l0 l1 l2 l4 l4 M2 P))))
theorem t61_77 {sl : Nat} {sx : Nat → Int32} {d : Nat} {M0 : MM} {P : Int32 → MM → Prop} {k25 : Nat → Int32 → Int32 → Int32 → Int32 → MM → Prop} (hk25 : ∀ (l0 : Nat) (l1 : Int32) (l2 : Int32) (l3 : Int32) (l4 : Int32) (M : MM), lenO M0 M → k25 l0 l1 l2 l3 l4 M → R61 sl sx d M0 P 25 [some (vR (some l0)), some (vI l1), some (vI l2), some (vI l3), some (vI l4)] [] M) (l0 : Nat) (l1 : Int32) (l2 : Int32) (l4 : Int32) (M : MM) (hM : lenO M0 M) (h : w61_77 k25 l0 l1 l2 l4 M P) : R61 sl sx d M0 P 77 [some (vR (some l0)), some (vI l1), some (vI l2), none, some (vI l4)] [] M := by
  refine RN_k (callX_det _) 4 _ _ _ _ (show kd M l0 9 ∧ R61 sl sx d M0 P 84 [some (vR (some l0)), some (vI l1), some (vI l2), some (vI l4), some (vI l4)] [vR (mR M l0 13)] M from ⟨h.1, ?_⟩)
  replace h := h.2
  refine RN_k (callX_det _) 2 _ _ _ _ (show kd M l0 9 ∧ R61 sl sx d M0 P 88 [some (vR (some l0)), some (vI l1), some (vI l2), some (vI l4), some (vI l4)] [vR (mR M l0 12), vR (mR M l0 13)] M from ⟨h.1, ?_⟩)
  replace h := h.2
  obtain ⟨a1, he, h⟩ := h
  rw [he]
  refine RN_k (callX_det _) 1 _ _ _ _ (show kd M a1 3 ∧ callX TBg sl sx (d + 4) 56 [vR (some a1), vR (mR M l0 12)] M (fun v M9 => R61 sl sx d M0 P 91 [some (vR (some l0)), some (vI l1), some (vI l2), some (vI l4), some (vI l4)] (pushO v []) M9) from ⟨h.1, ?_⟩)
  replace h := h.2
  refine callX_mono (callX_len (d := (d + 4)) rfl rfl rfl (c56 (d := d + 3) h)) ?_
  clear h
  rintro v9 M2 ⟨hl, rfl, h⟩
  replace hM := lenT hM hl
  show R61 sl sx d M0 P 91 [some (vR (some l0)), some (vI l1), some (vI l2), some (vI l4), some (vI l4)] [] M2
  exact RN_weak (K := [some (vR (some l0)), some (vI l1), some (vI l2), some (vI l4), some (vI l4)]) (callX_det _) (show _ ∧ _ ∧ _ ∧ _ ∧ _ ∧ True from ⟨rfl, rfl, rfl, rfl, rfl, trivial⟩) (t61_91 hk25 l0 l1 l2 l4 l4 _ hM h)
def w61_25 : Nat → Nat → Int32 → Int32 → Int32 → Int32 → MM → (Int32 → MM → Prop) → Prop
  | 0 => fun _ _ _ _ _ _ _ => False
  | n + 1 => fun l0 l1 l2 l3 l4 M P => kd M l0 9 ∧ (∃ a1, mR M l0 5 = some a1 ∧ (inb M a1 16 l1 ∧ (∃ a2, mR M a1 l1.toNatClampNeg = some a2 ∧ (kd M a2 8 ∧ (((mI M a2 1) ≤ l4 → (kd M l0 9 ∧ (kd M l0 9 ∧ w55 l0 (mR M l0 13) M (fun r4 M3 => P l3 M3)))) ∧ (¬ ((mI M a2 1) ≤ l4) → (kd M l0 9 ∧ (∃ a5, mR M l0 5 = some a5 ∧ (inb M a5 16 l1 ∧ (kd M l0 9 ∧ (∃ a6, mR M l0 5 = some a6 ∧ (inb M a6 16 l2 ∧ (kd M l0 9 ∧ w59 l0 (mR M a5 l1.toNatClampNeg) l4 (mR M a6 l2.toNatClampNeg) M (fun r8 M7 => (l3 = (-1 : Int32) → (w61_77 (fun z0 z1 z2 z3 z4 z5 => w61_25  n z0 z1 z2 z3 z4 z5 P) l0 l1 l2 l4 M7 P)) ∧ (¬ (l3 = (-1 : Int32)) → (kd M7 l0 9 ∧ (kd M7 l0 9 ∧ (∃ a9, mR M7 l0 13 = some a9 ∧ (kd M7 a9 3 ∧ w63 a9 (mR M7 l0 12) M7 (fun r11 M10 => (r11 = 0 → (w61_91 (fun z0 z1 z2 z3 z4 z5 => w61_25  n z0 z1 z2 z3 z4 z5 P) l0 l1 l2 l3 l4 M10 P)) ∧ (¬ (r11 = 0) → (w61_77 (fun z0 z1 z2 z3 z4 z5 => w61_25  n z0 z1 z2 z3 z4 z5 P) l0 l1 l2 l4 M10 P))))))))))))))))))))))
theorem t61_25 {sl : Nat} {sx : Nat → Int32} {d : Nat} {M0 : MM} {P : Int32 → MM → Prop} (n : Nat) : ∀ (l0 : Nat) (l1 : Int32) (l2 : Int32) (l3 : Int32) (l4 : Int32) (M : MM) (_ : lenO M0 M) (_ : w61_25  n l0 l1 l2 l3 l4 M P), R61 sl sx d M0 P 25 [some (vR (some l0)), some (vI l1), some (vI l2), some (vI l3), some (vI l4)] [] M := by
  induction n with
  | zero => intro l0 l1 l2 l3 l4 M hM h; cases h
  | succ n ih =>
    intro l0 l1 l2 l3 l4 M hM h
    refine RN_k (callX_det _) 3 _ _ _ _ (show kd M l0 9 ∧ R61 sl sx d M0 P 31 [some (vR (some l0)), some (vI l1), some (vI l2), some (vI l3), some (vI l4)] [vR (mR M l0 5), vI l4] M from ⟨h.1, ?_⟩)
    replace h := h.2
    obtain ⟨a1, he, h⟩ := h
    refine RN_k (callX_det _) 1 _ _ _ _ (show R61 sl sx d M0 P 32 [some (vR (some l0)), some (vI l1), some (vI l2), some (vI l3), some (vI l4)] [vI l1, vR (mR M l0 5), vI l4] M from ?_)
    rw [he]
    refine RN_k (callX_det _) 1 _ _ _ _ (show inb M a1 16 l1 ∧ R61 sl sx d M0 P 33 [some (vR (some l0)), some (vI l1), some (vI l2), some (vI l3), some (vI l4)] [vR (mR M a1 l1.toNatClampNeg), vI l4] M from ⟨h.1, ?_⟩)
    replace h := h.2
    obtain ⟨a2, he, h⟩ := h
    rw [he]
    refine RN_k (callX_det _) 1 _ _ _ _ (show kd M a2 8 ∧ R61 sl sx d M0 P 36 [some (vR (some l0)), some (vI l1), some (vI l2), some (vI l3), some (vI l4)] [vI (mI M a2 1), vI l4] M from ⟨h.1, ?_⟩)
    replace h := h.2
    refine RN_k (callX_det _) 1 _ _ _ _ (show ((mI M a2 1) ≤ l4 → R61 sl sx d M0 P 97 [some (vR (some l0)), some (vI l1), some (vI l2), some (vI l3), some (vI l4)] [] M) ∧ (¬ ((mI M a2 1) ≤ l4) → R61 sl sx d M0 P 39 [some (vR (some l0)), some (vI l1), some (vI l2), some (vI l3), some (vI l4)] [] M) from ⟨fun hc => ?_, fun hc => ?_⟩)
    · replace h := h.1 hc
      refine RN_k (callX_det _) 3 _ _ _ _ (show kd M l0 9 ∧ R61 sl sx d M0 P 102 [some (vR (some l0)), some (vI l1), some (vI l2), some (vI l3), some (vI l4)] [vR (mR M l0 13), vR (some l0)] M from ⟨h.1, ?_⟩)
      replace h := h.2
      refine RN_k (callX_det _) 1 _ _ _ _ (show kd M l0 9 ∧ callX TBg sl sx (d + 4) 55 [vR (some l0), vR (mR M l0 13)] M (fun v M9 => R61 sl sx d M0 P 105 [some (vR (some l0)), some (vI l1), some (vI l2), some (vI l3), some (vI l4)] (pushO v []) M9) from ⟨h.1, ?_⟩)
      replace h := h.2
      refine callX_mono (callX_len (d := (d + 4)) rfl rfl rfl (c55 (d := d + 2) h)) ?_
      clear h
      rintro v9 M3 ⟨hl, r4, rfl, h⟩
      replace hM := lenT hM hl
      show R61 sl sx d M0 P 105 [some (vR (some l0)), some (vI l1), some (vI l2), some (vI l3), some (vI l4)] [vI r4] M3
      exact RN_k (callX_det _) 3 _ _ _ _ (show rtW q61 M0 (PI P) (some (vI l3)) M3 from ⟨⟨_, rfl⟩, hM.1, hM.2, _, rfl, h⟩)
    · replace h := h.2 hc
      refine RN_k (callX_det _) 3 _ _ _ _ (show kd M l0 9 ∧ R61 sl sx d M0 P 44 [some (vR (some l0)), some (vI l1), some (vI l2), some (vI l3), some (vI l4)] [vR (mR M l0 5), vR (some l0)] M from ⟨h.1, ?_⟩)
      replace h := h.2
      obtain ⟨a5, he, h⟩ := h
      refine RN_k (callX_det _) 1 _ _ _ _ (show R61 sl sx d M0 P 45 [some (vR (some l0)), some (vI l1), some (vI l2), some (vI l3), some (vI l4)] [vI l1, vR (mR M l0 5), vR (some l0)] M from ?_)
      rw [he]
      refine RN_k (callX_det _) 1 _ _ _ _ (show inb M a5 16 l1 ∧ R61 sl sx d M0 P 46 [some (vR (some l0)), some (vI l1), some (vI l2), some (vI l3), some (vI l4)] [vR (mR M a5 l1.toNatClampNeg), vR (some l0)] M from ⟨h.1, ?_⟩)
      replace h := h.2
      refine RN_k (callX_det _) 3 _ _ _ _ (show kd M l0 9 ∧ R61 sl sx d M0 P 52 [some (vR (some l0)), some (vI l1), some (vI l2), some (vI l3), some (vI l4)] [vR (mR M l0 5), vI l4, vR (mR M a5 l1.toNatClampNeg), vR (some l0)] M from ⟨h.1, ?_⟩)
      replace h := h.2
      obtain ⟨a6, he, h⟩ := h
      refine RN_k (callX_det _) 1 _ _ _ _ (show R61 sl sx d M0 P 53 [some (vR (some l0)), some (vI l1), some (vI l2), some (vI l3), some (vI l4)] [vI l2, vR (mR M l0 5), vI l4, vR (mR M a5 l1.toNatClampNeg), vR (some l0)] M from ?_)
      rw [he]
      refine RN_k (callX_det _) 1 _ _ _ _ (show inb M a6 16 l2 ∧ R61 sl sx d M0 P 54 [some (vR (some l0)), some (vI l1), some (vI l2), some (vI l3), some (vI l4)] [vR (mR M a6 l2.toNatClampNeg), vI l4, vR (mR M a5 l1.toNatClampNeg), vR (some l0)] M from ⟨h.1, ?_⟩)
      replace h := h.2
      refine RN_k (callX_det _) 1 _ _ _ _ (show kd M l0 9 ∧ callX TBg sl sx (d + 4) 59 [vR (some l0), vR (mR M a5 l1.toNatClampNeg), vI l4, vR (mR M a6 l2.toNatClampNeg)] M (fun v M9 => R61 sl sx d M0 P 57 [some (vR (some l0)), some (vI l1), some (vI l2), some (vI l3), some (vI l4)] (pushO v []) M9) from ⟨h.1, ?_⟩)
      replace h := h.2
      refine callX_mono (callX_len (d := (d + 4)) rfl rfl rfl (c59 (d := d) h)) ?_
      clear h
      rintro v9 M7 ⟨hl, r8, rfl, h⟩
      replace hM := lenT hM hl
      show R61 sl sx d M0 P 57 [some (vR (some l0)), some (vI l1), some (vI l2), some (vI l3), some (vI l4)] [vI r8] M7
      refine RN_k (callX_det _) 4 _ _ _ _ (show (l3 = (-1 : Int32) → R61 sl sx d M0 P 77 [some (vR (some l0)), some (vI l1), some (vI l2), some (vI l3), some (vI l4)] [] M7) ∧ (¬ (l3 = (-1 : Int32)) → R61 sl sx d M0 P 63 [some (vR (some l0)), some (vI l1), some (vI l2), some (vI l3), some (vI l4)] [] M7) from ⟨fun hc => ?_, fun hc => ?_⟩)
      · replace h := h.1 hc
        exact RN_weak (K := [some (vR (some l0)), some (vI l1), some (vI l2), none, some (vI l4)]) (callX_det _) (show _ ∧ _ ∧ _ ∧ _ ∧ True from ⟨rfl, rfl, rfl, rfl, trivial⟩) (t61_77 ih l0 l1 l2 l4 _ hM h)
      · replace h := h.2 hc
        refine RN_k (callX_det _) 2 _ _ _ _ (show kd M7 l0 9 ∧ R61 sl sx d M0 P 67 [some (vR (some l0)), some (vI l1), some (vI l2), some (vI l3), some (vI l4)] [vR (mR M7 l0 13)] M7 from ⟨h.1, ?_⟩)
        replace h := h.2
        refine RN_k (callX_det _) 2 _ _ _ _ (show kd M7 l0 9 ∧ R61 sl sx d M0 P 71 [some (vR (some l0)), some (vI l1), some (vI l2), some (vI l3), some (vI l4)] [vR (mR M7 l0 12), vR (mR M7 l0 13)] M7 from ⟨h.1, ?_⟩)
        replace h := h.2
        obtain ⟨a9, he, h⟩ := h
        rw [he]
        refine RN_k (callX_det _) 1 _ _ _ _ (show kd M7 a9 3 ∧ callX TBg sl sx (d + 4) 63 [vR (some a9), vR (mR M7 l0 12)] M7 (fun v M9 => R61 sl sx d M0 P 74 [some (vR (some l0)), some (vI l1), some (vI l2), some (vI l3), some (vI l4)] (pushO v []) M9) from ⟨h.1, ?_⟩)
        replace h := h.2
        refine callX_mono (callX_len (d := (d + 4)) rfl rfl rfl (c63 (d := d + 3) h)) ?_
        clear h
        rintro v9 M10 ⟨hl, r11, rfl, h⟩
        replace hM := lenT hM hl
        show R61 sl sx d M0 P 74 [some (vR (some l0)), some (vI l1), some (vI l2), some (vI l3), some (vI l4)] [vI r11] M10
        refine RN_k (callX_det _) 1 _ _ _ _ (show (r11 = 0 → R61 sl sx d M0 P 91 [some (vR (some l0)), some (vI l1), some (vI l2), some (vI l3), some (vI l4)] [] M10) ∧ (¬ (r11 = 0) → R61 sl sx d M0 P 77 [some (vR (some l0)), some (vI l1), some (vI l2), some (vI l3), some (vI l4)] [] M10) from ⟨fun hc => ?_, fun hc => ?_⟩)
        · replace h := h.1 hc
          exact RN_weak (K := [some (vR (some l0)), some (vI l1), some (vI l2), some (vI l3), some (vI l4)]) (callX_det _) (show _ ∧ _ ∧ _ ∧ _ ∧ _ ∧ True from ⟨rfl, rfl, rfl, rfl, rfl, trivial⟩) (t61_91 ih l0 l1 l2 l3 l4 _ hM h)
        · replace h := h.2 hc
          exact RN_weak (K := [some (vR (some l0)), some (vI l1), some (vI l2), none, some (vI l4)]) (callX_det _) (show _ ∧ _ ∧ _ ∧ _ ∧ True from ⟨rfl, rfl, rfl, rfl, trivial⟩) (t61_77 ih l0 l1 l2 l4 _ hM h)
def w61 (l0 : Nat) (l1 : Int32) (l2 : Int32) (M : MM) (P : Int32 → MM → Prop) : Prop := kd M l0 9 ∧ w62 l0 (1 : Int32) l1 l2 M (fun r2 M1 => kd M1 l0 9 ∧ (kd (sI M1 l0 10 r2) l0 9 ∧ (((mI (sI M1 l0 10 r2) l0 10) = 0 → (∃ n2, w61_25  n2 l0 l1 l2 (-1 : Int32) (0 : Int32) (sI M1 l0 10 r2) P)) ∧ (¬ ((mI (sI M1 l0 10 r2) l0 10) = 0) → (P (-1 : Int32) (sI M1 l0 10 r2))))))
theorem t61_E {sl : Nat} {sx : Nat → Int32} {d : Nat} {M0 : MM} {P : Int32 → MM → Prop} (l0 : Nat) (l1 : Int32) (l2 : Int32) (M : MM) (hM : lenO M0 M) (h : w61  l0 l1 l2 M P) : R61 sl sx d M0 P 0 [some (vR (some l0)), some (vI l1), some (vI l2), none, none] [] M := by
  refine RN_k (callX_det _) 6 _ _ _ _ (show kd M l0 9 ∧ callX TBg sl sx (d + 4) 62 [vR (some l0), vI (1 : Int32), vI l1, vI l2] M (fun v M9 => R61 sl sx d M0 P 8 [some (vR (some l0)), some (vI l1), some (vI l2), none, none] (pushO v [vR (some l0)]) M9) from ⟨h.1, ?_⟩)
  replace h := h.2
  refine callX_mono (callX_len (d := (d + 4)) rfl rfl rfl (c62 (d := d + 2) h)) ?_
  clear h
  rintro v9 M1 ⟨hl, r2, rfl, h⟩
  replace hM := lenT hM hl
  show R61 sl sx d M0 P 8 [some (vR (some l0)), some (vI l1), some (vI l2), none, none] [vI r2, vR (some l0)] M1
  refine RN_k (callX_det _) 1 _ _ _ _ (show kd M1 l0 9 ∧ R61 sl sx d M0 P 11 [some (vR (some l0)), some (vI l1), some (vI l2), none, none] [] (sI M1 l0 10 r2) from ⟨h.1, ?_⟩)
  replace h := h.2
  refine RN_k (callX_det _) 2 _ _ _ _ (show kd (sI M1 l0 10 r2) l0 9 ∧ R61 sl sx d M0 P 15 [some (vR (some l0)), some (vI l1), some (vI l2), none, none] [vI (mI (sI M1 l0 10 r2) l0 10)] (sI M1 l0 10 r2) from ⟨h.1, ?_⟩)
  replace h := h.2
  refine RN_k (callX_det _) 1 _ _ _ _ (show ((mI (sI M1 l0 10 r2) l0 10) = 0 → R61 sl sx d M0 P 20 [some (vR (some l0)), some (vI l1), some (vI l2), none, none] [] (sI M1 l0 10 r2)) ∧ (¬ ((mI (sI M1 l0 10 r2) l0 10) = 0) → R61 sl sx d M0 P 18 [some (vR (some l0)), some (vI l1), some (vI l2), none, none] [] (sI M1 l0 10 r2)) from ⟨fun hc => ?_, fun hc => ?_⟩)
  · replace h := h.1 hc
    refine RN_k (callX_det _) 4 _ _ _ _ (show R61 sl sx d M0 P 25 [some (vR (some l0)), some (vI l1), some (vI l2), some (vI (-1 : Int32)), some (vI (0 : Int32))] [] (sI M1 l0 10 r2) from ?_)
    obtain ⟨n2, h⟩ := h
    exact RN_weak (K := [some (vR (some l0)), some (vI l1), some (vI l2), some (vI (-1 : Int32)), some (vI (0 : Int32))]) (callX_det _) (show _ ∧ _ ∧ _ ∧ _ ∧ _ ∧ True from ⟨rfl, rfl, rfl, rfl, rfl, trivial⟩) (t61_25  n2 l0 l1 l2 (-1 : Int32) (0 : Int32) _ hM h)
  · replace h := h.2 hc
    exact RN_k (callX_det _) 2 _ _ _ _ (show rtW q61 M0 (PI P) (some (vI (-1 : Int32))) (sI M1 l0 10 r2) from ⟨⟨_, rfl⟩, hM.1, hM.2, _, rfl, h⟩)
theorem c61 {sl : Nat} {sx : Nat → Int32} {d : Nat} {l0 : Nat} {l1 : Int32} {l2 : Int32} {M : MM} {P : Int32 → MM → Prop} (h : w61 l0 l1 l2 M P) : callX TBg sl sx (d + 5) 61 [vR (some l0), vI l1, vI l2] M (PI P) :=
  cX (d := d + 4) q61 (false, tb61) rfl rfl rfl (t61_E l0 l1 l2 M lenR h)
-- java/lang/Integer.signum(I)I
abbrev q67 : MQ7 := (1, 0, 1, 12, 0, 0, 1)
abbrev R67 (sl : Nat) (sx : Nat → Int32) (d : Nat) (M0 : MM) (P : Int32 → MM → Prop) : Nat → LL → List VV → MM → Prop := RN 12 false (mS M0).length (mT M0) 0 0 sl sx (callX TBg sl sx (d + 0)) (rtW q67 M0 (PI P)) (as2 tb67)
def w67 (l0 : Int32) (M : MM) (P : Int32 → MM → Prop) : Prop := P ((l0 >>> ((31 : Int32) &&& 31)) ||| (((-l0).toUInt32 >>> ((31 : Int32).toUInt32 &&& Int32.toUInt32 31)).toInt32)) M
theorem t67_E {sl : Nat} {sx : Nat → Int32} {d : Nat} {M0 : MM} {P : Int32 → MM → Prop} (l0 : Int32) (M : MM) (hM : lenO M0 M) (h : w67  l0 M P) : R67 sl sx d M0 P 0 [some (vI l0)] [] M := by
  exact RN_k (callX_det _) 9 _ _ _ _ (show rtW q67 M0 (PI P) (some (vI ((l0 >>> ((31 : Int32) &&& 31)) ||| (((-l0).toUInt32 >>> ((31 : Int32).toUInt32 &&& Int32.toUInt32 31)).toInt32)))) M from ⟨⟨_, rfl⟩, hM.1, hM.2, _, rfl, h⟩)
theorem c67 {sl : Nat} {sx : Nat → Int32} {d : Nat} {l0 : Int32} {M : MM} {P : Int32 → MM → Prop} (h : w67 l0 M P) : callX TBg sl sx (d + 1) 67 [vI l0] M (PI P) :=
  cX (d := d + 0) q67 (false, tb67) rfl rfl rfl (t67_E l0 M lenR h)
-- TwoLeash$Track.sideOf(ILTwoLeash$Track;I)I
abbrev q66 : MQ7 := (4, 1, 6, 8, 0, 0, 1)
abbrev R66 (sl : Nat) (sx : Nat → Int32) (d : Nat) (M0 : MM) (P : Int32 → MM → Prop) : Nat → LL → List VV → MM → Prop := RN 8 false (mS M0).length (mT M0) 0 0 sl sx (callX TBg sl sx (d + 1)) (rtW q66 M0 (PI P)) (as2 tb66)
def w66 (l0 : Nat) (l1 : Int32) (l2 : Option Nat) (l3 : Int32) (M : MM) (P : Int32 → MM → Prop) : Prop := kd M l0 8 ∧ (∃ a1, mR M l0 2 = some a1 ∧ (inb M a1 11 (l1 + (1 : Int32)) ∧ (kd M l0 8 ∧ (∃ a2, mR M l0 2 = some a2 ∧ (inb M a2 11 l1 ∧ (kd M l0 8 ∧ (∃ a3, mR M l0 3 = some a3 ∧ (inb M a3 11 (l1 + (1 : Int32)) ∧ (kd M l0 8 ∧ (∃ a4, mR M l0 3 = some a4 ∧ (inb M a4 11 l1 ∧ (∃ a5, l2 = some a5 ∧ (kd M a5 8 ∧ (∃ a6, mR M a5 3 = some a6 ∧ (inb M a6 11 l3 ∧ (kd M l0 8 ∧ (∃ a7, mR M l0 3 = some a7 ∧ (inb M a7 11 l1 ∧ (kd M a5 8 ∧ (∃ a8, mR M a5 2 = some a8 ∧ (inb M a8 11 l3 ∧ (kd M l0 8 ∧ (∃ a9, mR M l0 2 = some a9 ∧ (inb M a9 11 l1 ∧ (w67 ((((mI M a1 (l1 + (1 : Int32)).toNatClampNeg) - (mI M a2 l1.toNatClampNeg)) * ((mI M a6 l3.toNatClampNeg) - (mI M a7 l1.toNatClampNeg))) - (((mI M a3 (l1 + (1 : Int32)).toNatClampNeg) - (mI M a4 l1.toNatClampNeg)) * ((mI M a8 l3.toNatClampNeg) - (mI M a9 l1.toNatClampNeg)))) M (fun r11 M10 => P r11 M10))))))))))))))))))))))))))
theorem t66_E {sl : Nat} {sx : Nat → Int32} {d : Nat} {M0 : MM} {P : Int32 → MM → Prop} (l0 : Nat) (l1 : Int32) (l2 : Option Nat) (l3 : Int32) (M : MM) (hM : lenO M0 M) (h : w66  l0 l1 l2 l3 M P) : R66 sl sx d M0 P 0 [some (vR (some l0)), some (vI l1), some (vR l2), some (vI l3), none, none] [] M := by
  refine RN_k (callX_det _) 2 _ _ _ _ (show kd M l0 8 ∧ R66 sl sx d M0 P 4 [some (vR (some l0)), some (vI l1), some (vR l2), some (vI l3), none, none] [vR (mR M l0 2)] M from ⟨h.1, ?_⟩)
  replace h := h.2
  obtain ⟨a1, he, h⟩ := h
  refine RN_k (callX_det _) 3 _ _ _ _ (show R66 sl sx d M0 P 7 [some (vR (some l0)), some (vI l1), some (vR l2), some (vI l3), none, none] [vI (l1 + (1 : Int32)), vR (mR M l0 2)] M from ?_)
  rw [he]
  refine RN_k (callX_det _) 1 _ _ _ _ (show inb M a1 11 (l1 + (1 : Int32)) ∧ R66 sl sx d M0 P 8 [some (vR (some l0)), some (vI l1), some (vR l2), some (vI l3), none, none] [vI (mI M a1 (l1 + (1 : Int32)).toNatClampNeg)] M from ⟨h.1, ?_⟩)
  replace h := h.2
  refine RN_k (callX_det _) 2 _ _ _ _ (show kd M l0 8 ∧ R66 sl sx d M0 P 12 [some (vR (some l0)), some (vI l1), some (vR l2), some (vI l3), none, none] [vR (mR M l0 2), vI (mI M a1 (l1 + (1 : Int32)).toNatClampNeg)] M from ⟨h.1, ?_⟩)
  replace h := h.2
  obtain ⟨a2, he, h⟩ := h
  refine RN_k (callX_det _) 1 _ _ _ _ (show R66 sl sx d M0 P 13 [some (vR (some l0)), some (vI l1), some (vR l2), some (vI l3), none, none] [vI l1, vR (mR M l0 2), vI (mI M a1 (l1 + (1 : Int32)).toNatClampNeg)] M from ?_)
  rw [he]
  refine RN_k (callX_det _) 1 _ _ _ _ (show inb M a2 11 l1 ∧ R66 sl sx d M0 P 14 [some (vR (some l0)), some (vI l1), some (vR l2), some (vI l3), none, none] [vI (mI M a2 l1.toNatClampNeg), vI (mI M a1 (l1 + (1 : Int32)).toNatClampNeg)] M from ⟨h.1, ?_⟩)
  replace h := h.2
  refine RN_k (callX_det _) 4 _ _ _ _ (show kd M l0 8 ∧ R66 sl sx d M0 P 21 [some (vR (some l0)), some (vI l1), some (vR l2), some (vI l3), some (vI ((mI M a1 (l1 + (1 : Int32)).toNatClampNeg) - (mI M a2 l1.toNatClampNeg))), none] [vR (mR M l0 3)] M from ⟨h.1, ?_⟩)
  replace h := h.2
  obtain ⟨a3, he, h⟩ := h
  refine RN_k (callX_det _) 3 _ _ _ _ (show R66 sl sx d M0 P 24 [some (vR (some l0)), some (vI l1), some (vR l2), some (vI l3), some (vI ((mI M a1 (l1 + (1 : Int32)).toNatClampNeg) - (mI M a2 l1.toNatClampNeg))), none] [vI (l1 + (1 : Int32)), vR (mR M l0 3)] M from ?_)
  rw [he]
  refine RN_k (callX_det _) 1 _ _ _ _ (show inb M a3 11 (l1 + (1 : Int32)) ∧ R66 sl sx d M0 P 25 [some (vR (some l0)), some (vI l1), some (vR l2), some (vI l3), some (vI ((mI M a1 (l1 + (1 : Int32)).toNatClampNeg) - (mI M a2 l1.toNatClampNeg))), none] [vI (mI M a3 (l1 + (1 : Int32)).toNatClampNeg)] M from ⟨h.1, ?_⟩)
  replace h := h.2
  refine RN_k (callX_det _) 2 _ _ _ _ (show kd M l0 8 ∧ R66 sl sx d M0 P 29 [some (vR (some l0)), some (vI l1), some (vR l2), some (vI l3), some (vI ((mI M a1 (l1 + (1 : Int32)).toNatClampNeg) - (mI M a2 l1.toNatClampNeg))), none] [vR (mR M l0 3), vI (mI M a3 (l1 + (1 : Int32)).toNatClampNeg)] M from ⟨h.1, ?_⟩)
  replace h := h.2
  obtain ⟨a4, he, h⟩ := h
  refine RN_k (callX_det _) 1 _ _ _ _ (show R66 sl sx d M0 P 30 [some (vR (some l0)), some (vI l1), some (vR l2), some (vI l3), some (vI ((mI M a1 (l1 + (1 : Int32)).toNatClampNeg) - (mI M a2 l1.toNatClampNeg))), none] [vI l1, vR (mR M l0 3), vI (mI M a3 (l1 + (1 : Int32)).toNatClampNeg)] M from ?_)
  rw [he]
  refine RN_k (callX_det _) 1 _ _ _ _ (show inb M a4 11 l1 ∧ R66 sl sx d M0 P 31 [some (vR (some l0)), some (vI l1), some (vR l2), some (vI l3), some (vI ((mI M a1 (l1 + (1 : Int32)).toNatClampNeg) - (mI M a2 l1.toNatClampNeg))), none] [vI (mI M a4 l1.toNatClampNeg), vI (mI M a3 (l1 + (1 : Int32)).toNatClampNeg)] M from ⟨h.1, ?_⟩)
  replace h := h.2
  obtain ⟨a5, he, h⟩ := h
  refine RN_k (callX_det _) 4 _ _ _ _ (show R66 sl sx d M0 P 37 [some (vR (some l0)), some (vI l1), some (vR l2), some (vI l3), some (vI ((mI M a1 (l1 + (1 : Int32)).toNatClampNeg) - (mI M a2 l1.toNatClampNeg))), some (vI ((mI M a3 (l1 + (1 : Int32)).toNatClampNeg) - (mI M a4 l1.toNatClampNeg)))] [vR l2, vI ((mI M a1 (l1 + (1 : Int32)).toNatClampNeg) - (mI M a2 l1.toNatClampNeg))] M from ?_)
  subst he
  refine RN_k (callX_det _) 1 _ _ _ _ (show kd M a5 8 ∧ R66 sl sx d M0 P 40 [some (vR (some l0)), some (vI l1), some (vR (some a5)), some (vI l3), some (vI ((mI M a1 (l1 + (1 : Int32)).toNatClampNeg) - (mI M a2 l1.toNatClampNeg))), some (vI ((mI M a3 (l1 + (1 : Int32)).toNatClampNeg) - (mI M a4 l1.toNatClampNeg)))] [vR (mR M a5 3), vI ((mI M a1 (l1 + (1 : Int32)).toNatClampNeg) - (mI M a2 l1.toNatClampNeg))] M from ⟨h.1, ?_⟩)
  replace h := h.2
  obtain ⟨a6, he, h⟩ := h
  refine RN_k (callX_det _) 1 _ _ _ _ (show R66 sl sx d M0 P 41 [some (vR (some l0)), some (vI l1), some (vR (some a5)), some (vI l3), some (vI ((mI M a1 (l1 + (1 : Int32)).toNatClampNeg) - (mI M a2 l1.toNatClampNeg))), some (vI ((mI M a3 (l1 + (1 : Int32)).toNatClampNeg) - (mI M a4 l1.toNatClampNeg)))] [vI l3, vR (mR M a5 3), vI ((mI M a1 (l1 + (1 : Int32)).toNatClampNeg) - (mI M a2 l1.toNatClampNeg))] M from ?_)
  rw [he]
  refine RN_k (callX_det _) 1 _ _ _ _ (show inb M a6 11 l3 ∧ R66 sl sx d M0 P 42 [some (vR (some l0)), some (vI l1), some (vR (some a5)), some (vI l3), some (vI ((mI M a1 (l1 + (1 : Int32)).toNatClampNeg) - (mI M a2 l1.toNatClampNeg))), some (vI ((mI M a3 (l1 + (1 : Int32)).toNatClampNeg) - (mI M a4 l1.toNatClampNeg)))] [vI (mI M a6 l3.toNatClampNeg), vI ((mI M a1 (l1 + (1 : Int32)).toNatClampNeg) - (mI M a2 l1.toNatClampNeg))] M from ⟨h.1, ?_⟩)
  replace h := h.2
  refine RN_k (callX_det _) 2 _ _ _ _ (show kd M l0 8 ∧ R66 sl sx d M0 P 46 [some (vR (some l0)), some (vI l1), some (vR (some a5)), some (vI l3), some (vI ((mI M a1 (l1 + (1 : Int32)).toNatClampNeg) - (mI M a2 l1.toNatClampNeg))), some (vI ((mI M a3 (l1 + (1 : Int32)).toNatClampNeg) - (mI M a4 l1.toNatClampNeg)))] [vR (mR M l0 3), vI (mI M a6 l3.toNatClampNeg), vI ((mI M a1 (l1 + (1 : Int32)).toNatClampNeg) - (mI M a2 l1.toNatClampNeg))] M from ⟨h.1, ?_⟩)
  replace h := h.2
  obtain ⟨a7, he, h⟩ := h
  refine RN_k (callX_det _) 1 _ _ _ _ (show R66 sl sx d M0 P 47 [some (vR (some l0)), some (vI l1), some (vR (some a5)), some (vI l3), some (vI ((mI M a1 (l1 + (1 : Int32)).toNatClampNeg) - (mI M a2 l1.toNatClampNeg))), some (vI ((mI M a3 (l1 + (1 : Int32)).toNatClampNeg) - (mI M a4 l1.toNatClampNeg)))] [vI l1, vR (mR M l0 3), vI (mI M a6 l3.toNatClampNeg), vI ((mI M a1 (l1 + (1 : Int32)).toNatClampNeg) - (mI M a2 l1.toNatClampNeg))] M from ?_)
  rw [he]
  refine RN_k (callX_det _) 1 _ _ _ _ (show inb M a7 11 l1 ∧ R66 sl sx d M0 P 48 [some (vR (some l0)), some (vI l1), some (vR (some a5)), some (vI l3), some (vI ((mI M a1 (l1 + (1 : Int32)).toNatClampNeg) - (mI M a2 l1.toNatClampNeg))), some (vI ((mI M a3 (l1 + (1 : Int32)).toNatClampNeg) - (mI M a4 l1.toNatClampNeg)))] [vI (mI M a7 l1.toNatClampNeg), vI (mI M a6 l3.toNatClampNeg), vI ((mI M a1 (l1 + (1 : Int32)).toNatClampNeg) - (mI M a2 l1.toNatClampNeg))] M from ⟨h.1, ?_⟩)
  replace h := h.2
  refine RN_k (callX_det _) 5 _ _ _ _ (show kd M a5 8 ∧ R66 sl sx d M0 P 56 [some (vR (some l0)), some (vI l1), some (vR (some a5)), some (vI l3), some (vI ((mI M a1 (l1 + (1 : Int32)).toNatClampNeg) - (mI M a2 l1.toNatClampNeg))), some (vI ((mI M a3 (l1 + (1 : Int32)).toNatClampNeg) - (mI M a4 l1.toNatClampNeg)))] [vR (mR M a5 2), vI ((mI M a3 (l1 + (1 : Int32)).toNatClampNeg) - (mI M a4 l1.toNatClampNeg)), vI (((mI M a1 (l1 + (1 : Int32)).toNatClampNeg) - (mI M a2 l1.toNatClampNeg)) * ((mI M a6 l3.toNatClampNeg) - (mI M a7 l1.toNatClampNeg)))] M from ⟨h.1, ?_⟩)
  replace h := h.2
  obtain ⟨a8, he, h⟩ := h
  refine RN_k (callX_det _) 1 _ _ _ _ (show R66 sl sx d M0 P 57 [some (vR (some l0)), some (vI l1), some (vR (some a5)), some (vI l3), some (vI ((mI M a1 (l1 + (1 : Int32)).toNatClampNeg) - (mI M a2 l1.toNatClampNeg))), some (vI ((mI M a3 (l1 + (1 : Int32)).toNatClampNeg) - (mI M a4 l1.toNatClampNeg)))] [vI l3, vR (mR M a5 2), vI ((mI M a3 (l1 + (1 : Int32)).toNatClampNeg) - (mI M a4 l1.toNatClampNeg)), vI (((mI M a1 (l1 + (1 : Int32)).toNatClampNeg) - (mI M a2 l1.toNatClampNeg)) * ((mI M a6 l3.toNatClampNeg) - (mI M a7 l1.toNatClampNeg)))] M from ?_)
  rw [he]
  refine RN_k (callX_det _) 1 _ _ _ _ (show inb M a8 11 l3 ∧ R66 sl sx d M0 P 58 [some (vR (some l0)), some (vI l1), some (vR (some a5)), some (vI l3), some (vI ((mI M a1 (l1 + (1 : Int32)).toNatClampNeg) - (mI M a2 l1.toNatClampNeg))), some (vI ((mI M a3 (l1 + (1 : Int32)).toNatClampNeg) - (mI M a4 l1.toNatClampNeg)))] [vI (mI M a8 l3.toNatClampNeg), vI ((mI M a3 (l1 + (1 : Int32)).toNatClampNeg) - (mI M a4 l1.toNatClampNeg)), vI (((mI M a1 (l1 + (1 : Int32)).toNatClampNeg) - (mI M a2 l1.toNatClampNeg)) * ((mI M a6 l3.toNatClampNeg) - (mI M a7 l1.toNatClampNeg)))] M from ⟨h.1, ?_⟩)
  replace h := h.2
  refine RN_k (callX_det _) 2 _ _ _ _ (show kd M l0 8 ∧ R66 sl sx d M0 P 62 [some (vR (some l0)), some (vI l1), some (vR (some a5)), some (vI l3), some (vI ((mI M a1 (l1 + (1 : Int32)).toNatClampNeg) - (mI M a2 l1.toNatClampNeg))), some (vI ((mI M a3 (l1 + (1 : Int32)).toNatClampNeg) - (mI M a4 l1.toNatClampNeg)))] [vR (mR M l0 2), vI (mI M a8 l3.toNatClampNeg), vI ((mI M a3 (l1 + (1 : Int32)).toNatClampNeg) - (mI M a4 l1.toNatClampNeg)), vI (((mI M a1 (l1 + (1 : Int32)).toNatClampNeg) - (mI M a2 l1.toNatClampNeg)) * ((mI M a6 l3.toNatClampNeg) - (mI M a7 l1.toNatClampNeg)))] M from ⟨h.1, ?_⟩)
  replace h := h.2
  obtain ⟨a9, he, h⟩ := h
  refine RN_k (callX_det _) 1 _ _ _ _ (show R66 sl sx d M0 P 63 [some (vR (some l0)), some (vI l1), some (vR (some a5)), some (vI l3), some (vI ((mI M a1 (l1 + (1 : Int32)).toNatClampNeg) - (mI M a2 l1.toNatClampNeg))), some (vI ((mI M a3 (l1 + (1 : Int32)).toNatClampNeg) - (mI M a4 l1.toNatClampNeg)))] [vI l1, vR (mR M l0 2), vI (mI M a8 l3.toNatClampNeg), vI ((mI M a3 (l1 + (1 : Int32)).toNatClampNeg) - (mI M a4 l1.toNatClampNeg)), vI (((mI M a1 (l1 + (1 : Int32)).toNatClampNeg) - (mI M a2 l1.toNatClampNeg)) * ((mI M a6 l3.toNatClampNeg) - (mI M a7 l1.toNatClampNeg)))] M from ?_)
  rw [he]
  refine RN_k (callX_det _) 1 _ _ _ _ (show inb M a9 11 l1 ∧ R66 sl sx d M0 P 64 [some (vR (some l0)), some (vI l1), some (vR (some a5)), some (vI l3), some (vI ((mI M a1 (l1 + (1 : Int32)).toNatClampNeg) - (mI M a2 l1.toNatClampNeg))), some (vI ((mI M a3 (l1 + (1 : Int32)).toNatClampNeg) - (mI M a4 l1.toNatClampNeg)))] [vI (mI M a9 l1.toNatClampNeg), vI (mI M a8 l3.toNatClampNeg), vI ((mI M a3 (l1 + (1 : Int32)).toNatClampNeg) - (mI M a4 l1.toNatClampNeg)), vI (((mI M a1 (l1 + (1 : Int32)).toNatClampNeg) - (mI M a2 l1.toNatClampNeg)) * ((mI M a6 l3.toNatClampNeg) - (mI M a7 l1.toNatClampNeg)))] M from ⟨h.1, ?_⟩)
  replace h := h.2
  refine RN_k (callX_det _) 4 _ _ _ _ (show callX TBg sl sx (d + 1) 67 [vI ((((mI M a1 (l1 + (1 : Int32)).toNatClampNeg) - (mI M a2 l1.toNatClampNeg)) * ((mI M a6 l3.toNatClampNeg) - (mI M a7 l1.toNatClampNeg))) - (((mI M a3 (l1 + (1 : Int32)).toNatClampNeg) - (mI M a4 l1.toNatClampNeg)) * ((mI M a8 l3.toNatClampNeg) - (mI M a9 l1.toNatClampNeg))))] M (fun v M9 => R66 sl sx d M0 P 70 [some (vR (some l0)), some (vI l1), some (vR (some a5)), some (vI l3), some (vI ((mI M a1 (l1 + (1 : Int32)).toNatClampNeg) - (mI M a2 l1.toNatClampNeg))), some (vI ((mI M a3 (l1 + (1 : Int32)).toNatClampNeg) - (mI M a4 l1.toNatClampNeg)))] (pushO v []) M9) from ?_)
  refine callX_mono (callX_len (d := (d + 1)) rfl rfl rfl (c67 (d := d) h)) ?_
  clear h
  rintro v9 M10 ⟨hl, r11, rfl, h⟩
  replace hM := lenT hM hl
  show R66 sl sx d M0 P 70 [some (vR (some l0)), some (vI l1), some (vR (some a5)), some (vI l3), some (vI ((mI M a1 (l1 + (1 : Int32)).toNatClampNeg) - (mI M a2 l1.toNatClampNeg))), some (vI ((mI M a3 (l1 + (1 : Int32)).toNatClampNeg) - (mI M a4 l1.toNatClampNeg)))] [vI r11] M10
  exact RN_k (callX_det _) 1 _ _ _ _ (show rtW q66 M0 (PI P) (some (vI r11)) M10 from ⟨⟨_, rfl⟩, hM.1, hM.2, _, rfl, h⟩)
theorem c66 {sl : Nat} {sx : Nat → Int32} {d : Nat} {l0 : Nat} {l1 : Int32} {l2 : Option Nat} {l3 : Int32} {M : MM} {P : Int32 → MM → Prop} (h : w66 l0 l1 l2 l3 M P) : callX TBg sl sx (d + 2) 66 [vR (some l0), vI l1, vR l2, vI l3] M (PI P) :=
  cX (d := d + 1) q66 (false, tb66) rfl rfl rfl (t66_E l0 l1 l2 l3 M lenR h)
-- TwoLeash$Track.crosses(ILTwoLeash$Track;I)Z
abbrev q65 : MQ7 := (4, 1, 4, 8, 0, 0, 4)
abbrev R65 (sl : Nat) (sx : Nat → Int32) (d : Nat) (M0 : MM) (P : Int32 → MM → Prop) : Nat → LL → List VV → MM → Prop := RN 8 false (mS M0).length (mT M0) 0 0 sl sx (callX TBg sl sx (d + 2)) (rtW q65 M0 (PI P)) (as2 tb65)
def w65_45 (s0 : Int32) (M : MM) (P : Int32 → MM → Prop) : Prop := (s0 = 0 ∨ s0 = 1) ∧ P s0 M
theorem t65_45 {sl : Nat} {sx : Nat → Int32} {d : Nat} {M0 : MM} {P : Int32 → MM → Prop} (s0 : Int32) (M : MM) (hM : lenO M0 M) (h : w65_45  s0 M P) : R65 sl sx d M0 P 45 [none, none, none, none] [vI s0] M := by
  exact RN_k (callX_det _) 1 _ _ _ _ (show rtW q65 M0 (PI P) (some (vI s0)) M from ⟨⟨_, rfl, h.1⟩, hM.1, hM.2, _, rfl, h.2⟩)
def w65_44 (M : MM) (P : Int32 → MM → Prop) : Prop := w65_45  (0 : Int32) M P
theorem t65_44 {sl : Nat} {sx : Nat → Int32} {d : Nat} {M0 : MM} {P : Int32 → MM → Prop}  (M : MM) (hM : lenO M0 M) (h : w65_44   M P) : R65 sl sx d M0 P 44 [none, none, none, none] [] M := by
  refine RN_k (callX_det _) 1 _ _ _ _ (show R65 sl sx d M0 P 45 [none, none, none, none] [vI (0 : Int32)] M from ?_)
  exact RN_weak (K := [none, none, none, none]) (callX_det _) (show True from trivial) (t65_45  (0 : Int32) _ hM h)
def w65 (l0 : Nat) (l1 : Int32) (l2 : Option Nat) (l3 : Int32) (M : MM) (P : Int32 → MM → Prop) : Prop := kd M l0 8 ∧ w66 l0 l1 l2 l3 M (fun r2 M1 => kd M1 l0 8 ∧ w66 l0 l1 l2 (l3 + (1 : Int32)) M1 (fun r4 M3 => (0 ≤ (r2 * r4) → (w65_44  M3 P)) ∧ (¬ (0 ≤ (r2 * r4)) → (∃ a5, l2 = some a5 ∧ (kd M3 a5 8 ∧ w66 a5 l3 (some l0) l1 M3 (fun r7 M6 => kd M6 a5 8 ∧ w66 a5 l3 (some l0) (l1 + (1 : Int32)) M6 (fun r9 M8 => (0 ≤ (r7 * r9) → (w65_44  M8 P)) ∧ (¬ (0 ≤ (r7 * r9)) → (w65_45  (1 : Int32) M8 P)))))))))
theorem t65_E {sl : Nat} {sx : Nat → Int32} {d : Nat} {M0 : MM} {P : Int32 → MM → Prop} (l0 : Nat) (l1 : Int32) (l2 : Option Nat) (l3 : Int32) (M : MM) (hM : lenO M0 M) (h : w65  l0 l1 l2 l3 M P) : R65 sl sx d M0 P 0 [some (vR (some l0)), some (vI l1), some (vR l2), some (vI l3)] [] M := by
  refine RN_k (callX_det _) 5 _ _ _ _ (show kd M l0 8 ∧ callX TBg sl sx (d + 2) 66 [vR (some l0), vI l1, vR l2, vI l3] M (fun v M9 => R65 sl sx d M0 P 7 [some (vR (some l0)), some (vI l1), some (vR l2), some (vI l3)] (pushO v []) M9) from ⟨h.1, ?_⟩)
  replace h := h.2
  refine callX_mono (callX_len (d := (d + 2)) rfl rfl rfl (c66 (d := d) h)) ?_
  clear h
  rintro v9 M1 ⟨hl, r2, rfl, h⟩
  replace hM := lenT hM hl
  show R65 sl sx d M0 P 7 [some (vR (some l0)), some (vI l1), some (vR l2), some (vI l3)] [vI r2] M1
  refine RN_k (callX_det _) 7 _ _ _ _ (show kd M1 l0 8 ∧ callX TBg sl sx (d + 2) 66 [vR (some l0), vI l1, vR l2, vI (l3 + (1 : Int32))] M1 (fun v M9 => R65 sl sx d M0 P 16 [some (vR (some l0)), some (vI l1), some (vR l2), some (vI l3)] (pushO v [vI r2]) M9) from ⟨h.1, ?_⟩)
  replace h := h.2
  refine callX_mono (callX_len (d := (d + 2)) rfl rfl rfl (c66 (d := d) h)) ?_
  clear h
  rintro v9 M3 ⟨hl, r4, rfl, h⟩
  replace hM := lenT hM hl
  show R65 sl sx d M0 P 16 [some (vR (some l0)), some (vI l1), some (vR l2), some (vI l3)] [vI r4, vI r2] M3
  refine RN_k (callX_det _) 2 _ _ _ _ (show (0 ≤ (r2 * r4) → R65 sl sx d M0 P 44 [some (vR (some l0)), some (vI l1), some (vR l2), some (vI l3)] [] M3) ∧ (¬ (0 ≤ (r2 * r4)) → R65 sl sx d M0 P 20 [some (vR (some l0)), some (vI l1), some (vR l2), some (vI l3)] [] M3) from ⟨fun hc => ?_, fun hc => ?_⟩)
  · replace h := h.1 hc
    exact RN_weak (K := [none, none, none, none]) (callX_det _) (show True from trivial) (t65_44   _ hM h)
  · replace h := h.2 hc
    obtain ⟨a5, he, h⟩ := h
    refine RN_k (callX_det _) 4 _ _ _ _ (show R65 sl sx d M0 P 24 [some (vR (some l0)), some (vI l1), some (vR l2), some (vI l3)] [vI l1, vR (some l0), vI l3, vR l2] M3 from ?_)
    subst he
    refine RN_k (callX_det _) 1 _ _ _ _ (show kd M3 a5 8 ∧ callX TBg sl sx (d + 2) 66 [vR (some a5), vI l3, vR (some l0), vI l1] M3 (fun v M9 => R65 sl sx d M0 P 27 [some (vR (some l0)), some (vI l1), some (vR (some a5)), some (vI l3)] (pushO v []) M9) from ⟨h.1, ?_⟩)
    replace h := h.2
    refine callX_mono (callX_len (d := (d + 2)) rfl rfl rfl (c66 (d := d) h)) ?_
    clear h
    rintro v9 M6 ⟨hl, r7, rfl, h⟩
    replace hM := lenT hM hl
    show R65 sl sx d M0 P 27 [some (vR (some l0)), some (vI l1), some (vR (some a5)), some (vI l3)] [vI r7] M6
    refine RN_k (callX_det _) 7 _ _ _ _ (show kd M6 a5 8 ∧ callX TBg sl sx (d + 2) 66 [vR (some a5), vI l3, vR (some l0), vI (l1 + (1 : Int32))] M6 (fun v M9 => R65 sl sx d M0 P 36 [some (vR (some l0)), some (vI l1), some (vR (some a5)), some (vI l3)] (pushO v [vI r7]) M9) from ⟨h.1, ?_⟩)
    replace h := h.2
    refine callX_mono (callX_len (d := (d + 2)) rfl rfl rfl (c66 (d := d) h)) ?_
    clear h
    rintro v9 M8 ⟨hl, r9, rfl, h⟩
    replace hM := lenT hM hl
    show R65 sl sx d M0 P 36 [some (vR (some l0)), some (vI l1), some (vR (some a5)), some (vI l3)] [vI r9, vI r7] M8
    refine RN_k (callX_det _) 2 _ _ _ _ (show (0 ≤ (r7 * r9) → R65 sl sx d M0 P 44 [some (vR (some l0)), some (vI l1), some (vR (some a5)), some (vI l3)] [] M8) ∧ (¬ (0 ≤ (r7 * r9)) → R65 sl sx d M0 P 40 [some (vR (some l0)), some (vI l1), some (vR (some a5)), some (vI l3)] [] M8) from ⟨fun hc => ?_, fun hc => ?_⟩)
    · replace h := h.1 hc
      exact RN_weak (K := [none, none, none, none]) (callX_det _) (show True from trivial) (t65_44   _ hM h)
    · replace h := h.2 hc
      refine RN_k (callX_det _) 2 _ _ _ _ (show R65 sl sx d M0 P 45 [some (vR (some l0)), some (vI l1), some (vR (some a5)), some (vI l3)] [vI (1 : Int32)] M8 from ?_)
      exact RN_weak (K := [none, none, none, none]) (callX_det _) (show True from trivial) (t65_45  (1 : Int32) _ hM h)
theorem c65 {sl : Nat} {sx : Nat → Int32} {d : Nat} {l0 : Nat} {l1 : Int32} {l2 : Option Nat} {l3 : Int32} {M : MM} {P : Int32 → MM → Prop} (h : w65 l0 l1 l2 l3 M P) : callX TBg sl sx (d + 3) 65 [vR (some l0), vI l1, vR l2, vI l3] M (PI P) :=
  cX (d := d + 2) q65 (false, tb65) rfl rfl rfl (t65_E l0 l1 l2 l3 M lenR h)
-- java/lang/Math.min(II)I
abbrev q70 : MQ7 := (2, 0, 2, 14, 0, 0, 1)
abbrev R70 (sl : Nat) (sx : Nat → Int32) (d : Nat) (M0 : MM) (P : Int32 → MM → Prop) : Nat → LL → List VV → MM → Prop := RN 14 false (mS M0).length (mT M0) 0 0 sl sx (callX TBg sl sx (d + 0)) (rtW q70 M0 (PI P)) (as2 tb70)
def w70_10 (s0 : Int32) (M : MM) (P : Int32 → MM → Prop) : Prop := P s0 M
theorem t70_10 {sl : Nat} {sx : Nat → Int32} {d : Nat} {M0 : MM} {P : Int32 → MM → Prop} (s0 : Int32) (M : MM) (hM : lenO M0 M) (h : w70_10  s0 M P) : R70 sl sx d M0 P 10 [none, none] [vI s0] M := by
  exact RN_k (callX_det _) 1 _ _ _ _ (show rtW q70 M0 (PI P) (some (vI s0)) M from ⟨⟨_, rfl⟩, hM.1, hM.2, _, rfl, h⟩)
def w70 (l0 : Int32) (l1 : Int32) (M : MM) (P : Int32 → MM → Prop) : Prop := (l1 < l0 → (w70_10  l1 M P)) ∧ (¬ (l1 < l0) → (w70_10  l0 M P))
theorem t70_E {sl : Nat} {sx : Nat → Int32} {d : Nat} {M0 : MM} {P : Int32 → MM → Prop} (l0 : Int32) (l1 : Int32) (M : MM) (hM : lenO M0 M) (h : w70  l0 l1 M P) : R70 sl sx d M0 P 0 [some (vI l0), some (vI l1)] [] M := by
  refine RN_k (callX_det _) 3 _ _ _ _ (show (l1 < l0 → R70 sl sx d M0 P 9 [some (vI l0), some (vI l1)] [] M) ∧ (¬ (l1 < l0) → R70 sl sx d M0 P 5 [some (vI l0), some (vI l1)] [] M) from ⟨fun hc => ?_, fun hc => ?_⟩)
  · replace h := h.1 hc
    refine RN_k (callX_det _) 1 _ _ _ _ (show R70 sl sx d M0 P 10 [some (vI l0), some (vI l1)] [vI l1] M from ?_)
    exact RN_weak (K := [none, none]) (callX_det _) (show True from trivial) (t70_10  l1 _ hM h)
  · replace h := h.2 hc
    refine RN_k (callX_det _) 2 _ _ _ _ (show R70 sl sx d M0 P 10 [some (vI l0), some (vI l1)] [vI l0] M from ?_)
    exact RN_weak (K := [none, none]) (callX_det _) (show True from trivial) (t70_10  l0 _ hM h)
theorem c70 {sl : Nat} {sx : Nat → Int32} {d : Nat} {l0 : Int32} {l1 : Int32} {M : MM} {P : Int32 → MM → Prop} (h : w70 l0 l1 M P) : callX TBg sl sx (d + 1) 70 [vI l0, vI l1] M (PI P) :=
  cX (d := d + 0) q70 (false, tb70) rfl rfl rfl (t70_E l0 l1 M lenR h)
-- TwoLeash$Track.isOn(ILTwoLeash$Track;I)Z
abbrev q69 : MQ7 := (4, 1, 6, 8, 0, 0, 4)
abbrev R69 (sl : Nat) (sx : Nat → Int32) (d : Nat) (M0 : MM) (P : Int32 → MM → Prop) : Nat → LL → List VV → MM → Prop := RN 8 false (mS M0).length (mT M0) 0 0 sl sx (callX TBg sl sx (d + 2)) (rtW q69 M0 (PI P)) (as2 tb69)
def w69_119 (s0 : Int32) (M : MM) (P : Int32 → MM → Prop) : Prop := (s0 = 0 ∨ s0 = 1) ∧ P s0 M
theorem t69_119 {sl : Nat} {sx : Nat → Int32} {d : Nat} {M0 : MM} {P : Int32 → MM → Prop} (s0 : Int32) (M : MM) (hM : lenO M0 M) (h : w69_119  s0 M P) : R69 sl sx d M0 P 119 [none, none, none, none, none, none] [vI s0] M := by
  exact RN_k (callX_det _) 1 _ _ _ _ (show rtW q69 M0 (PI P) (some (vI s0)) M from ⟨⟨_, rfl, h.1⟩, hM.1, hM.2, _, rfl, h.2⟩)
def w69_118 (M : MM) (P : Int32 → MM → Prop) : Prop := w69_119  (0 : Int32) M P
theorem t69_118 {sl : Nat} {sx : Nat → Int32} {d : Nat} {M0 : MM} {P : Int32 → MM → Prop}  (M : MM) (hM : lenO M0 M) (h : w69_118   M P) : R69 sl sx d M0 P 118 [none, none, none, none, none, none] [] M := by
  refine RN_k (callX_det _) 1 _ _ _ _ (show R69 sl sx d M0 P 119 [none, none, none, none, none, none] [vI (0 : Int32)] M from ?_)
  exact RN_weak (K := [none, none, none, none, none, none]) (callX_det _) (show True from trivial) (t69_119  (0 : Int32) _ hM h)
def w69 (l0 : Nat) (l1 : Int32) (l2 : Option Nat) (l3 : Int32) (M : MM) (P : Int32 → MM → Prop) : Prop := ∃ a1, l2 = some a1 ∧ (kd M a1 8 ∧ (∃ a2, mR M a1 2 = some a2 ∧ (inb M a2 11 l3 ∧ (kd M a1 8 ∧ (∃ a3, mR M a1 3 = some a3 ∧ (inb M a3 11 l3 ∧ (kd M l0 8 ∧ w66 l0 l1 (some a1) l3 M (fun r5 M4 => (r5 ≠ 0 → (w69_118  M4 P)) ∧ (¬ (r5 ≠ 0) → (kd M4 l0 8 ∧ (∃ a6, mR M4 l0 2 = some a6 ∧ (inb M4 a6 11 l1 ∧ (kd M4 l0 8 ∧ (∃ a7, mR M4 l0 2 = some a7 ∧ (inb M4 a7 11 (l1 + (1 : Int32)) ∧ (w70 (mI M4 a6 l1.toNatClampNeg) (mI M4 a7 (l1 + (1 : Int32)).toNatClampNeg) M4 (fun r9 M8 => ((mI M a2 l3.toNatClampNeg) < r9 → (w69_118  M8 P)) ∧ (¬ ((mI M a2 l3.toNatClampNeg) < r9) → (kd M8 l0 8 ∧ (∃ a10, mR M8 l0 2 = some a10 ∧ (inb M8 a10 11 l1 ∧ (kd M8 l0 8 ∧ (∃ a11, mR M8 l0 2 = some a11 ∧ (inb M8 a11 11 (l1 + (1 : Int32)) ∧ (w33 (mI M8 a10 l1.toNatClampNeg) (mI M8 a11 (l1 + (1 : Int32)).toNatClampNeg) M8 (fun r13 M12 => (r13 < (mI M a2 l3.toNatClampNeg) → (w69_118  M12 P)) ∧ (¬ (r13 < (mI M a2 l3.toNatClampNeg)) → (kd M12 l0 8 ∧ (∃ a14, mR M12 l0 3 = some a14 ∧ (inb M12 a14 11 l1 ∧ (kd M12 l0 8 ∧ (∃ a15, mR M12 l0 3 = some a15 ∧ (inb M12 a15 11 (l1 + (1 : Int32)) ∧ (w70 (mI M12 a14 l1.toNatClampNeg) (mI M12 a15 (l1 + (1 : Int32)).toNatClampNeg) M12 (fun r17 M16 => ((mI M a3 l3.toNatClampNeg) < r17 → (w69_118  M16 P)) ∧ (¬ ((mI M a3 l3.toNatClampNeg) < r17) → (kd M16 l0 8 ∧ (∃ a18, mR M16 l0 3 = some a18 ∧ (inb M16 a18 11 l1 ∧ (kd M16 l0 8 ∧ (∃ a19, mR M16 l0 3 = some a19 ∧ (inb M16 a19 11 (l1 + (1 : Int32)) ∧ (w33 (mI M16 a18 l1.toNatClampNeg) (mI M16 a19 (l1 + (1 : Int32)).toNatClampNeg) M16 (fun r21 M20 => (r21 < (mI M a3 l3.toNatClampNeg) → (w69_118  M20 P)) ∧ (¬ (r21 < (mI M a3 l3.toNatClampNeg)) → (w69_119  (1 : Int32) M20 P))))))))))))))))))))))))))))))))))))))))))))))
theorem t69_E {sl : Nat} {sx : Nat → Int32} {d : Nat} {M0 : MM} {P : Int32 → MM → Prop} (l0 : Nat) (l1 : Int32) (l2 : Option Nat) (l3 : Int32) (M : MM) (hM : lenO M0 M) (h : w69  l0 l1 l2 l3 M P) : R69 sl sx d M0 P 0 [some (vR (some l0)), some (vI l1), some (vR l2), some (vI l3), none, none] [] M := by
  obtain ⟨a1, he, h⟩ := h
  refine RN_k (callX_det _) 1 _ _ _ _ (show R69 sl sx d M0 P 1 [some (vR (some l0)), some (vI l1), some (vR l2), some (vI l3), none, none] [vR l2] M from ?_)
  subst he
  refine RN_k (callX_det _) 1 _ _ _ _ (show kd M a1 8 ∧ R69 sl sx d M0 P 4 [some (vR (some l0)), some (vI l1), some (vR (some a1)), some (vI l3), none, none] [vR (mR M a1 2)] M from ⟨h.1, ?_⟩)
  replace h := h.2
  obtain ⟨a2, he, h⟩ := h
  refine RN_k (callX_det _) 1 _ _ _ _ (show R69 sl sx d M0 P 5 [some (vR (some l0)), some (vI l1), some (vR (some a1)), some (vI l3), none, none] [vI l3, vR (mR M a1 2)] M from ?_)
  rw [he]
  refine RN_k (callX_det _) 1 _ _ _ _ (show inb M a2 11 l3 ∧ R69 sl sx d M0 P 6 [some (vR (some l0)), some (vI l1), some (vR (some a1)), some (vI l3), none, none] [vI (mI M a2 l3.toNatClampNeg)] M from ⟨h.1, ?_⟩)
  replace h := h.2
  refine RN_k (callX_det _) 3 _ _ _ _ (show kd M a1 8 ∧ R69 sl sx d M0 P 12 [some (vR (some l0)), some (vI l1), some (vR (some a1)), some (vI l3), some (vI (mI M a2 l3.toNatClampNeg)), none] [vR (mR M a1 3)] M from ⟨h.1, ?_⟩)
  replace h := h.2
  obtain ⟨a3, he, h⟩ := h
  refine RN_k (callX_det _) 1 _ _ _ _ (show R69 sl sx d M0 P 13 [some (vR (some l0)), some (vI l1), some (vR (some a1)), some (vI l3), some (vI (mI M a2 l3.toNatClampNeg)), none] [vI l3, vR (mR M a1 3)] M from ?_)
  rw [he]
  refine RN_k (callX_det _) 1 _ _ _ _ (show inb M a3 11 l3 ∧ R69 sl sx d M0 P 14 [some (vR (some l0)), some (vI l1), some (vR (some a1)), some (vI l3), some (vI (mI M a2 l3.toNatClampNeg)), none] [vI (mI M a3 l3.toNatClampNeg)] M from ⟨h.1, ?_⟩)
  replace h := h.2
  refine RN_k (callX_det _) 6 _ _ _ _ (show kd M l0 8 ∧ callX TBg sl sx (d + 2) 66 [vR (some l0), vI l1, vR (some a1), vI l3] M (fun v M9 => R69 sl sx d M0 P 23 [some (vR (some l0)), some (vI l1), some (vR (some a1)), some (vI l3), some (vI (mI M a2 l3.toNatClampNeg)), some (vI (mI M a3 l3.toNatClampNeg))] (pushO v []) M9) from ⟨h.1, ?_⟩)
  replace h := h.2
  refine callX_mono (callX_len (d := (d + 2)) rfl rfl rfl (c66 (d := d) h)) ?_
  clear h
  rintro v9 M4 ⟨hl, r5, rfl, h⟩
  replace hM := lenT hM hl
  show R69 sl sx d M0 P 23 [some (vR (some l0)), some (vI l1), some (vR (some a1)), some (vI l3), some (vI (mI M a2 l3.toNatClampNeg)), some (vI (mI M a3 l3.toNatClampNeg))] [vI r5] M4
  refine RN_k (callX_det _) 1 _ _ _ _ (show (r5 ≠ 0 → R69 sl sx d M0 P 118 [some (vR (some l0)), some (vI l1), some (vR (some a1)), some (vI l3), some (vI (mI M a2 l3.toNatClampNeg)), some (vI (mI M a3 l3.toNatClampNeg))] [] M4) ∧ (¬ (r5 ≠ 0) → R69 sl sx d M0 P 26 [some (vR (some l0)), some (vI l1), some (vR (some a1)), some (vI l3), some (vI (mI M a2 l3.toNatClampNeg)), some (vI (mI M a3 l3.toNatClampNeg))] [] M4) from ⟨fun hc => ?_, fun hc => ?_⟩)
  · replace h := h.1 hc
    exact RN_weak (K := [none, none, none, none, none, none]) (callX_det _) (show True from trivial) (t69_118   _ hM h)
  · replace h := h.2 hc
    refine RN_k (callX_det _) 3 _ _ _ _ (show kd M4 l0 8 ∧ R69 sl sx d M0 P 32 [some (vR (some l0)), some (vI l1), some (vR (some a1)), some (vI l3), some (vI (mI M a2 l3.toNatClampNeg)), some (vI (mI M a3 l3.toNatClampNeg))] [vR (mR M4 l0 2), vI (mI M a2 l3.toNatClampNeg)] M4 from ⟨h.1, ?_⟩)
    replace h := h.2
    obtain ⟨a6, he, h⟩ := h
    refine RN_k (callX_det _) 1 _ _ _ _ (show R69 sl sx d M0 P 33 [some (vR (some l0)), some (vI l1), some (vR (some a1)), some (vI l3), some (vI (mI M a2 l3.toNatClampNeg)), some (vI (mI M a3 l3.toNatClampNeg))] [vI l1, vR (mR M4 l0 2), vI (mI M a2 l3.toNatClampNeg)] M4 from ?_)
    rw [he]
    refine RN_k (callX_det _) 1 _ _ _ _ (show inb M4 a6 11 l1 ∧ R69 sl sx d M0 P 34 [some (vR (some l0)), some (vI l1), some (vR (some a1)), some (vI l3), some (vI (mI M a2 l3.toNatClampNeg)), some (vI (mI M a3 l3.toNatClampNeg))] [vI (mI M4 a6 l1.toNatClampNeg), vI (mI M a2 l3.toNatClampNeg)] M4 from ⟨h.1, ?_⟩)
    replace h := h.2
    refine RN_k (callX_det _) 2 _ _ _ _ (show kd M4 l0 8 ∧ R69 sl sx d M0 P 38 [some (vR (some l0)), some (vI l1), some (vR (some a1)), some (vI l3), some (vI (mI M a2 l3.toNatClampNeg)), some (vI (mI M a3 l3.toNatClampNeg))] [vR (mR M4 l0 2), vI (mI M4 a6 l1.toNatClampNeg), vI (mI M a2 l3.toNatClampNeg)] M4 from ⟨h.1, ?_⟩)
    replace h := h.2
    obtain ⟨a7, he, h⟩ := h
    refine RN_k (callX_det _) 3 _ _ _ _ (show R69 sl sx d M0 P 41 [some (vR (some l0)), some (vI l1), some (vR (some a1)), some (vI l3), some (vI (mI M a2 l3.toNatClampNeg)), some (vI (mI M a3 l3.toNatClampNeg))] [vI (l1 + (1 : Int32)), vR (mR M4 l0 2), vI (mI M4 a6 l1.toNatClampNeg), vI (mI M a2 l3.toNatClampNeg)] M4 from ?_)
    rw [he]
    refine RN_k (callX_det _) 1 _ _ _ _ (show inb M4 a7 11 (l1 + (1 : Int32)) ∧ R69 sl sx d M0 P 42 [some (vR (some l0)), some (vI l1), some (vR (some a1)), some (vI l3), some (vI (mI M a2 l3.toNatClampNeg)), some (vI (mI M a3 l3.toNatClampNeg))] [vI (mI M4 a7 (l1 + (1 : Int32)).toNatClampNeg), vI (mI M4 a6 l1.toNatClampNeg), vI (mI M a2 l3.toNatClampNeg)] M4 from ⟨h.1, ?_⟩)
    replace h := h.2
    refine RN_k (callX_det _) 1 _ _ _ _ (show callX TBg sl sx (d + 2) 70 [vI (mI M4 a6 l1.toNatClampNeg), vI (mI M4 a7 (l1 + (1 : Int32)).toNatClampNeg)] M4 (fun v M9 => R69 sl sx d M0 P 45 [some (vR (some l0)), some (vI l1), some (vR (some a1)), some (vI l3), some (vI (mI M a2 l3.toNatClampNeg)), some (vI (mI M a3 l3.toNatClampNeg))] (pushO v [vI (mI M a2 l3.toNatClampNeg)]) M9) from ?_)
    refine callX_mono (callX_len (d := (d + 2)) rfl rfl rfl (c70 (d := d + 1) h)) ?_
    clear h
    rintro v9 M8 ⟨hl, r9, rfl, h⟩
    replace hM := lenT hM hl
    show R69 sl sx d M0 P 45 [some (vR (some l0)), some (vI l1), some (vR (some a1)), some (vI l3), some (vI (mI M a2 l3.toNatClampNeg)), some (vI (mI M a3 l3.toNatClampNeg))] [vI r9, vI (mI M a2 l3.toNatClampNeg)] M8
    refine RN_k (callX_det _) 1 _ _ _ _ (show ((mI M a2 l3.toNatClampNeg) < r9 → R69 sl sx d M0 P 118 [some (vR (some l0)), some (vI l1), some (vR (some a1)), some (vI l3), some (vI (mI M a2 l3.toNatClampNeg)), some (vI (mI M a3 l3.toNatClampNeg))] [] M8) ∧ (¬ ((mI M a2 l3.toNatClampNeg) < r9) → R69 sl sx d M0 P 48 [some (vR (some l0)), some (vI l1), some (vR (some a1)), some (vI l3), some (vI (mI M a2 l3.toNatClampNeg)), some (vI (mI M a3 l3.toNatClampNeg))] [] M8) from ⟨fun hc => ?_, fun hc => ?_⟩)
    · replace h := h.1 hc
      exact RN_weak (K := [none, none, none, none, none, none]) (callX_det _) (show True from trivial) (t69_118   _ hM h)
    · replace h := h.2 hc
      refine RN_k (callX_det _) 3 _ _ _ _ (show kd M8 l0 8 ∧ R69 sl sx d M0 P 54 [some (vR (some l0)), some (vI l1), some (vR (some a1)), some (vI l3), some (vI (mI M a2 l3.toNatClampNeg)), some (vI (mI M a3 l3.toNatClampNeg))] [vR (mR M8 l0 2), vI (mI M a2 l3.toNatClampNeg)] M8 from ⟨h.1, ?_⟩)
      replace h := h.2
      obtain ⟨a10, he, h⟩ := h
      refine RN_k (callX_det _) 1 _ _ _ _ (show R69 sl sx d M0 P 55 [some (vR (some l0)), some (vI l1), some (vR (some a1)), some (vI l3), some (vI (mI M a2 l3.toNatClampNeg)), some (vI (mI M a3 l3.toNatClampNeg))] [vI l1, vR (mR M8 l0 2), vI (mI M a2 l3.toNatClampNeg)] M8 from ?_)
      rw [he]
      refine RN_k (callX_det _) 1 _ _ _ _ (show inb M8 a10 11 l1 ∧ R69 sl sx d M0 P 56 [some (vR (some l0)), some (vI l1), some (vR (some a1)), some (vI l3), some (vI (mI M a2 l3.toNatClampNeg)), some (vI (mI M a3 l3.toNatClampNeg))] [vI (mI M8 a10 l1.toNatClampNeg), vI (mI M a2 l3.toNatClampNeg)] M8 from ⟨h.1, ?_⟩)
      replace h := h.2
      refine RN_k (callX_det _) 2 _ _ _ _ (show kd M8 l0 8 ∧ R69 sl sx d M0 P 60 [some (vR (some l0)), some (vI l1), some (vR (some a1)), some (vI l3), some (vI (mI M a2 l3.toNatClampNeg)), some (vI (mI M a3 l3.toNatClampNeg))] [vR (mR M8 l0 2), vI (mI M8 a10 l1.toNatClampNeg), vI (mI M a2 l3.toNatClampNeg)] M8 from ⟨h.1, ?_⟩)
      replace h := h.2
      obtain ⟨a11, he, h⟩ := h
      refine RN_k (callX_det _) 3 _ _ _ _ (show R69 sl sx d M0 P 63 [some (vR (some l0)), some (vI l1), some (vR (some a1)), some (vI l3), some (vI (mI M a2 l3.toNatClampNeg)), some (vI (mI M a3 l3.toNatClampNeg))] [vI (l1 + (1 : Int32)), vR (mR M8 l0 2), vI (mI M8 a10 l1.toNatClampNeg), vI (mI M a2 l3.toNatClampNeg)] M8 from ?_)
      rw [he]
      refine RN_k (callX_det _) 1 _ _ _ _ (show inb M8 a11 11 (l1 + (1 : Int32)) ∧ R69 sl sx d M0 P 64 [some (vR (some l0)), some (vI l1), some (vR (some a1)), some (vI l3), some (vI (mI M a2 l3.toNatClampNeg)), some (vI (mI M a3 l3.toNatClampNeg))] [vI (mI M8 a11 (l1 + (1 : Int32)).toNatClampNeg), vI (mI M8 a10 l1.toNatClampNeg), vI (mI M a2 l3.toNatClampNeg)] M8 from ⟨h.1, ?_⟩)
      replace h := h.2
      refine RN_k (callX_det _) 1 _ _ _ _ (show callX TBg sl sx (d + 2) 33 [vI (mI M8 a10 l1.toNatClampNeg), vI (mI M8 a11 (l1 + (1 : Int32)).toNatClampNeg)] M8 (fun v M9 => R69 sl sx d M0 P 67 [some (vR (some l0)), some (vI l1), some (vR (some a1)), some (vI l3), some (vI (mI M a2 l3.toNatClampNeg)), some (vI (mI M a3 l3.toNatClampNeg))] (pushO v [vI (mI M a2 l3.toNatClampNeg)]) M9) from ?_)
      refine callX_mono (callX_len (d := (d + 2)) rfl rfl rfl (c33 (d := d + 1) h)) ?_
      clear h
      rintro v9 M12 ⟨hl, r13, rfl, h⟩
      replace hM := lenT hM hl
      show R69 sl sx d M0 P 67 [some (vR (some l0)), some (vI l1), some (vR (some a1)), some (vI l3), some (vI (mI M a2 l3.toNatClampNeg)), some (vI (mI M a3 l3.toNatClampNeg))] [vI r13, vI (mI M a2 l3.toNatClampNeg)] M12
      refine RN_k (callX_det _) 1 _ _ _ _ (show (r13 < (mI M a2 l3.toNatClampNeg) → R69 sl sx d M0 P 118 [some (vR (some l0)), some (vI l1), some (vR (some a1)), some (vI l3), some (vI (mI M a2 l3.toNatClampNeg)), some (vI (mI M a3 l3.toNatClampNeg))] [] M12) ∧ (¬ (r13 < (mI M a2 l3.toNatClampNeg)) → R69 sl sx d M0 P 70 [some (vR (some l0)), some (vI l1), some (vR (some a1)), some (vI l3), some (vI (mI M a2 l3.toNatClampNeg)), some (vI (mI M a3 l3.toNatClampNeg))] [] M12) from ⟨fun hc => ?_, fun hc => ?_⟩)
      · replace h := h.1 hc
        exact RN_weak (K := [none, none, none, none, none, none]) (callX_det _) (show True from trivial) (t69_118   _ hM h)
      · replace h := h.2 hc
        refine RN_k (callX_det _) 3 _ _ _ _ (show kd M12 l0 8 ∧ R69 sl sx d M0 P 76 [some (vR (some l0)), some (vI l1), some (vR (some a1)), some (vI l3), some (vI (mI M a2 l3.toNatClampNeg)), some (vI (mI M a3 l3.toNatClampNeg))] [vR (mR M12 l0 3), vI (mI M a3 l3.toNatClampNeg)] M12 from ⟨h.1, ?_⟩)
        replace h := h.2
        obtain ⟨a14, he, h⟩ := h
        refine RN_k (callX_det _) 1 _ _ _ _ (show R69 sl sx d M0 P 77 [some (vR (some l0)), some (vI l1), some (vR (some a1)), some (vI l3), some (vI (mI M a2 l3.toNatClampNeg)), some (vI (mI M a3 l3.toNatClampNeg))] [vI l1, vR (mR M12 l0 3), vI (mI M a3 l3.toNatClampNeg)] M12 from ?_)
        rw [he]
        refine RN_k (callX_det _) 1 _ _ _ _ (show inb M12 a14 11 l1 ∧ R69 sl sx d M0 P 78 [some (vR (some l0)), some (vI l1), some (vR (some a1)), some (vI l3), some (vI (mI M a2 l3.toNatClampNeg)), some (vI (mI M a3 l3.toNatClampNeg))] [vI (mI M12 a14 l1.toNatClampNeg), vI (mI M a3 l3.toNatClampNeg)] M12 from ⟨h.1, ?_⟩)
        replace h := h.2
        refine RN_k (callX_det _) 2 _ _ _ _ (show kd M12 l0 8 ∧ R69 sl sx d M0 P 82 [some (vR (some l0)), some (vI l1), some (vR (some a1)), some (vI l3), some (vI (mI M a2 l3.toNatClampNeg)), some (vI (mI M a3 l3.toNatClampNeg))] [vR (mR M12 l0 3), vI (mI M12 a14 l1.toNatClampNeg), vI (mI M a3 l3.toNatClampNeg)] M12 from ⟨h.1, ?_⟩)
        replace h := h.2
        obtain ⟨a15, he, h⟩ := h
        refine RN_k (callX_det _) 3 _ _ _ _ (show R69 sl sx d M0 P 85 [some (vR (some l0)), some (vI l1), some (vR (some a1)), some (vI l3), some (vI (mI M a2 l3.toNatClampNeg)), some (vI (mI M a3 l3.toNatClampNeg))] [vI (l1 + (1 : Int32)), vR (mR M12 l0 3), vI (mI M12 a14 l1.toNatClampNeg), vI (mI M a3 l3.toNatClampNeg)] M12 from ?_)
        rw [he]
        refine RN_k (callX_det _) 1 _ _ _ _ (show inb M12 a15 11 (l1 + (1 : Int32)) ∧ R69 sl sx d M0 P 86 [some (vR (some l0)), some (vI l1), some (vR (some a1)), some (vI l3), some (vI (mI M a2 l3.toNatClampNeg)), some (vI (mI M a3 l3.toNatClampNeg))] [vI (mI M12 a15 (l1 + (1 : Int32)).toNatClampNeg), vI (mI M12 a14 l1.toNatClampNeg), vI (mI M a3 l3.toNatClampNeg)] M12 from ⟨h.1, ?_⟩)
        replace h := h.2
        refine RN_k (callX_det _) 1 _ _ _ _ (show callX TBg sl sx (d + 2) 70 [vI (mI M12 a14 l1.toNatClampNeg), vI (mI M12 a15 (l1 + (1 : Int32)).toNatClampNeg)] M12 (fun v M9 => R69 sl sx d M0 P 89 [some (vR (some l0)), some (vI l1), some (vR (some a1)), some (vI l3), some (vI (mI M a2 l3.toNatClampNeg)), some (vI (mI M a3 l3.toNatClampNeg))] (pushO v [vI (mI M a3 l3.toNatClampNeg)]) M9) from ?_)
        refine callX_mono (callX_len (d := (d + 2)) rfl rfl rfl (c70 (d := d + 1) h)) ?_
        clear h
        rintro v9 M16 ⟨hl, r17, rfl, h⟩
        replace hM := lenT hM hl
        show R69 sl sx d M0 P 89 [some (vR (some l0)), some (vI l1), some (vR (some a1)), some (vI l3), some (vI (mI M a2 l3.toNatClampNeg)), some (vI (mI M a3 l3.toNatClampNeg))] [vI r17, vI (mI M a3 l3.toNatClampNeg)] M16
        refine RN_k (callX_det _) 1 _ _ _ _ (show ((mI M a3 l3.toNatClampNeg) < r17 → R69 sl sx d M0 P 118 [some (vR (some l0)), some (vI l1), some (vR (some a1)), some (vI l3), some (vI (mI M a2 l3.toNatClampNeg)), some (vI (mI M a3 l3.toNatClampNeg))] [] M16) ∧ (¬ ((mI M a3 l3.toNatClampNeg) < r17) → R69 sl sx d M0 P 92 [some (vR (some l0)), some (vI l1), some (vR (some a1)), some (vI l3), some (vI (mI M a2 l3.toNatClampNeg)), some (vI (mI M a3 l3.toNatClampNeg))] [] M16) from ⟨fun hc => ?_, fun hc => ?_⟩)
        · replace h := h.1 hc
          exact RN_weak (K := [none, none, none, none, none, none]) (callX_det _) (show True from trivial) (t69_118   _ hM h)
        · replace h := h.2 hc
          refine RN_k (callX_det _) 3 _ _ _ _ (show kd M16 l0 8 ∧ R69 sl sx d M0 P 98 [some (vR (some l0)), some (vI l1), some (vR (some a1)), some (vI l3), some (vI (mI M a2 l3.toNatClampNeg)), some (vI (mI M a3 l3.toNatClampNeg))] [vR (mR M16 l0 3), vI (mI M a3 l3.toNatClampNeg)] M16 from ⟨h.1, ?_⟩)
          replace h := h.2
          obtain ⟨a18, he, h⟩ := h
          refine RN_k (callX_det _) 1 _ _ _ _ (show R69 sl sx d M0 P 99 [some (vR (some l0)), some (vI l1), some (vR (some a1)), some (vI l3), some (vI (mI M a2 l3.toNatClampNeg)), some (vI (mI M a3 l3.toNatClampNeg))] [vI l1, vR (mR M16 l0 3), vI (mI M a3 l3.toNatClampNeg)] M16 from ?_)
          rw [he]
          refine RN_k (callX_det _) 1 _ _ _ _ (show inb M16 a18 11 l1 ∧ R69 sl sx d M0 P 100 [some (vR (some l0)), some (vI l1), some (vR (some a1)), some (vI l3), some (vI (mI M a2 l3.toNatClampNeg)), some (vI (mI M a3 l3.toNatClampNeg))] [vI (mI M16 a18 l1.toNatClampNeg), vI (mI M a3 l3.toNatClampNeg)] M16 from ⟨h.1, ?_⟩)
          replace h := h.2
          refine RN_k (callX_det _) 2 _ _ _ _ (show kd M16 l0 8 ∧ R69 sl sx d M0 P 104 [some (vR (some l0)), some (vI l1), some (vR (some a1)), some (vI l3), some (vI (mI M a2 l3.toNatClampNeg)), some (vI (mI M a3 l3.toNatClampNeg))] [vR (mR M16 l0 3), vI (mI M16 a18 l1.toNatClampNeg), vI (mI M a3 l3.toNatClampNeg)] M16 from ⟨h.1, ?_⟩)
          replace h := h.2
          obtain ⟨a19, he, h⟩ := h
          refine RN_k (callX_det _) 3 _ _ _ _ (show R69 sl sx d M0 P 107 [some (vR (some l0)), some (vI l1), some (vR (some a1)), some (vI l3), some (vI (mI M a2 l3.toNatClampNeg)), some (vI (mI M a3 l3.toNatClampNeg))] [vI (l1 + (1 : Int32)), vR (mR M16 l0 3), vI (mI M16 a18 l1.toNatClampNeg), vI (mI M a3 l3.toNatClampNeg)] M16 from ?_)
          rw [he]
          refine RN_k (callX_det _) 1 _ _ _ _ (show inb M16 a19 11 (l1 + (1 : Int32)) ∧ R69 sl sx d M0 P 108 [some (vR (some l0)), some (vI l1), some (vR (some a1)), some (vI l3), some (vI (mI M a2 l3.toNatClampNeg)), some (vI (mI M a3 l3.toNatClampNeg))] [vI (mI M16 a19 (l1 + (1 : Int32)).toNatClampNeg), vI (mI M16 a18 l1.toNatClampNeg), vI (mI M a3 l3.toNatClampNeg)] M16 from ⟨h.1, ?_⟩)
          replace h := h.2
          refine RN_k (callX_det _) 1 _ _ _ _ (show callX TBg sl sx (d + 2) 33 [vI (mI M16 a18 l1.toNatClampNeg), vI (mI M16 a19 (l1 + (1 : Int32)).toNatClampNeg)] M16 (fun v M9 => R69 sl sx d M0 P 111 [some (vR (some l0)), some (vI l1), some (vR (some a1)), some (vI l3), some (vI (mI M a2 l3.toNatClampNeg)), some (vI (mI M a3 l3.toNatClampNeg))] (pushO v [vI (mI M a3 l3.toNatClampNeg)]) M9) from ?_)
          refine callX_mono (callX_len (d := (d + 2)) rfl rfl rfl (c33 (d := d + 1) h)) ?_
          clear h
          rintro v9 M20 ⟨hl, r21, rfl, h⟩
          replace hM := lenT hM hl
          show R69 sl sx d M0 P 111 [some (vR (some l0)), some (vI l1), some (vR (some a1)), some (vI l3), some (vI (mI M a2 l3.toNatClampNeg)), some (vI (mI M a3 l3.toNatClampNeg))] [vI r21, vI (mI M a3 l3.toNatClampNeg)] M20
          refine RN_k (callX_det _) 1 _ _ _ _ (show (r21 < (mI M a3 l3.toNatClampNeg) → R69 sl sx d M0 P 118 [some (vR (some l0)), some (vI l1), some (vR (some a1)), some (vI l3), some (vI (mI M a2 l3.toNatClampNeg)), some (vI (mI M a3 l3.toNatClampNeg))] [] M20) ∧ (¬ (r21 < (mI M a3 l3.toNatClampNeg)) → R69 sl sx d M0 P 114 [some (vR (some l0)), some (vI l1), some (vR (some a1)), some (vI l3), some (vI (mI M a2 l3.toNatClampNeg)), some (vI (mI M a3 l3.toNatClampNeg))] [] M20) from ⟨fun hc => ?_, fun hc => ?_⟩)
          · replace h := h.1 hc
            exact RN_weak (K := [none, none, none, none, none, none]) (callX_det _) (show True from trivial) (t69_118   _ hM h)
          · replace h := h.2 hc
            refine RN_k (callX_det _) 2 _ _ _ _ (show R69 sl sx d M0 P 119 [some (vR (some l0)), some (vI l1), some (vR (some a1)), some (vI l3), some (vI (mI M a2 l3.toNatClampNeg)), some (vI (mI M a3 l3.toNatClampNeg))] [vI (1 : Int32)] M20 from ?_)
            exact RN_weak (K := [none, none, none, none, none, none]) (callX_det _) (show True from trivial) (t69_119  (1 : Int32) _ hM h)
theorem c69 {sl : Nat} {sx : Nat → Int32} {d : Nat} {l0 : Nat} {l1 : Int32} {l2 : Option Nat} {l3 : Int32} {M : MM} {P : Int32 → MM → Prop} (h : w69 l0 l1 l2 l3 M P) : callX TBg sl sx (d + 3) 69 [vR (some l0), vI l1, vR l2, vI l3] M (PI P) :=
  cX (d := d + 2) q69 (false, tb69) rfl rfl rfl (t69_E l0 l1 l2 l3 M lenR h)
-- TwoLeash$Track.touches(ILTwoLeash$Track;I)Z
abbrev q68 : MQ7 := (4, 1, 4, 8, 0, 0, 4)
abbrev R68 (sl : Nat) (sx : Nat → Int32) (d : Nat) (M0 : MM) (P : Int32 → MM → Prop) : Nat → LL → List VV → MM → Prop := RN 8 false (mS M0).length (mT M0) 0 0 sl sx (callX TBg sl sx (d + 3)) (rtW q68 M0 (PI P)) (as2 tb68)
def w68_49 (s0 : Int32) (M : MM) (P : Int32 → MM → Prop) : Prop := (s0 = 0 ∨ s0 = 1) ∧ P s0 M
theorem t68_49 {sl : Nat} {sx : Nat → Int32} {d : Nat} {M0 : MM} {P : Int32 → MM → Prop} (s0 : Int32) (M : MM) (hM : lenO M0 M) (h : w68_49  s0 M P) : R68 sl sx d M0 P 49 [none, none, none, none] [vI s0] M := by
  exact RN_k (callX_det _) 1 _ _ _ _ (show rtW q68 M0 (PI P) (some (vI s0)) M from ⟨⟨_, rfl, h.1⟩, hM.1, hM.2, _, rfl, h.2⟩)
def w68_44 (M : MM) (P : Int32 → MM → Prop) : Prop := w68_49  (1 : Int32) M P
theorem t68_44 {sl : Nat} {sx : Nat → Int32} {d : Nat} {M0 : MM} {P : Int32 → MM → Prop}  (M : MM) (hM : lenO M0 M) (h : w68_44   M P) : R68 sl sx d M0 P 44 [none, none, none, none] [] M := by
  refine RN_k (callX_det _) 2 _ _ _ _ (show R68 sl sx d M0 P 49 [none, none, none, none] [vI (1 : Int32)] M from ?_)
  exact RN_weak (K := [none, none, none, none]) (callX_det _) (show True from trivial) (t68_49  (1 : Int32) _ hM h)
def w68 (l0 : Nat) (l1 : Int32) (l2 : Option Nat) (l3 : Int32) (M : MM) (P : Int32 → MM → Prop) : Prop := kd M l0 8 ∧ w69 l0 l1 l2 l3 M (fun r2 M1 => (r2 ≠ 0 → (w68_44  M1 P)) ∧ (¬ (r2 ≠ 0) → (kd M1 l0 8 ∧ w69 l0 l1 l2 (l3 + (1 : Int32)) M1 (fun r4 M3 => (r4 ≠ 0 → (w68_44  M3 P)) ∧ (¬ (r4 ≠ 0) → (∃ a5, l2 = some a5 ∧ (kd M3 a5 8 ∧ w69 a5 l3 (some l0) l1 M3 (fun r7 M6 => (r7 ≠ 0 → (w68_44  M6 P)) ∧ (¬ (r7 ≠ 0) → (kd M6 a5 8 ∧ w69 a5 l3 (some l0) (l1 + (1 : Int32)) M6 (fun r9 M8 => (r9 = 0 → (w68_49  (0 : Int32) M8 P)) ∧ (¬ (r9 = 0) → (w68_44  M8 P)))))))))))))
theorem t68_E {sl : Nat} {sx : Nat → Int32} {d : Nat} {M0 : MM} {P : Int32 → MM → Prop} (l0 : Nat) (l1 : Int32) (l2 : Option Nat) (l3 : Int32) (M : MM) (hM : lenO M0 M) (h : w68  l0 l1 l2 l3 M P) : R68 sl sx d M0 P 0 [some (vR (some l0)), some (vI l1), some (vR l2), some (vI l3)] [] M := by
  refine RN_k (callX_det _) 5 _ _ _ _ (show kd M l0 8 ∧ callX TBg sl sx (d + 3) 69 [vR (some l0), vI l1, vR l2, vI l3] M (fun v M9 => R68 sl sx d M0 P 7 [some (vR (some l0)), some (vI l1), some (vR l2), some (vI l3)] (pushO v []) M9) from ⟨h.1, ?_⟩)
  replace h := h.2
  refine callX_mono (callX_len (d := (d + 3)) rfl rfl rfl (c69 (d := d) h)) ?_
  clear h
  rintro v9 M1 ⟨hl, r2, rfl, h⟩
  replace hM := lenT hM hl
  show R68 sl sx d M0 P 7 [some (vR (some l0)), some (vI l1), some (vR l2), some (vI l3)] [vI r2] M1
  refine RN_k (callX_det _) 1 _ _ _ _ (show (r2 ≠ 0 → R68 sl sx d M0 P 44 [some (vR (some l0)), some (vI l1), some (vR l2), some (vI l3)] [] M1) ∧ (¬ (r2 ≠ 0) → R68 sl sx d M0 P 10 [some (vR (some l0)), some (vI l1), some (vR l2), some (vI l3)] [] M1) from ⟨fun hc => ?_, fun hc => ?_⟩)
  · replace h := h.1 hc
    exact RN_weak (K := [none, none, none, none]) (callX_det _) (show True from trivial) (t68_44   _ hM h)
  · replace h := h.2 hc
    refine RN_k (callX_det _) 7 _ _ _ _ (show kd M1 l0 8 ∧ callX TBg sl sx (d + 3) 69 [vR (some l0), vI l1, vR l2, vI (l3 + (1 : Int32))] M1 (fun v M9 => R68 sl sx d M0 P 19 [some (vR (some l0)), some (vI l1), some (vR l2), some (vI l3)] (pushO v []) M9) from ⟨h.1, ?_⟩)
    replace h := h.2
    refine callX_mono (callX_len (d := (d + 3)) rfl rfl rfl (c69 (d := d) h)) ?_
    clear h
    rintro v9 M3 ⟨hl, r4, rfl, h⟩
    replace hM := lenT hM hl
    show R68 sl sx d M0 P 19 [some (vR (some l0)), some (vI l1), some (vR l2), some (vI l3)] [vI r4] M3
    refine RN_k (callX_det _) 1 _ _ _ _ (show (r4 ≠ 0 → R68 sl sx d M0 P 44 [some (vR (some l0)), some (vI l1), some (vR l2), some (vI l3)] [] M3) ∧ (¬ (r4 ≠ 0) → R68 sl sx d M0 P 22 [some (vR (some l0)), some (vI l1), some (vR l2), some (vI l3)] [] M3) from ⟨fun hc => ?_, fun hc => ?_⟩)
    · replace h := h.1 hc
      exact RN_weak (K := [none, none, none, none]) (callX_det _) (show True from trivial) (t68_44   _ hM h)
    · replace h := h.2 hc
      obtain ⟨a5, he, h⟩ := h
      refine RN_k (callX_det _) 4 _ _ _ _ (show R68 sl sx d M0 P 26 [some (vR (some l0)), some (vI l1), some (vR l2), some (vI l3)] [vI l1, vR (some l0), vI l3, vR l2] M3 from ?_)
      subst he
      refine RN_k (callX_det _) 1 _ _ _ _ (show kd M3 a5 8 ∧ callX TBg sl sx (d + 3) 69 [vR (some a5), vI l3, vR (some l0), vI l1] M3 (fun v M9 => R68 sl sx d M0 P 29 [some (vR (some l0)), some (vI l1), some (vR (some a5)), some (vI l3)] (pushO v []) M9) from ⟨h.1, ?_⟩)
      replace h := h.2
      refine callX_mono (callX_len (d := (d + 3)) rfl rfl rfl (c69 (d := d) h)) ?_
      clear h
      rintro v9 M6 ⟨hl, r7, rfl, h⟩
      replace hM := lenT hM hl
      show R68 sl sx d M0 P 29 [some (vR (some l0)), some (vI l1), some (vR (some a5)), some (vI l3)] [vI r7] M6
      refine RN_k (callX_det _) 1 _ _ _ _ (show (r7 ≠ 0 → R68 sl sx d M0 P 44 [some (vR (some l0)), some (vI l1), some (vR (some a5)), some (vI l3)] [] M6) ∧ (¬ (r7 ≠ 0) → R68 sl sx d M0 P 32 [some (vR (some l0)), some (vI l1), some (vR (some a5)), some (vI l3)] [] M6) from ⟨fun hc => ?_, fun hc => ?_⟩)
      · replace h := h.1 hc
        exact RN_weak (K := [none, none, none, none]) (callX_det _) (show True from trivial) (t68_44   _ hM h)
      · replace h := h.2 hc
        refine RN_k (callX_det _) 7 _ _ _ _ (show kd M6 a5 8 ∧ callX TBg sl sx (d + 3) 69 [vR (some a5), vI l3, vR (some l0), vI (l1 + (1 : Int32))] M6 (fun v M9 => R68 sl sx d M0 P 41 [some (vR (some l0)), some (vI l1), some (vR (some a5)), some (vI l3)] (pushO v []) M9) from ⟨h.1, ?_⟩)
        replace h := h.2
        refine callX_mono (callX_len (d := (d + 3)) rfl rfl rfl (c69 (d := d) h)) ?_
        clear h
        rintro v9 M8 ⟨hl, r9, rfl, h⟩
        replace hM := lenT hM hl
        show R68 sl sx d M0 P 41 [some (vR (some l0)), some (vI l1), some (vR (some a5)), some (vI l3)] [vI r9] M8
        refine RN_k (callX_det _) 1 _ _ _ _ (show (r9 = 0 → R68 sl sx d M0 P 48 [some (vR (some l0)), some (vI l1), some (vR (some a5)), some (vI l3)] [] M8) ∧ (¬ (r9 = 0) → R68 sl sx d M0 P 44 [some (vR (some l0)), some (vI l1), some (vR (some a5)), some (vI l3)] [] M8) from ⟨fun hc => ?_, fun hc => ?_⟩)
        · replace h := h.1 hc
          refine RN_k (callX_det _) 1 _ _ _ _ (show R68 sl sx d M0 P 49 [some (vR (some l0)), some (vI l1), some (vR (some a5)), some (vI l3)] [vI (0 : Int32)] M8 from ?_)
          exact RN_weak (K := [none, none, none, none]) (callX_det _) (show True from trivial) (t68_49  (0 : Int32) _ hM h)
        · replace h := h.2 hc
          exact RN_weak (K := [none, none, none, none]) (callX_det _) (show True from trivial) (t68_44   _ hM h)
theorem c68 {sl : Nat} {sx : Nat → Int32} {d : Nat} {l0 : Nat} {l1 : Int32} {l2 : Option Nat} {l3 : Int32} {M : MM} {P : Int32 → MM → Prop} (h : w68 l0 l1 l2 l3 M P) : callX TBg sl sx (d + 4) 68 [vR (some l0), vI l1, vR l2, vI l3] M (PI P) :=
  cX (d := d + 3) q68 (false, tb68) rfl rfl rfl (t68_E l0 l1 l2 l3 M lenR h)
-- TwoLeash.meets(III)I
abbrev q64 : MQ7 := (4, 1, 10, 9, 0, 0, 1)
abbrev R64 (sl : Nat) (sx : Nat → Int32) (d : Nat) (M0 : MM) (P : Int32 → MM → Prop) : Nat → LL → List VV → MM → Prop := RN 9 false (mS M0).length (mT M0) 0 0 sl sx (callX TBg sl sx (d + 4)) (rtW q64 M0 (PI P)) (as2 tb64)
def w64_9 (l0 : Nat) (M : MM) (P : Int32 → MM → Prop) : Prop := kd M l0 9 ∧ w17 l0 (1 : Int32) M (fun r2 M1 => P r2 M1)
theorem t64_9 {sl : Nat} {sx : Nat → Int32} {d : Nat} {M0 : MM} {P : Int32 → MM → Prop} (l0 : Nat) (M : MM) (hM : lenO M0 M) (h : w64_9  l0 M P) : R64 sl sx d M0 P 9 [some (vR (some l0)), none, none, none, none, none, none, none, none, none] [] M := by
  refine RN_k (callX_det _) 3 _ _ _ _ (show kd M l0 9 ∧ callX TBg sl sx (d + 4) 17 [vR (some l0), vI (1 : Int32)] M (fun v M9 => R64 sl sx d M0 P 14 [some (vR (some l0)), none, none, none, none, none, none, none, none, none] (pushO v []) M9) from ⟨h.1, ?_⟩)
  replace h := h.2
  refine callX_mono (callX_len (d := (d + 4)) rfl rfl rfl (c17 (d := d + 3) h)) ?_
  clear h
  rintro v9 M1 ⟨hl, r2, rfl, h⟩
  replace hM := lenT hM hl
  show R64 sl sx d M0 P 14 [some (vR (some l0)), none, none, none, none, none, none, none, none, none] [vI r2] M1
  exact RN_k (callX_det _) 1 _ _ _ _ (show rtW q64 M0 (PI P) (some (vI r2)) M1 from ⟨⟨_, rfl⟩, hM.1, hM.2, _, rfl, h⟩)
def w64_137 (k59 : Nat → Int32 → Int32 → Int32 → Option Nat → Option Nat → Int32 → Int32 → MM → Prop) (k90 : Nat → Int32 → Int32 → Int32 → Option Nat → Option Nat → Int32 → Int32 → Int32 → MM → Prop) (l0 : Nat) (l1 : Int32) (l2 : Int32) (l3 : Int32) (l4 : Option Nat) (l5 : Option Nat) (l6 : Int32) (l7 : Int32) (l9 : Int32) (M : MM) (P : Int32 → MM → Prop) : Prop := k90 l0 l1 l2 l3 l4 l5 l6 l7 (l9 + (1 : Int32)) M
theorem t64_137 {sl : Nat} {sx : Nat → Int32} {d : Nat} {M0 : MM} {P : Int32 → MM → Prop} {k59 : Nat → Int32 → Int32 → Int32 → Option Nat → Option Nat → Int32 → Int32 → MM → Prop} {k90 : Nat → Int32 → Int32 → Int32 → Option Nat → Option Nat → Int32 → Int32 → Int32 → MM → Prop} (hk59 : ∀ (l0 : Nat) (l1 : Int32) (l2 : Int32) (l3 : Int32) (l4 : Option Nat) (l5 : Option Nat) (l6 : Int32) (l7 : Int32) (M : MM), lenO M0 M → k59 l0 l1 l2 l3 l4 l5 l6 l7 M → R64 sl sx d M0 P 59 [some (vR (some l0)), some (vI l1), some (vI l2), some (vI l3), some (vR l4), some (vR l5), some (vI l6), some (vI l7), none, none] [] M) (hk90 : ∀ (l0 : Nat) (l1 : Int32) (l2 : Int32) (l3 : Int32) (l4 : Option Nat) (l5 : Option Nat) (l6 : Int32) (l7 : Int32) (l9 : Int32) (M : MM), lenO M0 M → k90 l0 l1 l2 l3 l4 l5 l6 l7 l9 M → R64 sl sx d M0 P 90 [some (vR (some l0)), some (vI l1), some (vI l2), some (vI l3), some (vR l4), some (vR l5), some (vI l6), some (vI l7), none, some (vI l9)] [] M) (l0 : Nat) (l1 : Int32) (l2 : Int32) (l3 : Int32) (l4 : Option Nat) (l5 : Option Nat) (l6 : Int32) (l7 : Int32) (l9 : Int32) (M : MM) (hM : lenO M0 M) (h : w64_137 k59 k90 l0 l1 l2 l3 l4 l5 l6 l7 l9 M P) : R64 sl sx d M0 P 137 [some (vR (some l0)), some (vI l1), some (vI l2), some (vI l3), some (vR l4), some (vR l5), some (vI l6), some (vI l7), none, some (vI l9)] [] M := by
  refine RN_k (callX_det _) 2 _ _ _ _ (show R64 sl sx d M0 P 90 [some (vR (some l0)), some (vI l1), some (vI l2), some (vI l3), some (vR l4), some (vR l5), some (vI l6), some (vI l7), none, some (vI (l9 + (1 : Int32)))] [] M from ?_)
  exact RN_weak (K := [some (vR (some l0)), some (vI l1), some (vI l2), some (vI l3), some (vR l4), some (vR l5), some (vI l6), some (vI l7), none, some (vI (l9 + (1 : Int32)))]) (callX_det _) (show _ ∧ _ ∧ _ ∧ _ ∧ _ ∧ _ ∧ _ ∧ _ ∧ _ ∧ True from ⟨rfl, rfl, rfl, rfl, rfl, rfl, rfl, rfl, rfl, trivial⟩) (hk90 l0 l1 l2 l3 l4 l5 l6 l7 (l9 + (1 : Int32)) _ hM h)
def w64_134 (k59 : Nat → Int32 → Int32 → Int32 → Option Nat → Option Nat → Int32 → Int32 → MM → Prop) (k90 : Nat → Int32 → Int32 → Int32 → Option Nat → Option Nat → Int32 → Int32 → Int32 → MM → Prop) (l0 : Nat) (l1 : Int32) (l2 : Int32) (l3 : Int32) (l4 : Option Nat) (l5 : Option Nat) (l6 : Int32) (l7 : Int32) (l9 : Int32) (M : MM) (P : Int32 → MM → Prop) : Prop := w64_137 k59 k90 l0 l1 l2 l3 l4 l5 (l6 + (1 : Int32)) l7 l9 M P
theorem t64_134 {sl : Nat} {sx : Nat → Int32} {d : Nat} {M0 : MM} {P : Int32 → MM → Prop} {k59 : Nat → Int32 → Int32 → Int32 → Option Nat → Option Nat → Int32 → Int32 → MM → Prop} {k90 : Nat → Int32 → Int32 → Int32 → Option Nat → Option Nat → Int32 → Int32 → Int32 → MM → Prop} (hk59 : ∀ (l0 : Nat) (l1 : Int32) (l2 : Int32) (l3 : Int32) (l4 : Option Nat) (l5 : Option Nat) (l6 : Int32) (l7 : Int32) (M : MM), lenO M0 M → k59 l0 l1 l2 l3 l4 l5 l6 l7 M → R64 sl sx d M0 P 59 [some (vR (some l0)), some (vI l1), some (vI l2), some (vI l3), some (vR l4), some (vR l5), some (vI l6), some (vI l7), none, none] [] M) (hk90 : ∀ (l0 : Nat) (l1 : Int32) (l2 : Int32) (l3 : Int32) (l4 : Option Nat) (l5 : Option Nat) (l6 : Int32) (l7 : Int32) (l9 : Int32) (M : MM), lenO M0 M → k90 l0 l1 l2 l3 l4 l5 l6 l7 l9 M → R64 sl sx d M0 P 90 [some (vR (some l0)), some (vI l1), some (vI l2), some (vI l3), some (vR l4), some (vR l5), some (vI l6), some (vI l7), none, some (vI l9)] [] M) (l0 : Nat) (l1 : Int32) (l2 : Int32) (l3 : Int32) (l4 : Option Nat) (l5 : Option Nat) (l6 : Int32) (l7 : Int32) (l9 : Int32) (M : MM) (hM : lenO M0 M) (h : w64_134 k59 k90 l0 l1 l2 l3 l4 l5 l6 l7 l9 M P) : R64 sl sx d M0 P 134 [some (vR (some l0)), some (vI l1), some (vI l2), some (vI l3), some (vR l4), some (vR l5), some (vI l6), some (vI l7), none, some (vI l9)] [] M := by
  refine RN_k (callX_det _) 1 _ _ _ _ (show R64 sl sx d M0 P 137 [some (vR (some l0)), some (vI l1), some (vI l2), some (vI l3), some (vR l4), some (vR l5), some (vI (l6 + (1 : Int32))), some (vI l7), none, some (vI l9)] [] M from ?_)
  exact RN_weak (K := [some (vR (some l0)), some (vI l1), some (vI l2), some (vI l3), some (vR l4), some (vR l5), some (vI (l6 + (1 : Int32))), some (vI l7), none, some (vI l9)]) (callX_det _) (show _ ∧ _ ∧ _ ∧ _ ∧ _ ∧ _ ∧ _ ∧ _ ∧ _ ∧ True from ⟨rfl, rfl, rfl, rfl, rfl, rfl, rfl, rfl, rfl, trivial⟩) (t64_137 hk59 hk90 l0 l1 l2 l3 l4 l5 (l6 + (1 : Int32)) l7 l9 _ hM h)
def w64_90 (k59 : Nat → Int32 → Int32 → Int32 → Option Nat → Option Nat → Int32 → Int32 → MM → Prop) : Nat → Nat → Int32 → Int32 → Int32 → Option Nat → Option Nat → Int32 → Int32 → Int32 → MM → (Int32 → MM → Prop) → Prop
  | 0 => fun _ _ _ _ _ _ _ _ _ _ _ => False
  | n + 1 => fun l0 l1 l2 l3 l4 l5 l6 l7 l9 M P => ∃ a1, l5 = some a1 ∧ (kd M a1 8 ∧ (((mI M a1 1) ≤ (l9 + (1 : Int32)) → (k59 l0 l1 l2 l3 l4 (some a1) l6 (l7 + (1 : Int32)) M)) ∧ (¬ ((mI M a1 1) ≤ (l9 + (1 : Int32))) → (∃ a2, l4 = some a2 ∧ (kd M a2 8 ∧ w65 a2 l7 (some a1) l9 M (fun r4 M3 => (r4 ≠ 0 → (w64_134 k59 (fun z0 z1 z2 z3 z4 z5 z6 z7 z8 z9 => w64_90 k59 n z0 z1 z2 z3 z4 z5 z6 z7 z8 z9 P) l0 l1 l2 l3 (some a2) (some a1) l6 l7 l9 M3 P)) ∧ (¬ (r4 ≠ 0) → ((l3 ≠ 0 → (w64_137 k59 (fun z0 z1 z2 z3 z4 z5 z6 z7 z8 z9 => w64_90 k59 n z0 z1 z2 z3 z4 z5 z6 z7 z8 z9 P) l0 l1 l2 l3 (some a2) (some a1) l6 l7 l9 M3 P)) ∧ (¬ (l3 ≠ 0) → (kd M3 a2 8 ∧ w68 a2 l7 (some a1) l9 M3 (fun r6 M5 => (r6 = 0 → (w64_137 k59 (fun z0 z1 z2 z3 z4 z5 z6 z7 z8 z9 => w64_90 k59 n z0 z1 z2 z3 z4 z5 z6 z7 z8 z9 P) l0 l1 l2 l3 (some a2) (some a1) l6 l7 l9 M5 P)) ∧ (¬ (r6 = 0) → (w64_134 k59 (fun z0 z1 z2 z3 z4 z5 z6 z7 z8 z9 => w64_90 k59 n z0 z1 z2 z3 z4 z5 z6 z7 z8 z9 P) l0 l1 l2 l3 (some a2) (some a1) l6 l7 l9 M5 P)))))))))))))
theorem t64_90 {sl : Nat} {sx : Nat → Int32} {d : Nat} {M0 : MM} {P : Int32 → MM → Prop} {k59 : Nat → Int32 → Int32 → Int32 → Option Nat → Option Nat → Int32 → Int32 → MM → Prop} (hk59 : ∀ (l0 : Nat) (l1 : Int32) (l2 : Int32) (l3 : Int32) (l4 : Option Nat) (l5 : Option Nat) (l6 : Int32) (l7 : Int32) (M : MM), lenO M0 M → k59 l0 l1 l2 l3 l4 l5 l6 l7 M → R64 sl sx d M0 P 59 [some (vR (some l0)), some (vI l1), some (vI l2), some (vI l3), some (vR l4), some (vR l5), some (vI l6), some (vI l7), none, none] [] M) (n : Nat) : ∀ (l0 : Nat) (l1 : Int32) (l2 : Int32) (l3 : Int32) (l4 : Option Nat) (l5 : Option Nat) (l6 : Int32) (l7 : Int32) (l9 : Int32) (M : MM) (_ : lenO M0 M) (_ : w64_90 k59 n l0 l1 l2 l3 l4 l5 l6 l7 l9 M P), R64 sl sx d M0 P 90 [some (vR (some l0)), some (vI l1), some (vI l2), some (vI l3), some (vR l4), some (vR l5), some (vI l6), some (vI l7), none, some (vI l9)] [] M := by
  induction n with
  | zero => intro l0 l1 l2 l3 l4 l5 l6 l7 l9 M hM h; cases h
  | succ n ih =>
    intro l0 l1 l2 l3 l4 l5 l6 l7 l9 M hM h
    obtain ⟨a1, he, h⟩ := h
    refine RN_k (callX_det _) 4 _ _ _ _ (show R64 sl sx d M0 P 96 [some (vR (some l0)), some (vI l1), some (vI l2), some (vI l3), some (vR l4), some (vR l5), some (vI l6), some (vI l7), none, some (vI l9)] [vR l5, vI (l9 + (1 : Int32))] M from ?_)
    subst he
    refine RN_k (callX_det _) 1 _ _ _ _ (show kd M a1 8 ∧ R64 sl sx d M0 P 99 [some (vR (some l0)), some (vI l1), some (vI l2), some (vI l3), some (vR l4), some (vR (some a1)), some (vI l6), some (vI l7), none, some (vI l9)] [vI (mI M a1 1), vI (l9 + (1 : Int32))] M from ⟨h.1, ?_⟩)
    replace h := h.2
    refine RN_k (callX_det _) 1 _ _ _ _ (show ((mI M a1 1) ≤ (l9 + (1 : Int32)) → R64 sl sx d M0 P 143 [some (vR (some l0)), some (vI l1), some (vI l2), some (vI l3), some (vR l4), some (vR (some a1)), some (vI l6), some (vI l7), none, some (vI l9)] [] M) ∧ (¬ ((mI M a1 1) ≤ (l9 + (1 : Int32))) → R64 sl sx d M0 P 102 [some (vR (some l0)), some (vI l1), some (vI l2), some (vI l3), some (vR l4), some (vR (some a1)), some (vI l6), some (vI l7), none, some (vI l9)] [] M) from ⟨fun hc => ?_, fun hc => ?_⟩)
    · replace h := h.1 hc
      refine RN_k (callX_det _) 2 _ _ _ _ (show R64 sl sx d M0 P 59 [some (vR (some l0)), some (vI l1), some (vI l2), some (vI l3), some (vR l4), some (vR (some a1)), some (vI l6), some (vI (l7 + (1 : Int32))), none, some (vI l9)] [] M from ?_)
      exact RN_weak (K := [some (vR (some l0)), some (vI l1), some (vI l2), some (vI l3), some (vR l4), some (vR (some a1)), some (vI l6), some (vI (l7 + (1 : Int32))), none, none]) (callX_det _) (show _ ∧ _ ∧ _ ∧ _ ∧ _ ∧ _ ∧ _ ∧ _ ∧ True from ⟨rfl, rfl, rfl, rfl, rfl, rfl, rfl, rfl, trivial⟩) (hk59 l0 l1 l2 l3 l4 (some a1) l6 (l7 + (1 : Int32)) _ hM h)
    · replace h := h.2 hc
      obtain ⟨a2, he, h⟩ := h
      refine RN_k (callX_det _) 4 _ _ _ _ (show R64 sl sx d M0 P 110 [some (vR (some l0)), some (vI l1), some (vI l2), some (vI l3), some (vR l4), some (vR (some a1)), some (vI l6), some (vI l7), none, some (vI l9)] [vI l9, vR (some a1), vI l7, vR l4] M from ?_)
      subst he
      refine RN_k (callX_det _) 1 _ _ _ _ (show kd M a2 8 ∧ callX TBg sl sx (d + 4) 65 [vR (some a2), vI l7, vR (some a1), vI l9] M (fun v M9 => R64 sl sx d M0 P 113 [some (vR (some l0)), some (vI l1), some (vI l2), some (vI l3), some (vR (some a2)), some (vR (some a1)), some (vI l6), some (vI l7), none, some (vI l9)] (pushO v []) M9) from ⟨h.1, ?_⟩)
      replace h := h.2
      refine callX_mono (callX_len (d := (d + 4)) rfl rfl rfl (c65 (d := d + 1) h)) ?_
      clear h
      rintro v9 M3 ⟨hl, r4, rfl, h⟩
      replace hM := lenT hM hl
      show R64 sl sx d M0 P 113 [some (vR (some l0)), some (vI l1), some (vI l2), some (vI l3), some (vR (some a2)), some (vR (some a1)), some (vI l6), some (vI l7), none, some (vI l9)] [vI r4] M3
      refine RN_k (callX_det _) 1 _ _ _ _ (show (r4 ≠ 0 → R64 sl sx d M0 P 134 [some (vR (some l0)), some (vI l1), some (vI l2), some (vI l3), some (vR (some a2)), some (vR (some a1)), some (vI l6), some (vI l7), none, some (vI l9)] [] M3) ∧ (¬ (r4 ≠ 0) → R64 sl sx d M0 P 116 [some (vR (some l0)), some (vI l1), some (vI l2), some (vI l3), some (vR (some a2)), some (vR (some a1)), some (vI l6), some (vI l7), none, some (vI l9)] [] M3) from ⟨fun hc => ?_, fun hc => ?_⟩)
      · replace h := h.1 hc
        exact RN_weak (K := [some (vR (some l0)), some (vI l1), some (vI l2), some (vI l3), some (vR (some a2)), some (vR (some a1)), some (vI l6), some (vI l7), none, some (vI l9)]) (callX_det _) (show _ ∧ _ ∧ _ ∧ _ ∧ _ ∧ _ ∧ _ ∧ _ ∧ _ ∧ True from ⟨rfl, rfl, rfl, rfl, rfl, rfl, rfl, rfl, rfl, trivial⟩) (t64_134 hk59 ih l0 l1 l2 l3 (some a2) (some a1) l6 l7 l9 _ hM h)
      · replace h := h.2 hc
        refine RN_k (callX_det _) 2 _ _ _ _ (show (l3 ≠ 0 → R64 sl sx d M0 P 137 [some (vR (some l0)), some (vI l1), some (vI l2), some (vI l3), some (vR (some a2)), some (vR (some a1)), some (vI l6), some (vI l7), none, some (vI l9)] [] M3) ∧ (¬ (l3 ≠ 0) → R64 sl sx d M0 P 120 [some (vR (some l0)), some (vI l1), some (vI l2), some (vI l3), some (vR (some a2)), some (vR (some a1)), some (vI l6), some (vI l7), none, some (vI l9)] [] M3) from ⟨fun hc => ?_, fun hc => ?_⟩)
        · replace h := h.1 hc
          exact RN_weak (K := [some (vR (some l0)), some (vI l1), some (vI l2), some (vI l3), some (vR (some a2)), some (vR (some a1)), some (vI l6), some (vI l7), none, some (vI l9)]) (callX_det _) (show _ ∧ _ ∧ _ ∧ _ ∧ _ ∧ _ ∧ _ ∧ _ ∧ _ ∧ True from ⟨rfl, rfl, rfl, rfl, rfl, rfl, rfl, rfl, rfl, trivial⟩) (t64_137 hk59 ih l0 l1 l2 l3 (some a2) (some a1) l6 l7 l9 _ hM h)
        · replace h := h.2 hc
          refine RN_k (callX_det _) 5 _ _ _ _ (show kd M3 a2 8 ∧ callX TBg sl sx (d + 4) 68 [vR (some a2), vI l7, vR (some a1), vI l9] M3 (fun v M9 => R64 sl sx d M0 P 131 [some (vR (some l0)), some (vI l1), some (vI l2), some (vI l3), some (vR (some a2)), some (vR (some a1)), some (vI l6), some (vI l7), none, some (vI l9)] (pushO v []) M9) from ⟨h.1, ?_⟩)
          replace h := h.2
          refine callX_mono (callX_len (d := (d + 4)) rfl rfl rfl (c68 (d := d) h)) ?_
          clear h
          rintro v9 M5 ⟨hl, r6, rfl, h⟩
          replace hM := lenT hM hl
          show R64 sl sx d M0 P 131 [some (vR (some l0)), some (vI l1), some (vI l2), some (vI l3), some (vR (some a2)), some (vR (some a1)), some (vI l6), some (vI l7), none, some (vI l9)] [vI r6] M5
          refine RN_k (callX_det _) 1 _ _ _ _ (show (r6 = 0 → R64 sl sx d M0 P 137 [some (vR (some l0)), some (vI l1), some (vI l2), some (vI l3), some (vR (some a2)), some (vR (some a1)), some (vI l6), some (vI l7), none, some (vI l9)] [] M5) ∧ (¬ (r6 = 0) → R64 sl sx d M0 P 134 [some (vR (some l0)), some (vI l1), some (vI l2), some (vI l3), some (vR (some a2)), some (vR (some a1)), some (vI l6), some (vI l7), none, some (vI l9)] [] M5) from ⟨fun hc => ?_, fun hc => ?_⟩)
          · replace h := h.1 hc
            exact RN_weak (K := [some (vR (some l0)), some (vI l1), some (vI l2), some (vI l3), some (vR (some a2)), some (vR (some a1)), some (vI l6), some (vI l7), none, some (vI l9)]) (callX_det _) (show _ ∧ _ ∧ _ ∧ _ ∧ _ ∧ _ ∧ _ ∧ _ ∧ _ ∧ True from ⟨rfl, rfl, rfl, rfl, rfl, rfl, rfl, rfl, rfl, trivial⟩) (t64_137 hk59 ih l0 l1 l2 l3 (some a2) (some a1) l6 l7 l9 _ hM h)
          · replace h := h.2 hc
            exact RN_weak (K := [some (vR (some l0)), some (vI l1), some (vI l2), some (vI l3), some (vR (some a2)), some (vR (some a1)), some (vI l6), some (vI l7), none, some (vI l9)]) (callX_det _) (show _ ∧ _ ∧ _ ∧ _ ∧ _ ∧ _ ∧ _ ∧ _ ∧ _ ∧ True from ⟨rfl, rfl, rfl, rfl, rfl, rfl, rfl, rfl, rfl, trivial⟩) (t64_134 hk59 ih l0 l1 l2 l3 (some a2) (some a1) l6 l7 l9 _ hM h)
def w64_84 (k59 : Nat → Int32 → Int32 → Int32 → Option Nat → Option Nat → Int32 → Int32 → MM → Prop) (l0 : Nat) (l1 : Int32) (l2 : Int32) (l3 : Int32) (l4 : Option Nat) (l5 : Option Nat) (l6 : Int32) (l7 : Int32) (s0 : Int32) (M : MM) (P : Int32 → MM → Prop) : Prop := ∃ n2, w64_90 k59 n2 l0 l1 l2 l3 l4 l5 l6 l7 s0 M P
theorem t64_84 {sl : Nat} {sx : Nat → Int32} {d : Nat} {M0 : MM} {P : Int32 → MM → Prop} {k59 : Nat → Int32 → Int32 → Int32 → Option Nat → Option Nat → Int32 → Int32 → MM → Prop} (hk59 : ∀ (l0 : Nat) (l1 : Int32) (l2 : Int32) (l3 : Int32) (l4 : Option Nat) (l5 : Option Nat) (l6 : Int32) (l7 : Int32) (M : MM), lenO M0 M → k59 l0 l1 l2 l3 l4 l5 l6 l7 M → R64 sl sx d M0 P 59 [some (vR (some l0)), some (vI l1), some (vI l2), some (vI l3), some (vR l4), some (vR l5), some (vI l6), some (vI l7), none, none] [] M) (l0 : Nat) (l1 : Int32) (l2 : Int32) (l3 : Int32) (l4 : Option Nat) (l5 : Option Nat) (l6 : Int32) (l7 : Int32) (s0 : Int32) (M : MM) (hM : lenO M0 M) (h : w64_84 k59 l0 l1 l2 l3 l4 l5 l6 l7 s0 M P) : R64 sl sx d M0 P 84 [some (vR (some l0)), some (vI l1), some (vI l2), some (vI l3), some (vR l4), some (vR l5), some (vI l6), some (vI l7), none, none] [vI s0] M := by
  refine RN_k (callX_det _) 3 _ _ _ _ (show R64 sl sx d M0 P 90 [some (vR (some l0)), some (vI l1), some (vI l2), some (vI l3), some (vR l4), some (vR l5), some (vI l6), some (vI l7), some (vI s0), some (vI s0)] [] M from ?_)
  obtain ⟨n2, h⟩ := h
  exact RN_weak (K := [some (vR (some l0)), some (vI l1), some (vI l2), some (vI l3), some (vR l4), some (vR l5), some (vI l6), some (vI l7), none, some (vI s0)]) (callX_det _) (show _ ∧ _ ∧ _ ∧ _ ∧ _ ∧ _ ∧ _ ∧ _ ∧ _ ∧ True from ⟨rfl, rfl, rfl, rfl, rfl, rfl, rfl, rfl, rfl, trivial⟩) (t64_90 hk59 n2 l0 l1 l2 l3 l4 l5 l6 l7 s0 _ hM h)
def w64_59 : Nat → Nat → Int32 → Int32 → Int32 → Option Nat → Option Nat → Int32 → Int32 → MM → (Int32 → MM → Prop) → Prop
  | 0 => fun _ _ _ _ _ _ _ _ _ _ => False
  | n + 1 => fun l0 l1 l2 l3 l4 l5 l6 l7 M P => ∃ a1, l4 = some a1 ∧ (kd M a1 8 ∧ (((mI M a1 1) ≤ (l7 + (1 : Int32)) → (kd M l0 9 ∧ w35 l0 l6 M (fun r3 M2 => P r3 M2))) ∧ (¬ ((mI M a1 1) ≤ (l7 + (1 : Int32))) → ((l1 ≠ l2 → (w64_84 (fun z0 z1 z2 z3 z4 z5 z6 z7 z8 => w64_59  n z0 z1 z2 z3 z4 z5 z6 z7 z8 P) l0 l1 l2 l3 (some a1) l5 l6 l7 (0 : Int32) M P)) ∧ (¬ (l1 ≠ l2) → (w64_84 (fun z0 z1 z2 z3 z4 z5 z6 z7 z8 => w64_59  n z0 z1 z2 z3 z4 z5 z6 z7 z8 P) l0 l1 l2 l3 (some a1) l5 l6 l7 (l7 + (2 : Int32)) M P))))))
theorem t64_59 {sl : Nat} {sx : Nat → Int32} {d : Nat} {M0 : MM} {P : Int32 → MM → Prop} (n : Nat) : ∀ (l0 : Nat) (l1 : Int32) (l2 : Int32) (l3 : Int32) (l4 : Option Nat) (l5 : Option Nat) (l6 : Int32) (l7 : Int32) (M : MM) (_ : lenO M0 M) (_ : w64_59  n l0 l1 l2 l3 l4 l5 l6 l7 M P), R64 sl sx d M0 P 59 [some (vR (some l0)), some (vI l1), some (vI l2), some (vI l3), some (vR l4), some (vR l5), some (vI l6), some (vI l7), none, none] [] M := by
  induction n with
  | zero => intro l0 l1 l2 l3 l4 l5 l6 l7 M hM h; cases h
  | succ n ih =>
    intro l0 l1 l2 l3 l4 l5 l6 l7 M hM h
    obtain ⟨a1, he, h⟩ := h
    refine RN_k (callX_det _) 4 _ _ _ _ (show R64 sl sx d M0 P 65 [some (vR (some l0)), some (vI l1), some (vI l2), some (vI l3), some (vR l4), some (vR l5), some (vI l6), some (vI l7), none, none] [vR l4, vI (l7 + (1 : Int32))] M from ?_)
    subst he
    refine RN_k (callX_det _) 1 _ _ _ _ (show kd M a1 8 ∧ R64 sl sx d M0 P 68 [some (vR (some l0)), some (vI l1), some (vI l2), some (vI l3), some (vR (some a1)), some (vR l5), some (vI l6), some (vI l7), none, none] [vI (mI M a1 1), vI (l7 + (1 : Int32))] M from ⟨h.1, ?_⟩)
    replace h := h.2
    refine RN_k (callX_det _) 1 _ _ _ _ (show ((mI M a1 1) ≤ (l7 + (1 : Int32)) → R64 sl sx d M0 P 149 [some (vR (some l0)), some (vI l1), some (vI l2), some (vI l3), some (vR (some a1)), some (vR l5), some (vI l6), some (vI l7), none, none] [] M) ∧ (¬ ((mI M a1 1) ≤ (l7 + (1 : Int32))) → R64 sl sx d M0 P 71 [some (vR (some l0)), some (vI l1), some (vI l2), some (vI l3), some (vR (some a1)), some (vR l5), some (vI l6), some (vI l7), none, none] [] M) from ⟨fun hc => ?_, fun hc => ?_⟩)
    · replace h := h.1 hc
      refine RN_k (callX_det _) 3 _ _ _ _ (show kd M l0 9 ∧ callX TBg sl sx (d + 4) 35 [vR (some l0), vI l6] M (fun v M9 => R64 sl sx d M0 P 155 [some (vR (some l0)), some (vI l1), some (vI l2), some (vI l3), some (vR (some a1)), some (vR l5), some (vI l6), some (vI l7), none, none] (pushO v []) M9) from ⟨h.1, ?_⟩)
      replace h := h.2
      refine callX_mono (callX_len (d := (d + 4)) rfl rfl rfl (c35 (d := d + 3) h)) ?_
      clear h
      rintro v9 M2 ⟨hl, r3, rfl, h⟩
      replace hM := lenT hM hl
      show R64 sl sx d M0 P 155 [some (vR (some l0)), some (vI l1), some (vI l2), some (vI l3), some (vR (some a1)), some (vR l5), some (vI l6), some (vI l7), none, none] [vI r3] M2
      exact RN_k (callX_det _) 1 _ _ _ _ (show rtW q64 M0 (PI P) (some (vI r3)) M2 from ⟨⟨_, rfl⟩, hM.1, hM.2, _, rfl, h⟩)
    · replace h := h.2 hc
      refine RN_k (callX_det _) 3 _ _ _ _ (show (l1 ≠ l2 → R64 sl sx d M0 P 83 [some (vR (some l0)), some (vI l1), some (vI l2), some (vI l3), some (vR (some a1)), some (vR l5), some (vI l6), some (vI l7), none, none] [] M) ∧ (¬ (l1 ≠ l2) → R64 sl sx d M0 P 76 [some (vR (some l0)), some (vI l1), some (vI l2), some (vI l3), some (vR (some a1)), some (vR l5), some (vI l6), some (vI l7), none, none] [] M) from ⟨fun hc => ?_, fun hc => ?_⟩)
      · replace h := h.1 hc
        refine RN_k (callX_det _) 1 _ _ _ _ (show R64 sl sx d M0 P 84 [some (vR (some l0)), some (vI l1), some (vI l2), some (vI l3), some (vR (some a1)), some (vR l5), some (vI l6), some (vI l7), none, none] [vI (0 : Int32)] M from ?_)
        exact RN_weak (K := [some (vR (some l0)), some (vI l1), some (vI l2), some (vI l3), some (vR (some a1)), some (vR l5), some (vI l6), some (vI l7), none, none]) (callX_det _) (show _ ∧ _ ∧ _ ∧ _ ∧ _ ∧ _ ∧ _ ∧ _ ∧ True from ⟨rfl, rfl, rfl, rfl, rfl, rfl, rfl, rfl, trivial⟩) (t64_84 ih l0 l1 l2 l3 (some a1) l5 l6 l7 (0 : Int32) _ hM h)
      · replace h := h.2 hc
        refine RN_k (callX_det _) 4 _ _ _ _ (show R64 sl sx d M0 P 84 [some (vR (some l0)), some (vI l1), some (vI l2), some (vI l3), some (vR (some a1)), some (vR l5), some (vI l6), some (vI l7), none, none] [vI (l7 + (2 : Int32))] M from ?_)
        exact RN_weak (K := [some (vR (some l0)), some (vI l1), some (vI l2), some (vI l3), some (vR (some a1)), some (vR l5), some (vI l6), some (vI l7), none, none]) (callX_det _) (show _ ∧ _ ∧ _ ∧ _ ∧ _ ∧ _ ∧ _ ∧ _ ∧ True from ⟨rfl, rfl, rfl, rfl, rfl, rfl, rfl, rfl, trivial⟩) (t64_84 ih l0 l1 l2 l3 (some a1) l5 l6 l7 (l7 + (2 : Int32)) _ hM h)
def w64_31 (l0 : Nat) (M : MM) (P : Int32 → MM → Prop) : Prop := kd M l0 9 ∧ w17 l0 (2 : Int32) M (fun r2 M1 => P r2 M1)
theorem t64_31 {sl : Nat} {sx : Nat → Int32} {d : Nat} {M0 : MM} {P : Int32 → MM → Prop} (l0 : Nat) (M : MM) (hM : lenO M0 M) (h : w64_31  l0 M P) : R64 sl sx d M0 P 31 [some (vR (some l0)), none, none, none, none, none, none, none, none, none] [] M := by
  refine RN_k (callX_det _) 3 _ _ _ _ (show kd M l0 9 ∧ callX TBg sl sx (d + 4) 17 [vR (some l0), vI (2 : Int32)] M (fun v M9 => R64 sl sx d M0 P 36 [some (vR (some l0)), none, none, none, none, none, none, none, none, none] (pushO v []) M9) from ⟨h.1, ?_⟩)
  replace h := h.2
  refine callX_mono (callX_len (d := (d + 4)) rfl rfl rfl (c17 (d := d + 3) h)) ?_
  clear h
  rintro v9 M1 ⟨hl, r2, rfl, h⟩
  replace hM := lenT hM hl
  show R64 sl sx d M0 P 36 [some (vR (some l0)), none, none, none, none, none, none, none, none, none] [vI r2] M1
  exact RN_k (callX_det _) 1 _ _ _ _ (show rtW q64 M0 (PI P) (some (vI r2)) M1 from ⟨⟨_, rfl⟩, hM.1, hM.2, _, rfl, h⟩)
def w64 (l0 : Nat) (l1 : Int32) (l2 : Int32) (l3 : Int32) (M : MM) (P : Int32 → MM → Prop) : Prop := (l3 < 0 → (w64_9  l0 M P)) ∧ (¬ (l3 < 0) → ((l3 ≤ (1 : Int32) → (kd M l0 9 ∧ w40 l0 l1 M (fun r2 M1 => (r2 = 0 → (w64_31  l0 M1 P)) ∧ (¬ (r2 = 0) → (kd M1 l0 9 ∧ w40 l0 l2 M1 (fun r4 M3 => (r4 ≠ 0 → (kd M3 l0 9 ∧ (∃ a5, mR M3 l0 5 = some a5 ∧ (inb M3 a5 16 l1 ∧ (kd M3 l0 9 ∧ (∃ a6, mR M3 l0 5 = some a6 ∧ (inb M3 a6 16 l2 ∧ (∃ n2, w64_59  n2 l0 l1 l2 l3 (mR M3 a5 l1.toNatClampNeg) (mR M3 a6 l2.toNatClampNeg) (0 : Int32) (0 : Int32) M3 P)))))))) ∧ (¬ (r4 ≠ 0) → (w64_31  l0 M3 P)))))))) ∧ (¬ (l3 ≤ (1 : Int32)) → (w64_9  l0 M P))))
theorem t64_E {sl : Nat} {sx : Nat → Int32} {d : Nat} {M0 : MM} {P : Int32 → MM → Prop} (l0 : Nat) (l1 : Int32) (l2 : Int32) (l3 : Int32) (M : MM) (hM : lenO M0 M) (h : w64  l0 l1 l2 l3 M P) : R64 sl sx d M0 P 0 [some (vR (some l0)), some (vI l1), some (vI l2), some (vI l3), none, none, none, none, none, none] [] M := by
  refine RN_k (callX_det _) 2 _ _ _ _ (show (l3 < 0 → R64 sl sx d M0 P 9 [some (vR (some l0)), some (vI l1), some (vI l2), some (vI l3), none, none, none, none, none, none] [] M) ∧ (¬ (l3 < 0) → R64 sl sx d M0 P 4 [some (vR (some l0)), some (vI l1), some (vI l2), some (vI l3), none, none, none, none, none, none] [] M) from ⟨fun hc => ?_, fun hc => ?_⟩)
  · replace h := h.1 hc
    exact RN_weak (K := [some (vR (some l0)), none, none, none, none, none, none, none, none, none]) (callX_det _) (show _ ∧ True from ⟨rfl, trivial⟩) (t64_9  l0 _ hM h)
  · replace h := h.2 hc
    refine RN_k (callX_det _) 3 _ _ _ _ (show (l3 ≤ (1 : Int32) → R64 sl sx d M0 P 15 [some (vR (some l0)), some (vI l1), some (vI l2), some (vI l3), none, none, none, none, none, none] [] M) ∧ (¬ (l3 ≤ (1 : Int32)) → R64 sl sx d M0 P 9 [some (vR (some l0)), some (vI l1), some (vI l2), some (vI l3), none, none, none, none, none, none] [] M) from ⟨fun hc => ?_, fun hc => ?_⟩)
    · replace h := h.1 hc
      refine RN_k (callX_det _) 3 _ _ _ _ (show kd M l0 9 ∧ callX TBg sl sx (d + 4) 40 [vR (some l0), vI l1] M (fun v M9 => R64 sl sx d M0 P 20 [some (vR (some l0)), some (vI l1), some (vI l2), some (vI l3), none, none, none, none, none, none] (pushO v []) M9) from ⟨h.1, ?_⟩)
      replace h := h.2
      refine callX_mono (callX_len (d := (d + 4)) rfl rfl rfl (c40 (d := d + 3) h)) ?_
      clear h
      rintro v9 M1 ⟨hl, r2, rfl, h⟩
      replace hM := lenT hM hl
      show R64 sl sx d M0 P 20 [some (vR (some l0)), some (vI l1), some (vI l2), some (vI l3), none, none, none, none, none, none] [vI r2] M1
      refine RN_k (callX_det _) 1 _ _ _ _ (show (r2 = 0 → R64 sl sx d M0 P 31 [some (vR (some l0)), some (vI l1), some (vI l2), some (vI l3), none, none, none, none, none, none] [] M1) ∧ (¬ (r2 = 0) → R64 sl sx d M0 P 23 [some (vR (some l0)), some (vI l1), some (vI l2), some (vI l3), none, none, none, none, none, none] [] M1) from ⟨fun hc => ?_, fun hc => ?_⟩)
      · replace h := h.1 hc
        exact RN_weak (K := [some (vR (some l0)), none, none, none, none, none, none, none, none, none]) (callX_det _) (show _ ∧ True from ⟨rfl, trivial⟩) (t64_31  l0 _ hM h)
      · replace h := h.2 hc
        refine RN_k (callX_det _) 3 _ _ _ _ (show kd M1 l0 9 ∧ callX TBg sl sx (d + 4) 40 [vR (some l0), vI l2] M1 (fun v M9 => R64 sl sx d M0 P 28 [some (vR (some l0)), some (vI l1), some (vI l2), some (vI l3), none, none, none, none, none, none] (pushO v []) M9) from ⟨h.1, ?_⟩)
        replace h := h.2
        refine callX_mono (callX_len (d := (d + 4)) rfl rfl rfl (c40 (d := d + 3) h)) ?_
        clear h
        rintro v9 M3 ⟨hl, r4, rfl, h⟩
        replace hM := lenT hM hl
        show R64 sl sx d M0 P 28 [some (vR (some l0)), some (vI l1), some (vI l2), some (vI l3), none, none, none, none, none, none] [vI r4] M3
        refine RN_k (callX_det _) 1 _ _ _ _ (show (r4 ≠ 0 → R64 sl sx d M0 P 37 [some (vR (some l0)), some (vI l1), some (vI l2), some (vI l3), none, none, none, none, none, none] [] M3) ∧ (¬ (r4 ≠ 0) → R64 sl sx d M0 P 31 [some (vR (some l0)), some (vI l1), some (vI l2), some (vI l3), none, none, none, none, none, none] [] M3) from ⟨fun hc => ?_, fun hc => ?_⟩)
        · replace h := h.1 hc
          refine RN_k (callX_det _) 2 _ _ _ _ (show kd M3 l0 9 ∧ R64 sl sx d M0 P 41 [some (vR (some l0)), some (vI l1), some (vI l2), some (vI l3), none, none, none, none, none, none] [vR (mR M3 l0 5)] M3 from ⟨h.1, ?_⟩)
          replace h := h.2
          obtain ⟨a5, he, h⟩ := h
          refine RN_k (callX_det _) 1 _ _ _ _ (show R64 sl sx d M0 P 42 [some (vR (some l0)), some (vI l1), some (vI l2), some (vI l3), none, none, none, none, none, none] [vI l1, vR (mR M3 l0 5)] M3 from ?_)
          rw [he]
          refine RN_k (callX_det _) 1 _ _ _ _ (show inb M3 a5 16 l1 ∧ R64 sl sx d M0 P 43 [some (vR (some l0)), some (vI l1), some (vI l2), some (vI l3), none, none, none, none, none, none] [vR (mR M3 a5 l1.toNatClampNeg)] M3 from ⟨h.1, ?_⟩)
          replace h := h.2
          refine RN_k (callX_det _) 3 _ _ _ _ (show kd M3 l0 9 ∧ R64 sl sx d M0 P 49 [some (vR (some l0)), some (vI l1), some (vI l2), some (vI l3), some (vR (mR M3 a5 l1.toNatClampNeg)), none, none, none, none, none] [vR (mR M3 l0 5)] M3 from ⟨h.1, ?_⟩)
          replace h := h.2
          obtain ⟨a6, he, h⟩ := h
          refine RN_k (callX_det _) 1 _ _ _ _ (show R64 sl sx d M0 P 50 [some (vR (some l0)), some (vI l1), some (vI l2), some (vI l3), some (vR (mR M3 a5 l1.toNatClampNeg)), none, none, none, none, none] [vI l2, vR (mR M3 l0 5)] M3 from ?_)
          rw [he]
          refine RN_k (callX_det _) 1 _ _ _ _ (show inb M3 a6 16 l2 ∧ R64 sl sx d M0 P 51 [some (vR (some l0)), some (vI l1), some (vI l2), some (vI l3), some (vR (mR M3 a5 l1.toNatClampNeg)), none, none, none, none, none] [vR (mR M3 a6 l2.toNatClampNeg)] M3 from ⟨h.1, ?_⟩)
          replace h := h.2
          refine RN_k (callX_det _) 5 _ _ _ _ (show R64 sl sx d M0 P 59 [some (vR (some l0)), some (vI l1), some (vI l2), some (vI l3), some (vR (mR M3 a5 l1.toNatClampNeg)), some (vR (mR M3 a6 l2.toNatClampNeg)), some (vI (0 : Int32)), some (vI (0 : Int32)), none, none] [] M3 from ?_)
          obtain ⟨n2, h⟩ := h
          exact RN_weak (K := [some (vR (some l0)), some (vI l1), some (vI l2), some (vI l3), some (vR (mR M3 a5 l1.toNatClampNeg)), some (vR (mR M3 a6 l2.toNatClampNeg)), some (vI (0 : Int32)), some (vI (0 : Int32)), none, none]) (callX_det _) (show _ ∧ _ ∧ _ ∧ _ ∧ _ ∧ _ ∧ _ ∧ _ ∧ True from ⟨rfl, rfl, rfl, rfl, rfl, rfl, rfl, rfl, trivial⟩) (t64_59  n2 l0 l1 l2 l3 (mR M3 a5 l1.toNatClampNeg) (mR M3 a6 l2.toNatClampNeg) (0 : Int32) (0 : Int32) _ hM h)
        · replace h := h.2 hc
          exact RN_weak (K := [some (vR (some l0)), none, none, none, none, none, none, none, none, none]) (callX_det _) (show _ ∧ True from ⟨rfl, trivial⟩) (t64_31  l0 _ hM h)
    · replace h := h.2 hc
      exact RN_weak (K := [some (vR (some l0)), none, none, none, none, none, none, none, none, none]) (callX_det _) (show _ ∧ True from ⟨rfl, trivial⟩) (t64_9  l0 _ hM h)
theorem c64 {sl : Nat} {sx : Nat → Int32} {d : Nat} {l0 : Nat} {l1 : Int32} {l2 : Int32} {l3 : Int32} {M : MM} {P : Int32 → MM → Prop} (h : w64 l0 l1 l2 l3 M P) : callX TBg sl sx (d + 5) 64 [vR (some l0), vI l1, vI l2, vI l3] M (PI P) :=
  cX (d := d + 4) q64 (false, tb64) rfl rfl rfl (t64_E l0 l1 l2 l3 M lenR h)
-- TwoLeash$Track.bendAt(I)I
abbrev q72 : MQ7 := (2, 1, 5, 8, 0, 0, 1)
abbrev R72 (sl : Nat) (sx : Nat → Int32) (d : Nat) (M0 : MM) (P : Int32 → MM → Prop) : Nat → LL → List VV → MM → Prop := RN 8 false (mS M0).length (mT M0) 0 0 sl sx (callX TBg sl sx (d + 2)) (rtW q72 M0 (PI P)) (as2 tb72)
def w72_25 (s0 : Int32) (M : MM) (P : Int32 → MM → Prop) : Prop := P s0 M
theorem t72_25 {sl : Nat} {sx : Nat → Int32} {d : Nat} {M0 : MM} {P : Int32 → MM → Prop} (s0 : Int32) (M : MM) (hM : lenO M0 M) (h : w72_25  s0 M P) : R72 sl sx d M0 P 25 [none, none, none, none, none] [vI s0] M := by
  exact RN_k (callX_det _) 1 _ _ _ _ (show rtW q72 M0 (PI P) (some (vI s0)) M from ⟨⟨_, rfl⟩, hM.1, hM.2, _, rfl, h⟩)
def w72_103 (s0 : Int32) (M : MM) (P : Int32 → MM → Prop) : Prop := P s0 M
theorem t72_103 {sl : Nat} {sx : Nat → Int32} {d : Nat} {M0 : MM} {P : Int32 → MM → Prop} (s0 : Int32) (M : MM) (hM : lenO M0 M) (h : w72_103  s0 M P) : R72 sl sx d M0 P 103 [none, none, none, none, none] [vI s0] M := by
  exact RN_k (callX_det _) 1 _ _ _ _ (show rtW q72 M0 (PI P) (some (vI s0)) M from ⟨⟨_, rfl⟩, hM.1, hM.2, _, rfl, h⟩)
def w72 (l0 : Nat) (l1 : Int32) (M : MM) (P : Int32 → MM → Prop) : Prop := kd M l0 8 ∧ w66 l0 (l1 - (1 : Int32)) (some l0) (l1 + (1 : Int32)) M (fun r2 M1 => (r2 = 0 → (kd M1 l0 8 ∧ (∃ a3, mR M1 l0 2 = some a3 ∧ (inb M1 a3 11 l1 ∧ (kd M1 l0 8 ∧ (∃ a4, mR M1 l0 2 = some a4 ∧ (inb M1 a4 11 (l1 - (1 : Int32)) ∧ (kd M1 l0 8 ∧ (∃ a5, mR M1 l0 2 = some a5 ∧ (inb M1 a5 11 (l1 + (1 : Int32)) ∧ (kd M1 l0 8 ∧ (∃ a6, mR M1 l0 2 = some a6 ∧ (inb M1 a6 11 l1 ∧ (kd M1 l0 8 ∧ (∃ a7, mR M1 l0 3 = some a7 ∧ (inb M1 a7 11 l1 ∧ (kd M1 l0 8 ∧ (∃ a8, mR M1 l0 3 = some a8 ∧ (inb M1 a8 11 (l1 - (1 : Int32)) ∧ (kd M1 l0 8 ∧ (∃ a9, mR M1 l0 3 = some a9 ∧ (inb M1 a9 11 (l1 + (1 : Int32)) ∧ (kd M1 l0 8 ∧ (∃ a10, mR M1 l0 3 = some a10 ∧ (inb M1 a10 11 l1 ∧ ((((((mI M1 a3 l1.toNatClampNeg) - (mI M1 a4 (l1 - (1 : Int32)).toNatClampNeg)) * ((mI M1 a5 (l1 + (1 : Int32)).toNatClampNeg) - (mI M1 a6 l1.toNatClampNeg))) + (((mI M1 a7 l1.toNatClampNeg) - (mI M1 a8 (l1 - (1 : Int32)).toNatClampNeg)) * ((mI M1 a9 (l1 + (1 : Int32)).toNatClampNeg) - (mI M1 a10 l1.toNatClampNeg)))) ≤ 0 → (w72_103  (3 : Int32) M1 P)) ∧ (¬ (((((mI M1 a3 l1.toNatClampNeg) - (mI M1 a4 (l1 - (1 : Int32)).toNatClampNeg)) * ((mI M1 a5 (l1 + (1 : Int32)).toNatClampNeg) - (mI M1 a6 l1.toNatClampNeg))) + (((mI M1 a7 l1.toNatClampNeg) - (mI M1 a8 (l1 - (1 : Int32)).toNatClampNeg)) * ((mI M1 a9 (l1 + (1 : Int32)).toNatClampNeg) - (mI M1 a10 l1.toNatClampNeg)))) ≤ 0) → (w72_103  (2 : Int32) M1 P)))))))))))))))))))))))))))) ∧ (¬ (r2 = 0) → ((r2 ≤ 0 → (w72_25  (1 : Int32) M1 P)) ∧ (¬ (r2 ≤ 0) → (w72_25  (0 : Int32) M1 P)))))
theorem t72_E {sl : Nat} {sx : Nat → Int32} {d : Nat} {M0 : MM} {P : Int32 → MM → Prop} (l0 : Nat) (l1 : Int32) (M : MM) (hM : lenO M0 M) (h : w72  l0 l1 M P) : R72 sl sx d M0 P 0 [some (vR (some l0)), some (vI l1), none, none, none] [] M := by
  refine RN_k (callX_det _) 9 _ _ _ _ (show kd M l0 8 ∧ callX TBg sl sx (d + 2) 66 [vR (some l0), vI (l1 - (1 : Int32)), vR (some l0), vI (l1 + (1 : Int32))] M (fun v M9 => R72 sl sx d M0 P 11 [some (vR (some l0)), some (vI l1), none, none, none] (pushO v []) M9) from ⟨h.1, ?_⟩)
  replace h := h.2
  refine callX_mono (callX_len (d := (d + 2)) rfl rfl rfl (c66 (d := d) h)) ?_
  clear h
  rintro v9 M1 ⟨hl, r2, rfl, h⟩
  replace hM := lenT hM hl
  show R72 sl sx d M0 P 11 [some (vR (some l0)), some (vI l1), none, none, none] [vI r2] M1
  refine RN_k (callX_det _) 3 _ _ _ _ (show (r2 = 0 → R72 sl sx d M0 P 26 [some (vR (some l0)), some (vI l1), some (vI r2), none, none] [] M1) ∧ (¬ (r2 = 0) → R72 sl sx d M0 P 16 [some (vR (some l0)), some (vI l1), some (vI r2), none, none] [] M1) from ⟨fun hc => ?_, fun hc => ?_⟩)
  · replace h := h.1 hc
    refine RN_k (callX_det _) 2 _ _ _ _ (show kd M1 l0 8 ∧ R72 sl sx d M0 P 30 [some (vR (some l0)), some (vI l1), some (vI r2), none, none] [vR (mR M1 l0 2)] M1 from ⟨h.1, ?_⟩)
    replace h := h.2
    obtain ⟨a3, he, h⟩ := h
    refine RN_k (callX_det _) 1 _ _ _ _ (show R72 sl sx d M0 P 31 [some (vR (some l0)), some (vI l1), some (vI r2), none, none] [vI l1, vR (mR M1 l0 2)] M1 from ?_)
    rw [he]
    refine RN_k (callX_det _) 1 _ _ _ _ (show inb M1 a3 11 l1 ∧ R72 sl sx d M0 P 32 [some (vR (some l0)), some (vI l1), some (vI r2), none, none] [vI (mI M1 a3 l1.toNatClampNeg)] M1 from ⟨h.1, ?_⟩)
    replace h := h.2
    refine RN_k (callX_det _) 2 _ _ _ _ (show kd M1 l0 8 ∧ R72 sl sx d M0 P 36 [some (vR (some l0)), some (vI l1), some (vI r2), none, none] [vR (mR M1 l0 2), vI (mI M1 a3 l1.toNatClampNeg)] M1 from ⟨h.1, ?_⟩)
    replace h := h.2
    obtain ⟨a4, he, h⟩ := h
    refine RN_k (callX_det _) 3 _ _ _ _ (show R72 sl sx d M0 P 39 [some (vR (some l0)), some (vI l1), some (vI r2), none, none] [vI (l1 - (1 : Int32)), vR (mR M1 l0 2), vI (mI M1 a3 l1.toNatClampNeg)] M1 from ?_)
    rw [he]
    refine RN_k (callX_det _) 1 _ _ _ _ (show inb M1 a4 11 (l1 - (1 : Int32)) ∧ R72 sl sx d M0 P 40 [some (vR (some l0)), some (vI l1), some (vI r2), none, none] [vI (mI M1 a4 (l1 - (1 : Int32)).toNatClampNeg), vI (mI M1 a3 l1.toNatClampNeg)] M1 from ⟨h.1, ?_⟩)
    replace h := h.2
    refine RN_k (callX_det _) 3 _ _ _ _ (show kd M1 l0 8 ∧ R72 sl sx d M0 P 45 [some (vR (some l0)), some (vI l1), some (vI r2), none, none] [vR (mR M1 l0 2), vI ((mI M1 a3 l1.toNatClampNeg) - (mI M1 a4 (l1 - (1 : Int32)).toNatClampNeg))] M1 from ⟨h.1, ?_⟩)
    replace h := h.2
    obtain ⟨a5, he, h⟩ := h
    refine RN_k (callX_det _) 3 _ _ _ _ (show R72 sl sx d M0 P 48 [some (vR (some l0)), some (vI l1), some (vI r2), none, none] [vI (l1 + (1 : Int32)), vR (mR M1 l0 2), vI ((mI M1 a3 l1.toNatClampNeg) - (mI M1 a4 (l1 - (1 : Int32)).toNatClampNeg))] M1 from ?_)
    rw [he]
    refine RN_k (callX_det _) 1 _ _ _ _ (show inb M1 a5 11 (l1 + (1 : Int32)) ∧ R72 sl sx d M0 P 49 [some (vR (some l0)), some (vI l1), some (vI r2), none, none] [vI (mI M1 a5 (l1 + (1 : Int32)).toNatClampNeg), vI ((mI M1 a3 l1.toNatClampNeg) - (mI M1 a4 (l1 - (1 : Int32)).toNatClampNeg))] M1 from ⟨h.1, ?_⟩)
    replace h := h.2
    refine RN_k (callX_det _) 2 _ _ _ _ (show kd M1 l0 8 ∧ R72 sl sx d M0 P 53 [some (vR (some l0)), some (vI l1), some (vI r2), none, none] [vR (mR M1 l0 2), vI (mI M1 a5 (l1 + (1 : Int32)).toNatClampNeg), vI ((mI M1 a3 l1.toNatClampNeg) - (mI M1 a4 (l1 - (1 : Int32)).toNatClampNeg))] M1 from ⟨h.1, ?_⟩)
    replace h := h.2
    obtain ⟨a6, he, h⟩ := h
    refine RN_k (callX_det _) 1 _ _ _ _ (show R72 sl sx d M0 P 54 [some (vR (some l0)), some (vI l1), some (vI r2), none, none] [vI l1, vR (mR M1 l0 2), vI (mI M1 a5 (l1 + (1 : Int32)).toNatClampNeg), vI ((mI M1 a3 l1.toNatClampNeg) - (mI M1 a4 (l1 - (1 : Int32)).toNatClampNeg))] M1 from ?_)
    rw [he]
    refine RN_k (callX_det _) 1 _ _ _ _ (show inb M1 a6 11 l1 ∧ R72 sl sx d M0 P 55 [some (vR (some l0)), some (vI l1), some (vI r2), none, none] [vI (mI M1 a6 l1.toNatClampNeg), vI (mI M1 a5 (l1 + (1 : Int32)).toNatClampNeg), vI ((mI M1 a3 l1.toNatClampNeg) - (mI M1 a4 (l1 - (1 : Int32)).toNatClampNeg))] M1 from ⟨h.1, ?_⟩)
    replace h := h.2
    refine RN_k (callX_det _) 5 _ _ _ _ (show kd M1 l0 8 ∧ R72 sl sx d M0 P 62 [some (vR (some l0)), some (vI l1), some (vI r2), some (vI (((mI M1 a3 l1.toNatClampNeg) - (mI M1 a4 (l1 - (1 : Int32)).toNatClampNeg)) * ((mI M1 a5 (l1 + (1 : Int32)).toNatClampNeg) - (mI M1 a6 l1.toNatClampNeg)))), none] [vR (mR M1 l0 3)] M1 from ⟨h.1, ?_⟩)
    replace h := h.2
    obtain ⟨a7, he, h⟩ := h
    refine RN_k (callX_det _) 1 _ _ _ _ (show R72 sl sx d M0 P 63 [some (vR (some l0)), some (vI l1), some (vI r2), some (vI (((mI M1 a3 l1.toNatClampNeg) - (mI M1 a4 (l1 - (1 : Int32)).toNatClampNeg)) * ((mI M1 a5 (l1 + (1 : Int32)).toNatClampNeg) - (mI M1 a6 l1.toNatClampNeg)))), none] [vI l1, vR (mR M1 l0 3)] M1 from ?_)
    rw [he]
    refine RN_k (callX_det _) 1 _ _ _ _ (show inb M1 a7 11 l1 ∧ R72 sl sx d M0 P 64 [some (vR (some l0)), some (vI l1), some (vI r2), some (vI (((mI M1 a3 l1.toNatClampNeg) - (mI M1 a4 (l1 - (1 : Int32)).toNatClampNeg)) * ((mI M1 a5 (l1 + (1 : Int32)).toNatClampNeg) - (mI M1 a6 l1.toNatClampNeg)))), none] [vI (mI M1 a7 l1.toNatClampNeg)] M1 from ⟨h.1, ?_⟩)
    replace h := h.2
    refine RN_k (callX_det _) 2 _ _ _ _ (show kd M1 l0 8 ∧ R72 sl sx d M0 P 68 [some (vR (some l0)), some (vI l1), some (vI r2), some (vI (((mI M1 a3 l1.toNatClampNeg) - (mI M1 a4 (l1 - (1 : Int32)).toNatClampNeg)) * ((mI M1 a5 (l1 + (1 : Int32)).toNatClampNeg) - (mI M1 a6 l1.toNatClampNeg)))), none] [vR (mR M1 l0 3), vI (mI M1 a7 l1.toNatClampNeg)] M1 from ⟨h.1, ?_⟩)
    replace h := h.2
    obtain ⟨a8, he, h⟩ := h
    refine RN_k (callX_det _) 3 _ _ _ _ (show R72 sl sx d M0 P 71 [some (vR (some l0)), some (vI l1), some (vI r2), some (vI (((mI M1 a3 l1.toNatClampNeg) - (mI M1 a4 (l1 - (1 : Int32)).toNatClampNeg)) * ((mI M1 a5 (l1 + (1 : Int32)).toNatClampNeg) - (mI M1 a6 l1.toNatClampNeg)))), none] [vI (l1 - (1 : Int32)), vR (mR M1 l0 3), vI (mI M1 a7 l1.toNatClampNeg)] M1 from ?_)
    rw [he]
    refine RN_k (callX_det _) 1 _ _ _ _ (show inb M1 a8 11 (l1 - (1 : Int32)) ∧ R72 sl sx d M0 P 72 [some (vR (some l0)), some (vI l1), some (vI r2), some (vI (((mI M1 a3 l1.toNatClampNeg) - (mI M1 a4 (l1 - (1 : Int32)).toNatClampNeg)) * ((mI M1 a5 (l1 + (1 : Int32)).toNatClampNeg) - (mI M1 a6 l1.toNatClampNeg)))), none] [vI (mI M1 a8 (l1 - (1 : Int32)).toNatClampNeg), vI (mI M1 a7 l1.toNatClampNeg)] M1 from ⟨h.1, ?_⟩)
    replace h := h.2
    refine RN_k (callX_det _) 3 _ _ _ _ (show kd M1 l0 8 ∧ R72 sl sx d M0 P 77 [some (vR (some l0)), some (vI l1), some (vI r2), some (vI (((mI M1 a3 l1.toNatClampNeg) - (mI M1 a4 (l1 - (1 : Int32)).toNatClampNeg)) * ((mI M1 a5 (l1 + (1 : Int32)).toNatClampNeg) - (mI M1 a6 l1.toNatClampNeg)))), none] [vR (mR M1 l0 3), vI ((mI M1 a7 l1.toNatClampNeg) - (mI M1 a8 (l1 - (1 : Int32)).toNatClampNeg))] M1 from ⟨h.1, ?_⟩)
    replace h := h.2
    obtain ⟨a9, he, h⟩ := h
    refine RN_k (callX_det _) 3 _ _ _ _ (show R72 sl sx d M0 P 80 [some (vR (some l0)), some (vI l1), some (vI r2), some (vI (((mI M1 a3 l1.toNatClampNeg) - (mI M1 a4 (l1 - (1 : Int32)).toNatClampNeg)) * ((mI M1 a5 (l1 + (1 : Int32)).toNatClampNeg) - (mI M1 a6 l1.toNatClampNeg)))), none] [vI (l1 + (1 : Int32)), vR (mR M1 l0 3), vI ((mI M1 a7 l1.toNatClampNeg) - (mI M1 a8 (l1 - (1 : Int32)).toNatClampNeg))] M1 from ?_)
    rw [he]
    refine RN_k (callX_det _) 1 _ _ _ _ (show inb M1 a9 11 (l1 + (1 : Int32)) ∧ R72 sl sx d M0 P 81 [some (vR (some l0)), some (vI l1), some (vI r2), some (vI (((mI M1 a3 l1.toNatClampNeg) - (mI M1 a4 (l1 - (1 : Int32)).toNatClampNeg)) * ((mI M1 a5 (l1 + (1 : Int32)).toNatClampNeg) - (mI M1 a6 l1.toNatClampNeg)))), none] [vI (mI M1 a9 (l1 + (1 : Int32)).toNatClampNeg), vI ((mI M1 a7 l1.toNatClampNeg) - (mI M1 a8 (l1 - (1 : Int32)).toNatClampNeg))] M1 from ⟨h.1, ?_⟩)
    replace h := h.2
    refine RN_k (callX_det _) 2 _ _ _ _ (show kd M1 l0 8 ∧ R72 sl sx d M0 P 85 [some (vR (some l0)), some (vI l1), some (vI r2), some (vI (((mI M1 a3 l1.toNatClampNeg) - (mI M1 a4 (l1 - (1 : Int32)).toNatClampNeg)) * ((mI M1 a5 (l1 + (1 : Int32)).toNatClampNeg) - (mI M1 a6 l1.toNatClampNeg)))), none] [vR (mR M1 l0 3), vI (mI M1 a9 (l1 + (1 : Int32)).toNatClampNeg), vI ((mI M1 a7 l1.toNatClampNeg) - (mI M1 a8 (l1 - (1 : Int32)).toNatClampNeg))] M1 from ⟨h.1, ?_⟩)
    replace h := h.2
    obtain ⟨a10, he, h⟩ := h
    refine RN_k (callX_det _) 1 _ _ _ _ (show R72 sl sx d M0 P 86 [some (vR (some l0)), some (vI l1), some (vI r2), some (vI (((mI M1 a3 l1.toNatClampNeg) - (mI M1 a4 (l1 - (1 : Int32)).toNatClampNeg)) * ((mI M1 a5 (l1 + (1 : Int32)).toNatClampNeg) - (mI M1 a6 l1.toNatClampNeg)))), none] [vI l1, vR (mR M1 l0 3), vI (mI M1 a9 (l1 + (1 : Int32)).toNatClampNeg), vI ((mI M1 a7 l1.toNatClampNeg) - (mI M1 a8 (l1 - (1 : Int32)).toNatClampNeg))] M1 from ?_)
    rw [he]
    refine RN_k (callX_det _) 1 _ _ _ _ (show inb M1 a10 11 l1 ∧ R72 sl sx d M0 P 87 [some (vR (some l0)), some (vI l1), some (vI r2), some (vI (((mI M1 a3 l1.toNatClampNeg) - (mI M1 a4 (l1 - (1 : Int32)).toNatClampNeg)) * ((mI M1 a5 (l1 + (1 : Int32)).toNatClampNeg) - (mI M1 a6 l1.toNatClampNeg)))), none] [vI (mI M1 a10 l1.toNatClampNeg), vI (mI M1 a9 (l1 + (1 : Int32)).toNatClampNeg), vI ((mI M1 a7 l1.toNatClampNeg) - (mI M1 a8 (l1 - (1 : Int32)).toNatClampNeg))] M1 from ⟨h.1, ?_⟩)
    replace h := h.2
    refine RN_k (callX_det _) 7 _ _ _ _ (show (((((mI M1 a3 l1.toNatClampNeg) - (mI M1 a4 (l1 - (1 : Int32)).toNatClampNeg)) * ((mI M1 a5 (l1 + (1 : Int32)).toNatClampNeg) - (mI M1 a6 l1.toNatClampNeg))) + (((mI M1 a7 l1.toNatClampNeg) - (mI M1 a8 (l1 - (1 : Int32)).toNatClampNeg)) * ((mI M1 a9 (l1 + (1 : Int32)).toNatClampNeg) - (mI M1 a10 l1.toNatClampNeg)))) ≤ 0 → R72 sl sx d M0 P 102 [some (vR (some l0)), some (vI l1), some (vI r2), some (vI (((mI M1 a3 l1.toNatClampNeg) - (mI M1 a4 (l1 - (1 : Int32)).toNatClampNeg)) * ((mI M1 a5 (l1 + (1 : Int32)).toNatClampNeg) - (mI M1 a6 l1.toNatClampNeg)))), some (vI (((mI M1 a7 l1.toNatClampNeg) - (mI M1 a8 (l1 - (1 : Int32)).toNatClampNeg)) * ((mI M1 a9 (l1 + (1 : Int32)).toNatClampNeg) - (mI M1 a10 l1.toNatClampNeg))))] [] M1) ∧ (¬ (((((mI M1 a3 l1.toNatClampNeg) - (mI M1 a4 (l1 - (1 : Int32)).toNatClampNeg)) * ((mI M1 a5 (l1 + (1 : Int32)).toNatClampNeg) - (mI M1 a6 l1.toNatClampNeg))) + (((mI M1 a7 l1.toNatClampNeg) - (mI M1 a8 (l1 - (1 : Int32)).toNatClampNeg)) * ((mI M1 a9 (l1 + (1 : Int32)).toNatClampNeg) - (mI M1 a10 l1.toNatClampNeg)))) ≤ 0) → R72 sl sx d M0 P 98 [some (vR (some l0)), some (vI l1), some (vI r2), some (vI (((mI M1 a3 l1.toNatClampNeg) - (mI M1 a4 (l1 - (1 : Int32)).toNatClampNeg)) * ((mI M1 a5 (l1 + (1 : Int32)).toNatClampNeg) - (mI M1 a6 l1.toNatClampNeg)))), some (vI (((mI M1 a7 l1.toNatClampNeg) - (mI M1 a8 (l1 - (1 : Int32)).toNatClampNeg)) * ((mI M1 a9 (l1 + (1 : Int32)).toNatClampNeg) - (mI M1 a10 l1.toNatClampNeg))))] [] M1) from ⟨fun hc => ?_, fun hc => ?_⟩)
    · replace h := h.1 hc
      refine RN_k (callX_det _) 1 _ _ _ _ (show R72 sl sx d M0 P 103 [some (vR (some l0)), some (vI l1), some (vI r2), some (vI (((mI M1 a3 l1.toNatClampNeg) - (mI M1 a4 (l1 - (1 : Int32)).toNatClampNeg)) * ((mI M1 a5 (l1 + (1 : Int32)).toNatClampNeg) - (mI M1 a6 l1.toNatClampNeg)))), some (vI (((mI M1 a7 l1.toNatClampNeg) - (mI M1 a8 (l1 - (1 : Int32)).toNatClampNeg)) * ((mI M1 a9 (l1 + (1 : Int32)).toNatClampNeg) - (mI M1 a10 l1.toNatClampNeg))))] [vI (3 : Int32)] M1 from ?_)
      exact RN_weak (K := [none, none, none, none, none]) (callX_det _) (show True from trivial) (t72_103  (3 : Int32) _ hM h)
    · replace h := h.2 hc
      refine RN_k (callX_det _) 2 _ _ _ _ (show R72 sl sx d M0 P 103 [some (vR (some l0)), some (vI l1), some (vI r2), some (vI (((mI M1 a3 l1.toNatClampNeg) - (mI M1 a4 (l1 - (1 : Int32)).toNatClampNeg)) * ((mI M1 a5 (l1 + (1 : Int32)).toNatClampNeg) - (mI M1 a6 l1.toNatClampNeg)))), some (vI (((mI M1 a7 l1.toNatClampNeg) - (mI M1 a8 (l1 - (1 : Int32)).toNatClampNeg)) * ((mI M1 a9 (l1 + (1 : Int32)).toNatClampNeg) - (mI M1 a10 l1.toNatClampNeg))))] [vI (2 : Int32)] M1 from ?_)
      exact RN_weak (K := [none, none, none, none, none]) (callX_det _) (show True from trivial) (t72_103  (2 : Int32) _ hM h)
  · replace h := h.2 hc
    refine RN_k (callX_det _) 2 _ _ _ _ (show (r2 ≤ 0 → R72 sl sx d M0 P 24 [some (vR (some l0)), some (vI l1), some (vI r2), none, none] [] M1) ∧ (¬ (r2 ≤ 0) → R72 sl sx d M0 P 20 [some (vR (some l0)), some (vI l1), some (vI r2), none, none] [] M1) from ⟨fun hc => ?_, fun hc => ?_⟩)
    · replace h := h.1 hc
      refine RN_k (callX_det _) 1 _ _ _ _ (show R72 sl sx d M0 P 25 [some (vR (some l0)), some (vI l1), some (vI r2), none, none] [vI (1 : Int32)] M1 from ?_)
      exact RN_weak (K := [none, none, none, none, none]) (callX_det _) (show True from trivial) (t72_25  (1 : Int32) _ hM h)
    · replace h := h.2 hc
      refine RN_k (callX_det _) 2 _ _ _ _ (show R72 sl sx d M0 P 25 [some (vR (some l0)), some (vI l1), some (vI r2), none, none] [vI (0 : Int32)] M1 from ?_)
      exact RN_weak (K := [none, none, none, none, none]) (callX_det _) (show True from trivial) (t72_25  (0 : Int32) _ hM h)
theorem c72 {sl : Nat} {sx : Nat → Int32} {d : Nat} {l0 : Nat} {l1 : Int32} {M : MM} {P : Int32 → MM → Prop} (h : w72 l0 l1 M P) : callX TBg sl sx (d + 3) 72 [vR (some l0), vI l1] M (PI P) :=
  cX (d := d + 2) q72 (false, tb72) rfl rfl rfl (t72_E l0 l1 M lenR h)
-- TwoLeash.bends(II)I
abbrev q71 : MQ7 := (3, 1, 5, 9, 0, 0, 1)
abbrev R71 (sl : Nat) (sx : Nat → Int32) (d : Nat) (M0 : MM) (P : Int32 → MM → Prop) : Nat → LL → List VV → MM → Prop := RN 9 false (mS M0).length (mT M0) 0 0 sl sx (callX TBg sl sx (d + 3)) (rtW q71 M0 (PI P)) (as2 tb71)
def w71_9 (l0 : Nat) (M : MM) (P : Int32 → MM → Prop) : Prop := kd M l0 9 ∧ w17 l0 (1 : Int32) M (fun r2 M1 => P r2 M1)
theorem t71_9 {sl : Nat} {sx : Nat → Int32} {d : Nat} {M0 : MM} {P : Int32 → MM → Prop} (l0 : Nat) (M : MM) (hM : lenO M0 M) (h : w71_9  l0 M P) : R71 sl sx d M0 P 9 [some (vR (some l0)), none, none, none, none] [] M := by
  refine RN_k (callX_det _) 3 _ _ _ _ (show kd M l0 9 ∧ callX TBg sl sx (d + 3) 17 [vR (some l0), vI (1 : Int32)] M (fun v M9 => R71 sl sx d M0 P 14 [some (vR (some l0)), none, none, none, none] (pushO v []) M9) from ⟨h.1, ?_⟩)
  replace h := h.2
  refine callX_mono (callX_len (d := (d + 3)) rfl rfl rfl (c17 (d := d + 2) h)) ?_
  clear h
  rintro v9 M1 ⟨hl, r2, rfl, h⟩
  replace hM := lenT hM hl
  show R71 sl sx d M0 P 14 [some (vR (some l0)), none, none, none, none] [vI r2] M1
  exact RN_k (callX_det _) 1 _ _ _ _ (show rtW q71 M0 (PI P) (some (vI r2)) M1 from ⟨⟨_, rfl⟩, hM.1, hM.2, _, rfl, h⟩)
def w71_68 (k34 : Nat → Int32 → Int32 → Int32 → Int32 → MM → Prop) (l0 : Nat) (l1 : Int32) (l2 : Int32) (l3 : Int32) (l4 : Int32) (M : MM) (P : Int32 → MM → Prop) : Prop := k34 l0 l1 l2 l3 (l4 + (1 : Int32)) M
theorem t71_68 {sl : Nat} {sx : Nat → Int32} {d : Nat} {M0 : MM} {P : Int32 → MM → Prop} {k34 : Nat → Int32 → Int32 → Int32 → Int32 → MM → Prop} (hk34 : ∀ (l0 : Nat) (l1 : Int32) (l2 : Int32) (l3 : Int32) (l4 : Int32) (M : MM), lenO M0 M → k34 l0 l1 l2 l3 l4 M → R71 sl sx d M0 P 34 [some (vR (some l0)), some (vI l1), some (vI l2), some (vI l3), some (vI l4)] [] M) (l0 : Nat) (l1 : Int32) (l2 : Int32) (l3 : Int32) (l4 : Int32) (M : MM) (hM : lenO M0 M) (h : w71_68 k34 l0 l1 l2 l3 l4 M P) : R71 sl sx d M0 P 68 [some (vR (some l0)), some (vI l1), some (vI l2), some (vI l3), some (vI l4)] [] M := by
  refine RN_k (callX_det _) 2 _ _ _ _ (show R71 sl sx d M0 P 34 [some (vR (some l0)), some (vI l1), some (vI l2), some (vI l3), some (vI (l4 + (1 : Int32)))] [] M from ?_)
  exact RN_weak (K := [some (vR (some l0)), some (vI l1), some (vI l2), some (vI l3), some (vI (l4 + (1 : Int32)))]) (callX_det _) (show _ ∧ _ ∧ _ ∧ _ ∧ _ ∧ True from ⟨rfl, rfl, rfl, rfl, rfl, trivial⟩) (hk34 l0 l1 l2 l3 (l4 + (1 : Int32)) _ hM h)
def w71_34 : Nat → Nat → Int32 → Int32 → Int32 → Int32 → MM → (Int32 → MM → Prop) → Prop
  | 0 => fun _ _ _ _ _ _ _ => False
  | n + 1 => fun l0 l1 l2 l3 l4 M P => kd M l0 9 ∧ (∃ a1, mR M l0 5 = some a1 ∧ (inb M a1 16 l1 ∧ (∃ a2, mR M a1 l1.toNatClampNeg = some a2 ∧ (kd M a2 8 ∧ (((mI M a2 1) ≤ (l4 + (1 : Int32)) → (kd M l0 9 ∧ w35 l0 l3 M (fun r4 M3 => P r4 M3))) ∧ (¬ ((mI M a2 1) ≤ (l4 + (1 : Int32))) → (kd M l0 9 ∧ (∃ a5, mR M l0 5 = some a5 ∧ (inb M a5 16 l1 ∧ (∃ a6, mR M a5 l1.toNatClampNeg = some a6 ∧ (kd M a6 8 ∧ w72 a6 l4 M (fun r8 M7 => (r8 ≠ l2 → (w71_68 (fun z0 z1 z2 z3 z4 z5 => w71_34  n z0 z1 z2 z3 z4 z5 P) l0 l1 l2 l3 l4 M7 P)) ∧ (¬ (r8 ≠ l2) → (w71_68 (fun z0 z1 z2 z3 z4 z5 => w71_34  n z0 z1 z2 z3 z4 z5 P) l0 l1 l2 (l3 + (1 : Int32)) l4 M7 P))))))))))))))
theorem t71_34 {sl : Nat} {sx : Nat → Int32} {d : Nat} {M0 : MM} {P : Int32 → MM → Prop} (n : Nat) : ∀ (l0 : Nat) (l1 : Int32) (l2 : Int32) (l3 : Int32) (l4 : Int32) (M : MM) (_ : lenO M0 M) (_ : w71_34  n l0 l1 l2 l3 l4 M P), R71 sl sx d M0 P 34 [some (vR (some l0)), some (vI l1), some (vI l2), some (vI l3), some (vI l4)] [] M := by
  induction n with
  | zero => intro l0 l1 l2 l3 l4 M hM h; cases h
  | succ n ih =>
    intro l0 l1 l2 l3 l4 M hM h
    refine RN_k (callX_det _) 5 _ _ _ _ (show kd M l0 9 ∧ R71 sl sx d M0 P 42 [some (vR (some l0)), some (vI l1), some (vI l2), some (vI l3), some (vI l4)] [vR (mR M l0 5), vI (l4 + (1 : Int32))] M from ⟨h.1, ?_⟩)
    replace h := h.2
    obtain ⟨a1, he, h⟩ := h
    refine RN_k (callX_det _) 1 _ _ _ _ (show R71 sl sx d M0 P 43 [some (vR (some l0)), some (vI l1), some (vI l2), some (vI l3), some (vI l4)] [vI l1, vR (mR M l0 5), vI (l4 + (1 : Int32))] M from ?_)
    rw [he]
    refine RN_k (callX_det _) 1 _ _ _ _ (show inb M a1 16 l1 ∧ R71 sl sx d M0 P 44 [some (vR (some l0)), some (vI l1), some (vI l2), some (vI l3), some (vI l4)] [vR (mR M a1 l1.toNatClampNeg), vI (l4 + (1 : Int32))] M from ⟨h.1, ?_⟩)
    replace h := h.2
    obtain ⟨a2, he, h⟩ := h
    rw [he]
    refine RN_k (callX_det _) 1 _ _ _ _ (show kd M a2 8 ∧ R71 sl sx d M0 P 47 [some (vR (some l0)), some (vI l1), some (vI l2), some (vI l3), some (vI l4)] [vI (mI M a2 1), vI (l4 + (1 : Int32))] M from ⟨h.1, ?_⟩)
    replace h := h.2
    refine RN_k (callX_det _) 1 _ _ _ _ (show ((mI M a2 1) ≤ (l4 + (1 : Int32)) → R71 sl sx d M0 P 74 [some (vR (some l0)), some (vI l1), some (vI l2), some (vI l3), some (vI l4)] [] M) ∧ (¬ ((mI M a2 1) ≤ (l4 + (1 : Int32))) → R71 sl sx d M0 P 50 [some (vR (some l0)), some (vI l1), some (vI l2), some (vI l3), some (vI l4)] [] M) from ⟨fun hc => ?_, fun hc => ?_⟩)
    · replace h := h.1 hc
      refine RN_k (callX_det _) 3 _ _ _ _ (show kd M l0 9 ∧ callX TBg sl sx (d + 3) 35 [vR (some l0), vI l3] M (fun v M9 => R71 sl sx d M0 P 79 [some (vR (some l0)), some (vI l1), some (vI l2), some (vI l3), some (vI l4)] (pushO v []) M9) from ⟨h.1, ?_⟩)
      replace h := h.2
      refine callX_mono (callX_len (d := (d + 3)) rfl rfl rfl (c35 (d := d + 2) h)) ?_
      clear h
      rintro v9 M3 ⟨hl, r4, rfl, h⟩
      replace hM := lenT hM hl
      show R71 sl sx d M0 P 79 [some (vR (some l0)), some (vI l1), some (vI l2), some (vI l3), some (vI l4)] [vI r4] M3
      exact RN_k (callX_det _) 1 _ _ _ _ (show rtW q71 M0 (PI P) (some (vI r4)) M3 from ⟨⟨_, rfl⟩, hM.1, hM.2, _, rfl, h⟩)
    · replace h := h.2 hc
      refine RN_k (callX_det _) 2 _ _ _ _ (show kd M l0 9 ∧ R71 sl sx d M0 P 54 [some (vR (some l0)), some (vI l1), some (vI l2), some (vI l3), some (vI l4)] [vR (mR M l0 5)] M from ⟨h.1, ?_⟩)
      replace h := h.2
      obtain ⟨a5, he, h⟩ := h
      refine RN_k (callX_det _) 1 _ _ _ _ (show R71 sl sx d M0 P 55 [some (vR (some l0)), some (vI l1), some (vI l2), some (vI l3), some (vI l4)] [vI l1, vR (mR M l0 5)] M from ?_)
      rw [he]
      refine RN_k (callX_det _) 1 _ _ _ _ (show inb M a5 16 l1 ∧ R71 sl sx d M0 P 56 [some (vR (some l0)), some (vI l1), some (vI l2), some (vI l3), some (vI l4)] [vR (mR M a5 l1.toNatClampNeg)] M from ⟨h.1, ?_⟩)
      replace h := h.2
      obtain ⟨a6, he, h⟩ := h
      refine RN_k (callX_det _) 1 _ _ _ _ (show R71 sl sx d M0 P 58 [some (vR (some l0)), some (vI l1), some (vI l2), some (vI l3), some (vI l4)] [vI l4, vR (mR M a5 l1.toNatClampNeg)] M from ?_)
      rw [he]
      refine RN_k (callX_det _) 1 _ _ _ _ (show kd M a6 8 ∧ callX TBg sl sx (d + 3) 72 [vR (some a6), vI l4] M (fun v M9 => R71 sl sx d M0 P 61 [some (vR (some l0)), some (vI l1), some (vI l2), some (vI l3), some (vI l4)] (pushO v []) M9) from ⟨h.1, ?_⟩)
      replace h := h.2
      refine callX_mono (callX_len (d := (d + 3)) rfl rfl rfl (c72 (d := d) h)) ?_
      clear h
      rintro v9 M7 ⟨hl, r8, rfl, h⟩
      replace hM := lenT hM hl
      show R71 sl sx d M0 P 61 [some (vR (some l0)), some (vI l1), some (vI l2), some (vI l3), some (vI l4)] [vI r8] M7
      refine RN_k (callX_det _) 2 _ _ _ _ (show (r8 ≠ l2 → R71 sl sx d M0 P 68 [some (vR (some l0)), some (vI l1), some (vI l2), some (vI l3), some (vI l4)] [] M7) ∧ (¬ (r8 ≠ l2) → R71 sl sx d M0 P 65 [some (vR (some l0)), some (vI l1), some (vI l2), some (vI l3), some (vI l4)] [] M7) from ⟨fun hc => ?_, fun hc => ?_⟩)
      · replace h := h.1 hc
        exact RN_weak (K := [some (vR (some l0)), some (vI l1), some (vI l2), some (vI l3), some (vI l4)]) (callX_det _) (show _ ∧ _ ∧ _ ∧ _ ∧ _ ∧ True from ⟨rfl, rfl, rfl, rfl, rfl, trivial⟩) (t71_68 ih l0 l1 l2 l3 l4 _ hM h)
      · replace h := h.2 hc
        refine RN_k (callX_det _) 1 _ _ _ _ (show R71 sl sx d M0 P 68 [some (vR (some l0)), some (vI l1), some (vI l2), some (vI (l3 + (1 : Int32))), some (vI l4)] [] M7 from ?_)
        exact RN_weak (K := [some (vR (some l0)), some (vI l1), some (vI l2), some (vI (l3 + (1 : Int32))), some (vI l4)]) (callX_det _) (show _ ∧ _ ∧ _ ∧ _ ∧ _ ∧ True from ⟨rfl, rfl, rfl, rfl, rfl, trivial⟩) (t71_68 ih l0 l1 l2 (l3 + (1 : Int32)) l4 _ hM h)
def w71 (l0 : Nat) (l1 : Int32) (l2 : Int32) (M : MM) (P : Int32 → MM → Prop) : Prop := (l2 < 0 → (w71_9  l0 M P)) ∧ (¬ (l2 < 0) → ((l2 ≤ (3 : Int32) → (kd M l0 9 ∧ w40 l0 l1 M (fun r2 M1 => (r2 ≠ 0 → (∃ n2, w71_34  n2 l0 l1 l2 (0 : Int32) (1 : Int32) M1 P)) ∧ (¬ (r2 ≠ 0) → (kd M1 l0 9 ∧ w17 l0 (2 : Int32) M1 (fun r4 M3 => P r4 M3)))))) ∧ (¬ (l2 ≤ (3 : Int32)) → (w71_9  l0 M P))))
theorem t71_E {sl : Nat} {sx : Nat → Int32} {d : Nat} {M0 : MM} {P : Int32 → MM → Prop} (l0 : Nat) (l1 : Int32) (l2 : Int32) (M : MM) (hM : lenO M0 M) (h : w71  l0 l1 l2 M P) : R71 sl sx d M0 P 0 [some (vR (some l0)), some (vI l1), some (vI l2), none, none] [] M := by
  refine RN_k (callX_det _) 2 _ _ _ _ (show (l2 < 0 → R71 sl sx d M0 P 9 [some (vR (some l0)), some (vI l1), some (vI l2), none, none] [] M) ∧ (¬ (l2 < 0) → R71 sl sx d M0 P 4 [some (vR (some l0)), some (vI l1), some (vI l2), none, none] [] M) from ⟨fun hc => ?_, fun hc => ?_⟩)
  · replace h := h.1 hc
    exact RN_weak (K := [some (vR (some l0)), none, none, none, none]) (callX_det _) (show _ ∧ True from ⟨rfl, trivial⟩) (t71_9  l0 _ hM h)
  · replace h := h.2 hc
    refine RN_k (callX_det _) 3 _ _ _ _ (show (l2 ≤ (3 : Int32) → R71 sl sx d M0 P 15 [some (vR (some l0)), some (vI l1), some (vI l2), none, none] [] M) ∧ (¬ (l2 ≤ (3 : Int32)) → R71 sl sx d M0 P 9 [some (vR (some l0)), some (vI l1), some (vI l2), none, none] [] M) from ⟨fun hc => ?_, fun hc => ?_⟩)
    · replace h := h.1 hc
      refine RN_k (callX_det _) 3 _ _ _ _ (show kd M l0 9 ∧ callX TBg sl sx (d + 3) 40 [vR (some l0), vI l1] M (fun v M9 => R71 sl sx d M0 P 20 [some (vR (some l0)), some (vI l1), some (vI l2), none, none] (pushO v []) M9) from ⟨h.1, ?_⟩)
      replace h := h.2
      refine callX_mono (callX_len (d := (d + 3)) rfl rfl rfl (c40 (d := d + 2) h)) ?_
      clear h
      rintro v9 M1 ⟨hl, r2, rfl, h⟩
      replace hM := lenT hM hl
      show R71 sl sx d M0 P 20 [some (vR (some l0)), some (vI l1), some (vI l2), none, none] [vI r2] M1
      refine RN_k (callX_det _) 1 _ _ _ _ (show (r2 ≠ 0 → R71 sl sx d M0 P 29 [some (vR (some l0)), some (vI l1), some (vI l2), none, none] [] M1) ∧ (¬ (r2 ≠ 0) → R71 sl sx d M0 P 23 [some (vR (some l0)), some (vI l1), some (vI l2), none, none] [] M1) from ⟨fun hc => ?_, fun hc => ?_⟩)
      · replace h := h.1 hc
        refine RN_k (callX_det _) 4 _ _ _ _ (show R71 sl sx d M0 P 34 [some (vR (some l0)), some (vI l1), some (vI l2), some (vI (0 : Int32)), some (vI (1 : Int32))] [] M1 from ?_)
        obtain ⟨n2, h⟩ := h
        exact RN_weak (K := [some (vR (some l0)), some (vI l1), some (vI l2), some (vI (0 : Int32)), some (vI (1 : Int32))]) (callX_det _) (show _ ∧ _ ∧ _ ∧ _ ∧ _ ∧ True from ⟨rfl, rfl, rfl, rfl, rfl, trivial⟩) (t71_34  n2 l0 l1 l2 (0 : Int32) (1 : Int32) _ hM h)
      · replace h := h.2 hc
        refine RN_k (callX_det _) 3 _ _ _ _ (show kd M1 l0 9 ∧ callX TBg sl sx (d + 3) 17 [vR (some l0), vI (2 : Int32)] M1 (fun v M9 => R71 sl sx d M0 P 28 [some (vR (some l0)), some (vI l1), some (vI l2), none, none] (pushO v []) M9) from ⟨h.1, ?_⟩)
        replace h := h.2
        refine callX_mono (callX_len (d := (d + 3)) rfl rfl rfl (c17 (d := d + 2) h)) ?_
        clear h
        rintro v9 M3 ⟨hl, r4, rfl, h⟩
        replace hM := lenT hM hl
        show R71 sl sx d M0 P 28 [some (vR (some l0)), some (vI l1), some (vI l2), none, none] [vI r4] M3
        exact RN_k (callX_det _) 1 _ _ _ _ (show rtW q71 M0 (PI P) (some (vI r4)) M3 from ⟨⟨_, rfl⟩, hM.1, hM.2, _, rfl, h⟩)
    · replace h := h.2 hc
      exact RN_weak (K := [some (vR (some l0)), none, none, none, none]) (callX_det _) (show _ ∧ True from ⟨rfl, trivial⟩) (t71_9  l0 _ hM h)
theorem c71 {sl : Nat} {sx : Nat → Int32} {d : Nat} {l0 : Nat} {l1 : Int32} {l2 : Int32} {M : MM} {P : Int32 → MM → Prop} (h : w71 l0 l1 l2 M P) : callX TBg sl sx (d + 4) 71 [vR (some l0), vI l1, vI l2] M (PI P) :=
  cX (d := d + 3) q71 (false, tb71) rfl rfl rfl (t71_E l0 l1 l2 M lenR h)
-- TwoLeash.isLeash(II)Z
abbrev q74 : MQ7 := (2, 0, 2, 9, 0, 0, 4)
abbrev R74 (sl : Nat) (sx : Nat → Int32) (d : Nat) (M0 : MM) (P : Int32 → MM → Prop) : Nat → LL → List VV → MM → Prop := RN 9 false (mS M0).length (mT M0) 0 0 sl sx (callX TBg sl sx (d + 0)) (rtW q74 M0 (PI P)) (as2 tb74)
def w74_28 (s0 : Int32) (M : MM) (P : Int32 → MM → Prop) : Prop := (s0 = 0 ∨ s0 = 1) ∧ P s0 M
theorem t74_28 {sl : Nat} {sx : Nat → Int32} {d : Nat} {M0 : MM} {P : Int32 → MM → Prop} (s0 : Int32) (M : MM) (hM : lenO M0 M) (h : w74_28  s0 M P) : R74 sl sx d M0 P 28 [none, none] [vI s0] M := by
  exact RN_k (callX_det _) 1 _ _ _ _ (show rtW q74 M0 (PI P) (some (vI s0)) M from ⟨⟨_, rfl, h.1⟩, hM.1, hM.2, _, rfl, h.2⟩)
def w74_27 (M : MM) (P : Int32 → MM → Prop) : Prop := w74_28  (0 : Int32) M P
theorem t74_27 {sl : Nat} {sx : Nat → Int32} {d : Nat} {M0 : MM} {P : Int32 → MM → Prop}  (M : MM) (hM : lenO M0 M) (h : w74_27   M P) : R74 sl sx d M0 P 27 [none, none] [] M := by
  refine RN_k (callX_det _) 1 _ _ _ _ (show R74 sl sx d M0 P 28 [none, none] [vI (0 : Int32)] M from ?_)
  exact RN_weak (K := [none, none]) (callX_det _) (show True from trivial) (t74_28  (0 : Int32) _ hM h)
def w74 (l0 : Int32) (l1 : Int32) (M : MM) (P : Int32 → MM → Prop) : Prop := (l0 < 0 → (w74_27  M P)) ∧ (¬ (l0 < 0) → (((100000 : Int32) < l0 → (w74_27  M P)) ∧ (¬ ((100000 : Int32) < l0) → ((l1 < (1 : Int32) → (w74_27  M P)) ∧ (¬ (l1 < (1 : Int32)) → (((1000 : Int32) < l1 → (w74_27  M P)) ∧ (¬ ((1000 : Int32) < l1) → (w74_28  (1 : Int32) M P))))))))
theorem t74_E {sl : Nat} {sx : Nat → Int32} {d : Nat} {M0 : MM} {P : Int32 → MM → Prop} (l0 : Int32) (l1 : Int32) (M : MM) (hM : lenO M0 M) (h : w74  l0 l1 M P) : R74 sl sx d M0 P 0 [some (vI l0), some (vI l1)] [] M := by
  refine RN_k (callX_det _) 2 _ _ _ _ (show (l0 < 0 → R74 sl sx d M0 P 27 [some (vI l0), some (vI l1)] [] M) ∧ (¬ (l0 < 0) → R74 sl sx d M0 P 4 [some (vI l0), some (vI l1)] [] M) from ⟨fun hc => ?_, fun hc => ?_⟩)
  · replace h := h.1 hc
    exact RN_weak (K := [none, none]) (callX_det _) (show True from trivial) (t74_27   _ hM h)
  · replace h := h.2 hc
    refine RN_k (callX_det _) 3 _ _ _ _ (show ((100000 : Int32) < l0 → R74 sl sx d M0 P 27 [some (vI l0), some (vI l1)] [] M) ∧ (¬ ((100000 : Int32) < l0) → R74 sl sx d M0 P 11 [some (vI l0), some (vI l1)] [] M) from ⟨fun hc => ?_, fun hc => ?_⟩)
    · replace h := h.1 hc
      exact RN_weak (K := [none, none]) (callX_det _) (show True from trivial) (t74_27   _ hM h)
    · replace h := h.2 hc
      refine RN_k (callX_det _) 3 _ _ _ _ (show (l1 < (1 : Int32) → R74 sl sx d M0 P 27 [some (vI l0), some (vI l1)] [] M) ∧ (¬ (l1 < (1 : Int32)) → R74 sl sx d M0 P 16 [some (vI l0), some (vI l1)] [] M) from ⟨fun hc => ?_, fun hc => ?_⟩)
      · replace h := h.1 hc
        exact RN_weak (K := [none, none]) (callX_det _) (show True from trivial) (t74_27   _ hM h)
      · replace h := h.2 hc
        refine RN_k (callX_det _) 3 _ _ _ _ (show ((1000 : Int32) < l1 → R74 sl sx d M0 P 27 [some (vI l0), some (vI l1)] [] M) ∧ (¬ ((1000 : Int32) < l1) → R74 sl sx d M0 P 23 [some (vI l0), some (vI l1)] [] M) from ⟨fun hc => ?_, fun hc => ?_⟩)
        · replace h := h.1 hc
          exact RN_weak (K := [none, none]) (callX_det _) (show True from trivial) (t74_27   _ hM h)
        · replace h := h.2 hc
          refine RN_k (callX_det _) 2 _ _ _ _ (show R74 sl sx d M0 P 28 [some (vI l0), some (vI l1)] [vI (1 : Int32)] M from ?_)
          exact RN_weak (K := [none, none]) (callX_det _) (show True from trivial) (t74_28  (1 : Int32) _ hM h)
theorem c74 {sl : Nat} {sx : Nat → Int32} {d : Nat} {l0 : Int32} {l1 : Int32} {M : MM} {P : Int32 → MM → Prop} (h : w74 l0 l1 M P) : callX TBg sl sx (d + 1) 74 [vI l0, vI l1] M (PI P) :=
  cX (d := d + 0) q74 (false, tb74) rfl rfl rfl (t74_E l0 l1 M lenR h)
-- TwoLeash.checkSide(ZIIZII)I
abbrev q75 : MQ7 := (7, 1, 8, 9, 0, 0, 1)
abbrev R75 (sl : Nat) (sx : Nat → Int32) (d : Nat) (M0 : MM) (P : Int32 → MM → Prop) : Nat → LL → List VV → MM → Prop := RN 9 false (mS M0).length (mT M0) 0 0 sl sx (callX TBg sl sx (d + 2)) (rtW q75 M0 (PI P)) (as2 tb75)
def w75_83 (s0 : Int32) (M : MM) (P : Int32 → MM → Prop) : Prop := P s0 M
theorem t75_83 {sl : Nat} {sx : Nat → Int32} {d : Nat} {M0 : MM} {P : Int32 → MM → Prop} (s0 : Int32) (M : MM) (hM : lenO M0 M) (h : w75_83  s0 M P) : R75 sl sx d M0 P 83 [none, none, none, none, none, none, none, none] [vI s0] M := by
  exact RN_k (callX_det _) 1 _ _ _ _ (show rtW q75 M0 (PI P) (some (vI s0)) M from ⟨⟨_, rfl⟩, hM.1, hM.2, _, rfl, h⟩)
def w75_64 (l2 : Int32) (l3 : Int32) (s0 : Int32) (M : MM) (P : Int32 → MM → Prop) : Prop := (s0 ≠ 0 → ((l2 ≠ l3 → (w75_83  (0 : Int32) M P)) ∧ (¬ (l2 ≠ l3) → (w75_83  (4 : Int32) M P)))) ∧ (¬ (s0 ≠ 0) → (P (2 : Int32) M))
theorem t75_64 {sl : Nat} {sx : Nat → Int32} {d : Nat} {M0 : MM} {P : Int32 → MM → Prop} (l2 : Int32) (l3 : Int32) (s0 : Int32) (M : MM) (hM : lenO M0 M) (h : w75_64  l2 l3 s0 M P) : R75 sl sx d M0 P 64 [none, none, some (vI l2), some (vI l3), none, none, none, none] [vI s0] M := by
  refine RN_k (callX_det _) 3 _ _ _ _ (show (s0 ≠ 0 → R75 sl sx d M0 P 73 [none, none, some (vI l2), some (vI l3), none, none, none, some (vI s0)] [] M) ∧ (¬ (s0 ≠ 0) → R75 sl sx d M0 P 71 [none, none, some (vI l2), some (vI l3), none, none, none, some (vI s0)] [] M) from ⟨fun hc => ?_, fun hc => ?_⟩)
  · replace h := h.1 hc
    refine RN_k (callX_det _) 3 _ _ _ _ (show (l2 ≠ l3 → R75 sl sx d M0 P 82 [none, none, some (vI l2), some (vI l3), none, none, none, some (vI s0)] [] M) ∧ (¬ (l2 ≠ l3) → R75 sl sx d M0 P 78 [none, none, some (vI l2), some (vI l3), none, none, none, some (vI s0)] [] M) from ⟨fun hc => ?_, fun hc => ?_⟩)
    · replace h := h.1 hc
      refine RN_k (callX_det _) 1 _ _ _ _ (show R75 sl sx d M0 P 83 [none, none, some (vI l2), some (vI l3), none, none, none, some (vI s0)] [vI (0 : Int32)] M from ?_)
      exact RN_weak (K := [none, none, none, none, none, none, none, none]) (callX_det _) (show True from trivial) (t75_83  (0 : Int32) _ hM h)
    · replace h := h.2 hc
      refine RN_k (callX_det _) 2 _ _ _ _ (show R75 sl sx d M0 P 83 [none, none, some (vI l2), some (vI l3), none, none, none, some (vI s0)] [vI (4 : Int32)] M from ?_)
      exact RN_weak (K := [none, none, none, none, none, none, none, none]) (callX_det _) (show True from trivial) (t75_83  (4 : Int32) _ hM h)
  · replace h := h.2 hc
    exact RN_k (callX_det _) 2 _ _ _ _ (show rtW q75 M0 (PI P) (some (vI (2 : Int32))) M from ⟨⟨_, rfl⟩, hM.1, hM.2, _, rfl, h⟩)
def w75_35 (l2 : Int32) (l3 : Int32) (M : MM) (P : Int32 → MM → Prop) : Prop := w75_64  l2 l3 (0 : Int32) M P
theorem t75_35 {sl : Nat} {sx : Nat → Int32} {d : Nat} {M0 : MM} {P : Int32 → MM → Prop} (l2 : Int32) (l3 : Int32) (M : MM) (hM : lenO M0 M) (h : w75_35  l2 l3 M P) : R75 sl sx d M0 P 35 [none, none, some (vI l2), some (vI l3), none, none, none, none] [] M := by
  refine RN_k (callX_det _) 2 _ _ _ _ (show R75 sl sx d M0 P 64 [none, none, some (vI l2), some (vI l3), none, none, none, none] [vI (0 : Int32)] M from ?_)
  exact RN_weak (K := [none, none, some (vI l2), some (vI l3), none, none, none, none]) (callX_det _) (show _ ∧ _ ∧ True from ⟨rfl, rfl, trivial⟩) (t75_64  l2 l3 (0 : Int32) _ hM h)
def w75_63 (l2 : Int32) (l3 : Int32) (M : MM) (P : Int32 → MM → Prop) : Prop := w75_64  l2 l3 (0 : Int32) M P
theorem t75_63 {sl : Nat} {sx : Nat → Int32} {d : Nat} {M0 : MM} {P : Int32 → MM → Prop} (l2 : Int32) (l3 : Int32) (M : MM) (hM : lenO M0 M) (h : w75_63  l2 l3 M P) : R75 sl sx d M0 P 63 [none, none, some (vI l2), some (vI l3), none, none, none, none] [] M := by
  refine RN_k (callX_det _) 1 _ _ _ _ (show R75 sl sx d M0 P 64 [none, none, some (vI l2), some (vI l3), none, none, none, none] [vI (0 : Int32)] M from ?_)
  exact RN_weak (K := [none, none, some (vI l2), some (vI l3), none, none, none, none]) (callX_det _) (show _ ∧ _ ∧ True from ⟨rfl, rfl, trivial⟩) (t75_64  l2 l3 (0 : Int32) _ hM h)
def w75 (l0 : Nat) (l1 : Int32) (l2 : Int32) (l3 : Int32) (l4 : Int32) (l5 : Int32) (l6 : Int32) (M : MM) (P : Int32 → MM → Prop) : Prop := (l1 ≠ 0 → ((l4 = 0 → (kd M l0 9 ∧ w47 l0 l2 l5 M (fun r2 M1 => (r2 = 0 → (w75_63  l2 l3 M1 P)) ∧ (¬ (r2 = 0) → (kd M1 l0 9 ∧ w45 l0 l3 l6 M1 (fun r4 M3 => (r4 = 0 → (w75_63  l2 l3 M3 P)) ∧ (¬ (r4 = 0) → (w75_64  l2 l3 (1 : Int32) M3 P)))))))) ∧ (¬ (l4 = 0) → (kd M l0 9 ∧ w45 l0 l2 l5 M (fun r6 M5 => (r6 = 0 → (w75_35  l2 l3 M5 P)) ∧ (¬ (r6 = 0) → (kd M5 l0 9 ∧ w47 l0 l3 l6 M5 (fun r8 M7 => (r8 = 0 → (w75_35  l2 l3 M7 P)) ∧ (¬ (r8 = 0) → (w75_64  l2 l3 (1 : Int32) M7 P)))))))))) ∧ (¬ (l1 ≠ 0) → (P (1 : Int32) M))
theorem t75_E {sl : Nat} {sx : Nat → Int32} {d : Nat} {M0 : MM} {P : Int32 → MM → Prop} (l0 : Nat) (l1 : Int32) (l2 : Int32) (l3 : Int32) (l4 : Int32) (l5 : Int32) (l6 : Int32) (M : MM) (hM : lenO M0 M) (h : w75  l0 l1 l2 l3 l4 l5 l6 M P) : R75 sl sx d M0 P 0 [some (vR (some l0)), some (vI l1), some (vI l2), some (vI l3), some (vI l4), some (vI l5), some (vI l6), none] [] M := by
  refine RN_k (callX_det _) 2 _ _ _ _ (show (l1 ≠ 0 → R75 sl sx d M0 P 6 [some (vR (some l0)), some (vI l1), some (vI l2), some (vI l3), some (vI l4), some (vI l5), some (vI l6), none] [] M) ∧ (¬ (l1 ≠ 0) → R75 sl sx d M0 P 4 [some (vR (some l0)), some (vI l1), some (vI l2), some (vI l3), some (vI l4), some (vI l5), some (vI l6), none] [] M) from ⟨fun hc => ?_, fun hc => ?_⟩)
  · replace h := h.1 hc
    refine RN_k (callX_det _) 2 _ _ _ _ (show (l4 = 0 → R75 sl sx d M0 P 39 [some (vR (some l0)), some (vI l1), some (vI l2), some (vI l3), some (vI l4), some (vI l5), some (vI l6), none] [] M) ∧ (¬ (l4 = 0) → R75 sl sx d M0 P 11 [some (vR (some l0)), some (vI l1), some (vI l2), some (vI l3), some (vI l4), some (vI l5), some (vI l6), none] [] M) from ⟨fun hc => ?_, fun hc => ?_⟩)
    · replace h := h.1 hc
      refine RN_k (callX_det _) 4 _ _ _ _ (show kd M l0 9 ∧ callX TBg sl sx (d + 2) 47 [vR (some l0), vI l2, vI l5] M (fun v M9 => R75 sl sx d M0 P 46 [some (vR (some l0)), some (vI l1), some (vI l2), some (vI l3), some (vI l4), some (vI l5), some (vI l6), none] (pushO v []) M9) from ⟨h.1, ?_⟩)
      replace h := h.2
      refine callX_mono (callX_len (d := (d + 2)) rfl rfl rfl (c47 (d := d) h)) ?_
      clear h
      rintro v9 M1 ⟨hl, r2, rfl, h⟩
      replace hM := lenT hM hl
      show R75 sl sx d M0 P 46 [some (vR (some l0)), some (vI l1), some (vI l2), some (vI l3), some (vI l4), some (vI l5), some (vI l6), none] [vI r2] M1
      refine RN_k (callX_det _) 1 _ _ _ _ (show (r2 = 0 → R75 sl sx d M0 P 63 [some (vR (some l0)), some (vI l1), some (vI l2), some (vI l3), some (vI l4), some (vI l5), some (vI l6), none] [] M1) ∧ (¬ (r2 = 0) → R75 sl sx d M0 P 49 [some (vR (some l0)), some (vI l1), some (vI l2), some (vI l3), some (vI l4), some (vI l5), some (vI l6), none] [] M1) from ⟨fun hc => ?_, fun hc => ?_⟩)
      · replace h := h.1 hc
        exact RN_weak (K := [none, none, some (vI l2), some (vI l3), none, none, none, none]) (callX_det _) (show _ ∧ _ ∧ True from ⟨rfl, rfl, trivial⟩) (t75_63  l2 l3 _ hM h)
      · replace h := h.2 hc
        refine RN_k (callX_det _) 4 _ _ _ _ (show kd M1 l0 9 ∧ callX TBg sl sx (d + 2) 45 [vR (some l0), vI l3, vI l6] M1 (fun v M9 => R75 sl sx d M0 P 56 [some (vR (some l0)), some (vI l1), some (vI l2), some (vI l3), some (vI l4), some (vI l5), some (vI l6), none] (pushO v []) M9) from ⟨h.1, ?_⟩)
        replace h := h.2
        refine callX_mono (callX_len (d := (d + 2)) rfl rfl rfl (c45 (d := d) h)) ?_
        clear h
        rintro v9 M3 ⟨hl, r4, rfl, h⟩
        replace hM := lenT hM hl
        show R75 sl sx d M0 P 56 [some (vR (some l0)), some (vI l1), some (vI l2), some (vI l3), some (vI l4), some (vI l5), some (vI l6), none] [vI r4] M3
        refine RN_k (callX_det _) 1 _ _ _ _ (show (r4 = 0 → R75 sl sx d M0 P 63 [some (vR (some l0)), some (vI l1), some (vI l2), some (vI l3), some (vI l4), some (vI l5), some (vI l6), none] [] M3) ∧ (¬ (r4 = 0) → R75 sl sx d M0 P 59 [some (vR (some l0)), some (vI l1), some (vI l2), some (vI l3), some (vI l4), some (vI l5), some (vI l6), none] [] M3) from ⟨fun hc => ?_, fun hc => ?_⟩)
        · replace h := h.1 hc
          exact RN_weak (K := [none, none, some (vI l2), some (vI l3), none, none, none, none]) (callX_det _) (show _ ∧ _ ∧ True from ⟨rfl, rfl, trivial⟩) (t75_63  l2 l3 _ hM h)
        · replace h := h.2 hc
          refine RN_k (callX_det _) 2 _ _ _ _ (show R75 sl sx d M0 P 64 [some (vR (some l0)), some (vI l1), some (vI l2), some (vI l3), some (vI l4), some (vI l5), some (vI l6), none] [vI (1 : Int32)] M3 from ?_)
          exact RN_weak (K := [none, none, some (vI l2), some (vI l3), none, none, none, none]) (callX_det _) (show _ ∧ _ ∧ True from ⟨rfl, rfl, trivial⟩) (t75_64  l2 l3 (1 : Int32) _ hM h)
    · replace h := h.2 hc
      refine RN_k (callX_det _) 4 _ _ _ _ (show kd M l0 9 ∧ callX TBg sl sx (d + 2) 45 [vR (some l0), vI l2, vI l5] M (fun v M9 => R75 sl sx d M0 P 18 [some (vR (some l0)), some (vI l1), some (vI l2), some (vI l3), some (vI l4), some (vI l5), some (vI l6), none] (pushO v []) M9) from ⟨h.1, ?_⟩)
      replace h := h.2
      refine callX_mono (callX_len (d := (d + 2)) rfl rfl rfl (c45 (d := d) h)) ?_
      clear h
      rintro v9 M5 ⟨hl, r6, rfl, h⟩
      replace hM := lenT hM hl
      show R75 sl sx d M0 P 18 [some (vR (some l0)), some (vI l1), some (vI l2), some (vI l3), some (vI l4), some (vI l5), some (vI l6), none] [vI r6] M5
      refine RN_k (callX_det _) 1 _ _ _ _ (show (r6 = 0 → R75 sl sx d M0 P 35 [some (vR (some l0)), some (vI l1), some (vI l2), some (vI l3), some (vI l4), some (vI l5), some (vI l6), none] [] M5) ∧ (¬ (r6 = 0) → R75 sl sx d M0 P 21 [some (vR (some l0)), some (vI l1), some (vI l2), some (vI l3), some (vI l4), some (vI l5), some (vI l6), none] [] M5) from ⟨fun hc => ?_, fun hc => ?_⟩)
      · replace h := h.1 hc
        exact RN_weak (K := [none, none, some (vI l2), some (vI l3), none, none, none, none]) (callX_det _) (show _ ∧ _ ∧ True from ⟨rfl, rfl, trivial⟩) (t75_35  l2 l3 _ hM h)
      · replace h := h.2 hc
        refine RN_k (callX_det _) 4 _ _ _ _ (show kd M5 l0 9 ∧ callX TBg sl sx (d + 2) 47 [vR (some l0), vI l3, vI l6] M5 (fun v M9 => R75 sl sx d M0 P 28 [some (vR (some l0)), some (vI l1), some (vI l2), some (vI l3), some (vI l4), some (vI l5), some (vI l6), none] (pushO v []) M9) from ⟨h.1, ?_⟩)
        replace h := h.2
        refine callX_mono (callX_len (d := (d + 2)) rfl rfl rfl (c47 (d := d) h)) ?_
        clear h
        rintro v9 M7 ⟨hl, r8, rfl, h⟩
        replace hM := lenT hM hl
        show R75 sl sx d M0 P 28 [some (vR (some l0)), some (vI l1), some (vI l2), some (vI l3), some (vI l4), some (vI l5), some (vI l6), none] [vI r8] M7
        refine RN_k (callX_det _) 1 _ _ _ _ (show (r8 = 0 → R75 sl sx d M0 P 35 [some (vR (some l0)), some (vI l1), some (vI l2), some (vI l3), some (vI l4), some (vI l5), some (vI l6), none] [] M7) ∧ (¬ (r8 = 0) → R75 sl sx d M0 P 31 [some (vR (some l0)), some (vI l1), some (vI l2), some (vI l3), some (vI l4), some (vI l5), some (vI l6), none] [] M7) from ⟨fun hc => ?_, fun hc => ?_⟩)
        · replace h := h.1 hc
          exact RN_weak (K := [none, none, some (vI l2), some (vI l3), none, none, none, none]) (callX_det _) (show _ ∧ _ ∧ True from ⟨rfl, rfl, trivial⟩) (t75_35  l2 l3 _ hM h)
        · replace h := h.2 hc
          refine RN_k (callX_det _) 2 _ _ _ _ (show R75 sl sx d M0 P 64 [some (vR (some l0)), some (vI l1), some (vI l2), some (vI l3), some (vI l4), some (vI l5), some (vI l6), none] [vI (1 : Int32)] M7 from ?_)
          exact RN_weak (K := [none, none, some (vI l2), some (vI l3), none, none, none, none]) (callX_det _) (show _ ∧ _ ∧ True from ⟨rfl, rfl, trivial⟩) (t75_64  l2 l3 (1 : Int32) _ hM h)
  · replace h := h.2 hc
    exact RN_k (callX_det _) 2 _ _ _ _ (show rtW q75 M0 (PI P) (some (vI (1 : Int32))) M from ⟨⟨_, rfl⟩, hM.1, hM.2, _, rfl, h⟩)
theorem c75 {sl : Nat} {sx : Nat → Int32} {d : Nat} {l0 : Nat} {l1 : Int32} {l2 : Int32} {l3 : Int32} {l4 : Int32} {l5 : Int32} {l6 : Int32} {M : MM} {P : Int32 → MM → Prop} (h : w75 l0 l1 l2 l3 l4 l5 l6 M P) : callX TBg sl sx (d + 3) 75 [vR (some l0), vI l1, vI l2, vI l3, vI l4, vI l5, vI l6] M (PI P) :=
  cX (d := d + 2) q75 (false, tb75) rfl rfl rfl (t75_E l0 l1 l2 l3 l4 l5 l6 M lenR h)
-- TwoLeash$Cells.pointsBeside(I)I
abbrev q79 : MQ7 := (2, 1, 2, 1, 0, 0, 1)
abbrev R79 (sl : Nat) (sx : Nat → Int32) (d : Nat) (M0 : MM) (P : Int32 → MM → Prop) : Nat → LL → List VV → MM → Prop := RN 1 false (mS M0).length (mT M0) 0 0 sl sx (callX TBg sl sx (d + 0)) (rtW q79 M0 (PI P)) (as2 tb79)
def w79_24 (s0 : Int32) (M : MM) (P : Int32 → MM → Prop) : Prop := P s0 M
theorem t79_24 {sl : Nat} {sx : Nat → Int32} {d : Nat} {M0 : MM} {P : Int32 → MM → Prop} (s0 : Int32) (M : MM) (hM : lenO M0 M) (h : w79_24  s0 M P) : R79 sl sx d M0 P 24 [none, none] [vI s0] M := by
  exact RN_k (callX_det _) 1 _ _ _ _ (show rtW q79 M0 (PI P) (some (vI s0)) M from ⟨⟨_, rfl⟩, hM.1, hM.2, _, rfl, h⟩)
def w79_46 (s0 : Int32) (M : MM) (P : Int32 → MM → Prop) : Prop := P s0 M
theorem t79_46 {sl : Nat} {sx : Nat → Int32} {d : Nat} {M0 : MM} {P : Int32 → MM → Prop} (s0 : Int32) (M : MM) (hM : lenO M0 M) (h : w79_46  s0 M P) : R79 sl sx d M0 P 46 [none, none] [vI s0] M := by
  exact RN_k (callX_det _) 1 _ _ _ _ (show rtW q79 M0 (PI P) (some (vI s0)) M from ⟨⟨_, rfl⟩, hM.1, hM.2, _, rfl, h⟩)
def w79 (l0 : Nat) (l1 : Int32) (M : MM) (P : Int32 → MM → Prop) : Prop := ((7 : Int32) ≤ l1 → (kd M l0 1 ∧ (((mI M l0 2) ≤ (l1 - (7 : Int32)) → (w79_46  (0 : Int32) M P)) ∧ (¬ ((mI M l0 2) ≤ (l1 - (7 : Int32))) → (kd M l0 1 ∧ (w79_46  ((mI M l0 1) + (1 : Int32)) M P)))))) ∧ (¬ ((7 : Int32) ≤ l1) → (kd M l0 1 ∧ (((mI M l0 1) ≤ l1 → (w79_24  (0 : Int32) M P)) ∧ (¬ ((mI M l0 1) ≤ l1) → (kd M l0 1 ∧ (w79_24  ((mI M l0 2) + (1 : Int32)) M P))))))
theorem t79_E {sl : Nat} {sx : Nat → Int32} {d : Nat} {M0 : MM} {P : Int32 → MM → Prop} (l0 : Nat) (l1 : Int32) (M : MM) (hM : lenO M0 M) (h : w79  l0 l1 M P) : R79 sl sx d M0 P 0 [some (vR (some l0)), some (vI l1)] [] M := by
  refine RN_k (callX_det _) 3 _ _ _ _ (show ((7 : Int32) ≤ l1 → R79 sl sx d M0 P 25 [some (vR (some l0)), some (vI l1)] [] M) ∧ (¬ ((7 : Int32) ≤ l1) → R79 sl sx d M0 P 6 [some (vR (some l0)), some (vI l1)] [] M) from ⟨fun hc => ?_, fun hc => ?_⟩)
  · replace h := h.1 hc
    refine RN_k (callX_det _) 5 _ _ _ _ (show kd M l0 1 ∧ R79 sl sx d M0 P 33 [some (vR (some l0)), some (vI l1)] [vI (mI M l0 2), vI (l1 - (7 : Int32))] M from ⟨h.1, ?_⟩)
    replace h := h.2
    refine RN_k (callX_det _) 1 _ _ _ _ (show ((mI M l0 2) ≤ (l1 - (7 : Int32)) → R79 sl sx d M0 P 45 [some (vR (some l0)), some (vI l1)] [] M) ∧ (¬ ((mI M l0 2) ≤ (l1 - (7 : Int32))) → R79 sl sx d M0 P 36 [some (vR (some l0)), some (vI l1)] [] M) from ⟨fun hc => ?_, fun hc => ?_⟩)
    · replace h := h.1 hc
      refine RN_k (callX_det _) 1 _ _ _ _ (show R79 sl sx d M0 P 46 [some (vR (some l0)), some (vI l1)] [vI (0 : Int32)] M from ?_)
      exact RN_weak (K := [none, none]) (callX_det _) (show True from trivial) (t79_46  (0 : Int32) _ hM h)
    · replace h := h.2 hc
      refine RN_k (callX_det _) 2 _ _ _ _ (show kd M l0 1 ∧ R79 sl sx d M0 P 40 [some (vR (some l0)), some (vI l1)] [vI (mI M l0 1)] M from ⟨h.1, ?_⟩)
      replace h := h.2
      refine RN_k (callX_det _) 3 _ _ _ _ (show R79 sl sx d M0 P 46 [some (vR (some l0)), some (vI l1)] [vI ((mI M l0 1) + (1 : Int32))] M from ?_)
      exact RN_weak (K := [none, none]) (callX_det _) (show True from trivial) (t79_46  ((mI M l0 1) + (1 : Int32)) _ hM h)
  · replace h := h.2 hc
    refine RN_k (callX_det _) 3 _ _ _ _ (show kd M l0 1 ∧ R79 sl sx d M0 P 11 [some (vR (some l0)), some (vI l1)] [vI (mI M l0 1), vI l1] M from ⟨h.1, ?_⟩)
    replace h := h.2
    refine RN_k (callX_det _) 1 _ _ _ _ (show ((mI M l0 1) ≤ l1 → R79 sl sx d M0 P 23 [some (vR (some l0)), some (vI l1)] [] M) ∧ (¬ ((mI M l0 1) ≤ l1) → R79 sl sx d M0 P 14 [some (vR (some l0)), some (vI l1)] [] M) from ⟨fun hc => ?_, fun hc => ?_⟩)
    · replace h := h.1 hc
      refine RN_k (callX_det _) 1 _ _ _ _ (show R79 sl sx d M0 P 24 [some (vR (some l0)), some (vI l1)] [vI (0 : Int32)] M from ?_)
      exact RN_weak (K := [none, none]) (callX_det _) (show True from trivial) (t79_24  (0 : Int32) _ hM h)
    · replace h := h.2 hc
      refine RN_k (callX_det _) 2 _ _ _ _ (show kd M l0 1 ∧ R79 sl sx d M0 P 18 [some (vR (some l0)), some (vI l1)] [vI (mI M l0 2)] M from ⟨h.1, ?_⟩)
      replace h := h.2
      refine RN_k (callX_det _) 3 _ _ _ _ (show R79 sl sx d M0 P 24 [some (vR (some l0)), some (vI l1)] [vI ((mI M l0 2) + (1 : Int32))] M from ?_)
      exact RN_weak (K := [none, none]) (callX_det _) (show True from trivial) (t79_24  ((mI M l0 2) + (1 : Int32)) _ hM h)
theorem c79 {sl : Nat} {sx : Nat → Int32} {d : Nat} {l0 : Nat} {l1 : Int32} {M : MM} {P : Int32 → MM → Prop} (h : w79 l0 l1 M P) : callX TBg sl sx (d + 1) 79 [vR (some l0), vI l1] M (PI P) :=
  cX (d := d + 0) q79 (false, tb79) rfl rfl rfl (t79_E l0 l1 M lenR h)
-- TwoLeash$Cells.lay(LTwoLeash$Track;LTwoLeash$Track;)V
abbrev q78 : MQ7 := (3, 1, 8, 1, 0, 0, 0)
abbrev R78 (sl : Nat) (sx : Nat → Int32) (d : Nat) (M0 : MM) (P : MM → Prop) : Nat → LL → List VV → MM → Prop := RN 1 false (mS M0).length (mT M0) 0 0 sl sx (callX TBg sl sx (d + 1)) (rtW q78 M0 (PV P)) (as2 tb78)
def w78_107 (k22 : Nat → Option Nat → Option Nat → Int32 → MM → Prop) (k59 : Nat → Option Nat → Option Nat → Int32 → Int32 → Int32 → Int32 → MM → Prop) (l0 : Nat) (l1 : Option Nat) (l2 : Option Nat) (l3 : Int32) (l4 : Int32) (l5 : Int32) (l6 : Int32) (s0 : Option Nat) (s1 : Option Nat) (s2 : Int32) (s3 : Option Nat) (M : MM) (P : MM → Prop) : Prop := ∃ a1, s0 = some a1 ∧ (kd M a1 7 ∧ w49 a1 s1 s2 s3 l6 M (fun M2 => k59 l0 l1 l2 l3 l4 l5 (l6 + (1 : Int32)) M2))
theorem t78_107 {sl : Nat} {sx : Nat → Int32} {d : Nat} {M0 : MM} {P : MM → Prop} {k22 : Nat → Option Nat → Option Nat → Int32 → MM → Prop} {k59 : Nat → Option Nat → Option Nat → Int32 → Int32 → Int32 → Int32 → MM → Prop} (hk22 : ∀ (l0 : Nat) (l1 : Option Nat) (l2 : Option Nat) (l3 : Int32) (M : MM), lenO M0 M → k22 l0 l1 l2 l3 M → R78 sl sx d M0 P 22 [some (vR (some l0)), some (vR l1), some (vR l2), some (vI l3), none, none, none, none] [] M) (hk59 : ∀ (l0 : Nat) (l1 : Option Nat) (l2 : Option Nat) (l3 : Int32) (l4 : Int32) (l5 : Int32) (l6 : Int32) (M : MM), lenO M0 M → k59 l0 l1 l2 l3 l4 l5 l6 M → R78 sl sx d M0 P 59 [some (vR (some l0)), some (vR l1), some (vR l2), some (vI l3), some (vI l4), some (vI l5), some (vI l6), none] [] M) (l0 : Nat) (l1 : Option Nat) (l2 : Option Nat) (l3 : Int32) (l4 : Int32) (l5 : Int32) (l6 : Int32) (s0 : Option Nat) (s1 : Option Nat) (s2 : Int32) (s3 : Option Nat) (M : MM) (hM : lenO M0 M) (h : w78_107 k22 k59 l0 l1 l2 l3 l4 l5 l6 s0 s1 s2 s3 M P) : R78 sl sx d M0 P 107 [some (vR (some l0)), some (vR l1), some (vR l2), some (vI l3), some (vI l4), some (vI l5), some (vI l6), none] [vR s3, vI s2, vR s1, vR s0] M := by
  obtain ⟨a1, he, h⟩ := h
  refine RN_k (callX_det _) 1 _ _ _ _ (show R78 sl sx d M0 P 109 [some (vR (some l0)), some (vR l1), some (vR l2), some (vI l3), some (vI l4), some (vI l5), some (vI l6), none] [vI l6, vR s3, vI s2, vR s1, vR s0] M from ?_)
  subst he
  refine RN_k (callX_det _) 1 _ _ _ _ (show kd M a1 7 ∧ callX TBg sl sx (d + 1) 49 [vR (some a1), vR s1, vI s2, vR s3, vI l6] M (fun v M9 => R78 sl sx d M0 P 112 [some (vR (some l0)), some (vR l1), some (vR l2), some (vI l3), some (vI l4), some (vI l5), some (vI l6), none] (pushO v []) M9) from ⟨h.1, ?_⟩)
  replace h := h.2
  refine callX_mono (callX_len (d := (d + 1)) rfl rfl rfl (c49 (d := d) h)) ?_
  clear h
  rintro v9 M2 ⟨hl, rfl, h⟩
  replace hM := lenT hM hl
  show R78 sl sx d M0 P 112 [some (vR (some l0)), some (vR l1), some (vR l2), some (vI l3), some (vI l4), some (vI l5), some (vI l6), none] [] M2
  refine RN_k (callX_det _) 2 _ _ _ _ (show R78 sl sx d M0 P 59 [some (vR (some l0)), some (vR l1), some (vR l2), some (vI l3), some (vI l4), some (vI l5), some (vI (l6 + (1 : Int32))), none] [] M2 from ?_)
  exact RN_weak (K := [some (vR (some l0)), some (vR l1), some (vR l2), some (vI l3), some (vI l4), some (vI l5), some (vI (l6 + (1 : Int32))), none]) (callX_det _) (show _ ∧ _ ∧ _ ∧ _ ∧ _ ∧ _ ∧ _ ∧ True from ⟨rfl, rfl, rfl, rfl, rfl, rfl, rfl, trivial⟩) (hk59 l0 l1 l2 l3 l4 l5 (l6 + (1 : Int32)) _ hM h)
def w78_95 (k22 : Nat → Option Nat → Option Nat → Int32 → MM → Prop) (k59 : Nat → Option Nat → Option Nat → Int32 → Int32 → Int32 → Int32 → MM → Prop) (l0 : Nat) (l1 : Option Nat) (l2 : Option Nat) (l3 : Int32) (l4 : Int32) (l5 : Int32) (l6 : Int32) (s0 : Option Nat) (s1 : Option Nat) (M : MM) (P : MM → Prop) : Prop := (l4 = 0 → (w78_107 k22 k59 l0 l1 l2 l3 l4 l5 l6 s0 s1 l5 l1 M P)) ∧ (¬ (l4 = 0) → (w78_107 k22 k59 l0 l1 l2 l3 l4 l5 l6 s0 s1 l5 l2 M P))
theorem t78_95 {sl : Nat} {sx : Nat → Int32} {d : Nat} {M0 : MM} {P : MM → Prop} {k22 : Nat → Option Nat → Option Nat → Int32 → MM → Prop} {k59 : Nat → Option Nat → Option Nat → Int32 → Int32 → Int32 → Int32 → MM → Prop} (hk22 : ∀ (l0 : Nat) (l1 : Option Nat) (l2 : Option Nat) (l3 : Int32) (M : MM), lenO M0 M → k22 l0 l1 l2 l3 M → R78 sl sx d M0 P 22 [some (vR (some l0)), some (vR l1), some (vR l2), some (vI l3), none, none, none, none] [] M) (hk59 : ∀ (l0 : Nat) (l1 : Option Nat) (l2 : Option Nat) (l3 : Int32) (l4 : Int32) (l5 : Int32) (l6 : Int32) (M : MM), lenO M0 M → k59 l0 l1 l2 l3 l4 l5 l6 M → R78 sl sx d M0 P 59 [some (vR (some l0)), some (vR l1), some (vR l2), some (vI l3), some (vI l4), some (vI l5), some (vI l6), none] [] M) (l0 : Nat) (l1 : Option Nat) (l2 : Option Nat) (l3 : Int32) (l4 : Int32) (l5 : Int32) (l6 : Int32) (s0 : Option Nat) (s1 : Option Nat) (M : MM) (hM : lenO M0 M) (h : w78_95 k22 k59 l0 l1 l2 l3 l4 l5 l6 s0 s1 M P) : R78 sl sx d M0 P 95 [some (vR (some l0)), some (vR l1), some (vR l2), some (vI l3), some (vI l4), some (vI l5), some (vI l6), none] [vR s1, vR s0] M := by
  refine RN_k (callX_det _) 3 _ _ _ _ (show (l4 = 0 → R78 sl sx d M0 P 106 [some (vR (some l0)), some (vR l1), some (vR l2), some (vI l3), some (vI l4), some (vI l5), some (vI l6), none] [vI l5, vR s1, vR s0] M) ∧ (¬ (l4 = 0) → R78 sl sx d M0 P 102 [some (vR (some l0)), some (vR l1), some (vR l2), some (vI l3), some (vI l4), some (vI l5), some (vI l6), none] [vI l5, vR s1, vR s0] M) from ⟨fun hc => ?_, fun hc => ?_⟩)
  · replace h := h.1 hc
    refine RN_k (callX_det _) 1 _ _ _ _ (show R78 sl sx d M0 P 107 [some (vR (some l0)), some (vR l1), some (vR l2), some (vI l3), some (vI l4), some (vI l5), some (vI l6), none] [vR l1, vI l5, vR s1, vR s0] M from ?_)
    exact RN_weak (K := [some (vR (some l0)), some (vR l1), some (vR l2), some (vI l3), some (vI l4), some (vI l5), some (vI l6), none]) (callX_det _) (show _ ∧ _ ∧ _ ∧ _ ∧ _ ∧ _ ∧ _ ∧ True from ⟨rfl, rfl, rfl, rfl, rfl, rfl, rfl, trivial⟩) (t78_107 hk22 hk59 l0 l1 l2 l3 l4 l5 l6 s0 s1 l5 l1 _ hM h)
  · replace h := h.2 hc
    refine RN_k (callX_det _) 2 _ _ _ _ (show R78 sl sx d M0 P 107 [some (vR (some l0)), some (vR l1), some (vR l2), some (vI l3), some (vI l4), some (vI l5), some (vI l6), none] [vR l2, vI l5, vR s1, vR s0] M from ?_)
    exact RN_weak (K := [some (vR (some l0)), some (vR l1), some (vR l2), some (vI l3), some (vI l4), some (vI l5), some (vI l6), none]) (callX_det _) (show _ ∧ _ ∧ _ ∧ _ ∧ _ ∧ _ ∧ _ ∧ True from ⟨rfl, rfl, rfl, rfl, rfl, rfl, rfl, trivial⟩) (t78_107 hk22 hk59 l0 l1 l2 l3 l4 l5 l6 s0 s1 l5 l2 _ hM h)
def w78_59 (k22 : Nat → Option Nat → Option Nat → Int32 → MM → Prop) : Nat → Nat → Option Nat → Option Nat → Int32 → Int32 → Int32 → Int32 → MM → (MM → Prop) → Prop
  | 0 => fun _ _ _ _ _ _ _ _ _ => False
  | n + 1 => fun l0 l1 l2 l3 l4 l5 l6 M P => kd M l0 1 ∧ w79 l0 l3 M (fun r2 M1 => (r2 ≤ l6 → (k22 l0 l1 l2 (l3 + (1 : Int32)) M1)) ∧ (¬ (r2 ≤ l6) → (kd M1 l0 1 ∧ (∃ a3, mR M1 l0 0 = some a3 ∧ (inb M1 a3 15 ((l3 * (8 : Int32)) + l6) ∧ ((l4 = 0 → (w78_95 k22 (fun z0 z1 z2 z3 z4 z5 z6 z7 => w78_59 k22 n z0 z1 z2 z3 z4 z5 z6 z7 P) l0 l1 l2 l3 l4 l5 l6 (mR M1 a3 ((l3 * (8 : Int32)) + l6).toNatClampNeg) l2 M1 P)) ∧ (¬ (l4 = 0) → (w78_95 k22 (fun z0 z1 z2 z3 z4 z5 z6 z7 => w78_59 k22 n z0 z1 z2 z3 z4 z5 z6 z7 P) l0 l1 l2 l3 l4 l5 l6 (mR M1 a3 ((l3 * (8 : Int32)) + l6).toNatClampNeg) l1 M1 P))))))))
theorem t78_59 {sl : Nat} {sx : Nat → Int32} {d : Nat} {M0 : MM} {P : MM → Prop} {k22 : Nat → Option Nat → Option Nat → Int32 → MM → Prop} (hk22 : ∀ (l0 : Nat) (l1 : Option Nat) (l2 : Option Nat) (l3 : Int32) (M : MM), lenO M0 M → k22 l0 l1 l2 l3 M → R78 sl sx d M0 P 22 [some (vR (some l0)), some (vR l1), some (vR l2), some (vI l3), none, none, none, none] [] M) (n : Nat) : ∀ (l0 : Nat) (l1 : Option Nat) (l2 : Option Nat) (l3 : Int32) (l4 : Int32) (l5 : Int32) (l6 : Int32) (M : MM) (_ : lenO M0 M) (_ : w78_59 k22 n l0 l1 l2 l3 l4 l5 l6 M P), R78 sl sx d M0 P 59 [some (vR (some l0)), some (vR l1), some (vR l2), some (vI l3), some (vI l4), some (vI l5), some (vI l6), none] [] M := by
  induction n with
  | zero => intro l0 l1 l2 l3 l4 l5 l6 M hM h; cases h
  | succ n ih =>
    intro l0 l1 l2 l3 l4 l5 l6 M hM h
    refine RN_k (callX_det _) 4 _ _ _ _ (show kd M l0 1 ∧ callX TBg sl sx (d + 1) 79 [vR (some l0), vI l3] M (fun v M9 => R78 sl sx d M0 P 66 [some (vR (some l0)), some (vR l1), some (vR l2), some (vI l3), some (vI l4), some (vI l5), some (vI l6), none] (pushO v [vI l6]) M9) from ⟨h.1, ?_⟩)
    replace h := h.2
    refine callX_mono (callX_len (d := (d + 1)) rfl rfl rfl (c79 (d := d) h)) ?_
    clear h
    rintro v9 M1 ⟨hl, r2, rfl, h⟩
    replace hM := lenT hM hl
    show R78 sl sx d M0 P 66 [some (vR (some l0)), some (vR l1), some (vR l2), some (vI l3), some (vI l4), some (vI l5), some (vI l6), none] [vI r2, vI l6] M1
    refine RN_k (callX_det _) 1 _ _ _ _ (show (r2 ≤ l6 → R78 sl sx d M0 P 118 [some (vR (some l0)), some (vR l1), some (vR l2), some (vI l3), some (vI l4), some (vI l5), some (vI l6), none] [] M1) ∧ (¬ (r2 ≤ l6) → R78 sl sx d M0 P 69 [some (vR (some l0)), some (vR l1), some (vR l2), some (vI l3), some (vI l4), some (vI l5), some (vI l6), none] [] M1) from ⟨fun hc => ?_, fun hc => ?_⟩)
    · replace h := h.1 hc
      refine RN_k (callX_det _) 2 _ _ _ _ (show R78 sl sx d M0 P 22 [some (vR (some l0)), some (vR l1), some (vR l2), some (vI (l3 + (1 : Int32))), some (vI l4), some (vI l5), some (vI l6), none] [] M1 from ?_)
      exact RN_weak (K := [some (vR (some l0)), some (vR l1), some (vR l2), some (vI (l3 + (1 : Int32))), none, none, none, none]) (callX_det _) (show _ ∧ _ ∧ _ ∧ _ ∧ True from ⟨rfl, rfl, rfl, rfl, trivial⟩) (hk22 l0 l1 l2 (l3 + (1 : Int32)) _ hM h)
    · replace h := h.2 hc
      refine RN_k (callX_det _) 2 _ _ _ _ (show kd M1 l0 1 ∧ R78 sl sx d M0 P 73 [some (vR (some l0)), some (vR l1), some (vR l2), some (vI l3), some (vI l4), some (vI l5), some (vI l6), none] [vR (mR M1 l0 0)] M1 from ⟨h.1, ?_⟩)
      replace h := h.2
      obtain ⟨a3, he, h⟩ := h
      refine RN_k (callX_det _) 5 _ _ _ _ (show R78 sl sx d M0 P 80 [some (vR (some l0)), some (vR l1), some (vR l2), some (vI l3), some (vI l4), some (vI l5), some (vI l6), none] [vI ((l3 * (8 : Int32)) + l6), vR (mR M1 l0 0)] M1 from ?_)
      rw [he]
      refine RN_k (callX_det _) 1 _ _ _ _ (show inb M1 a3 15 ((l3 * (8 : Int32)) + l6) ∧ R78 sl sx d M0 P 81 [some (vR (some l0)), some (vR l1), some (vR l2), some (vI l3), some (vI l4), some (vI l5), some (vI l6), none] [vR (mR M1 a3 ((l3 * (8 : Int32)) + l6).toNatClampNeg)] M1 from ⟨h.1, ?_⟩)
      replace h := h.2
      refine RN_k (callX_det _) 4 _ _ _ _ (show (l4 = 0 → R78 sl sx d M0 P 94 [some (vR (some l0)), some (vR l1), some (vR l2), some (vI l3), some (vI l4), some (vI l5), some (vI l6), some (vR (mR M1 a3 ((l3 * (8 : Int32)) + l6).toNatClampNeg))] [vR (mR M1 a3 ((l3 * (8 : Int32)) + l6).toNatClampNeg)] M1) ∧ (¬ (l4 = 0) → R78 sl sx d M0 P 90 [some (vR (some l0)), some (vR l1), some (vR l2), some (vI l3), some (vI l4), some (vI l5), some (vI l6), some (vR (mR M1 a3 ((l3 * (8 : Int32)) + l6).toNatClampNeg))] [vR (mR M1 a3 ((l3 * (8 : Int32)) + l6).toNatClampNeg)] M1) from ⟨fun hc => ?_, fun hc => ?_⟩)
      · replace h := h.1 hc
        refine RN_k (callX_det _) 1 _ _ _ _ (show R78 sl sx d M0 P 95 [some (vR (some l0)), some (vR l1), some (vR l2), some (vI l3), some (vI l4), some (vI l5), some (vI l6), some (vR (mR M1 a3 ((l3 * (8 : Int32)) + l6).toNatClampNeg))] [vR l2, vR (mR M1 a3 ((l3 * (8 : Int32)) + l6).toNatClampNeg)] M1 from ?_)
        exact RN_weak (K := [some (vR (some l0)), some (vR l1), some (vR l2), some (vI l3), some (vI l4), some (vI l5), some (vI l6), none]) (callX_det _) (show _ ∧ _ ∧ _ ∧ _ ∧ _ ∧ _ ∧ _ ∧ True from ⟨rfl, rfl, rfl, rfl, rfl, rfl, rfl, trivial⟩) (t78_95 hk22 ih l0 l1 l2 l3 l4 l5 l6 (mR M1 a3 ((l3 * (8 : Int32)) + l6).toNatClampNeg) l2 _ hM h)
      · replace h := h.2 hc
        refine RN_k (callX_det _) 2 _ _ _ _ (show R78 sl sx d M0 P 95 [some (vR (some l0)), some (vR l1), some (vR l2), some (vI l3), some (vI l4), some (vI l5), some (vI l6), some (vR (mR M1 a3 ((l3 * (8 : Int32)) + l6).toNatClampNeg))] [vR l1, vR (mR M1 a3 ((l3 * (8 : Int32)) + l6).toNatClampNeg)] M1 from ?_)
        exact RN_weak (K := [some (vR (some l0)), some (vR l1), some (vR l2), some (vI l3), some (vI l4), some (vI l5), some (vI l6), none]) (callX_det _) (show _ ∧ _ ∧ _ ∧ _ ∧ _ ∧ _ ∧ _ ∧ True from ⟨rfl, rfl, rfl, rfl, rfl, rfl, rfl, trivial⟩) (t78_95 hk22 ih l0 l1 l2 l3 l4 l5 l6 (mR M1 a3 ((l3 * (8 : Int32)) + l6).toNatClampNeg) l1 _ hM h)
def w78_54 (k22 : Nat → Option Nat → Option Nat → Int32 → MM → Prop) (l0 : Nat) (l1 : Option Nat) (l2 : Option Nat) (l3 : Int32) (l4 : Int32) (s0 : Int32) (M : MM) (P : MM → Prop) : Prop := ∃ n2, w78_59 k22 n2 l0 l1 l2 l3 l4 s0 (0 : Int32) M P
theorem t78_54 {sl : Nat} {sx : Nat → Int32} {d : Nat} {M0 : MM} {P : MM → Prop} {k22 : Nat → Option Nat → Option Nat → Int32 → MM → Prop} (hk22 : ∀ (l0 : Nat) (l1 : Option Nat) (l2 : Option Nat) (l3 : Int32) (M : MM), lenO M0 M → k22 l0 l1 l2 l3 M → R78 sl sx d M0 P 22 [some (vR (some l0)), some (vR l1), some (vR l2), some (vI l3), none, none, none, none] [] M) (l0 : Nat) (l1 : Option Nat) (l2 : Option Nat) (l3 : Int32) (l4 : Int32) (s0 : Int32) (M : MM) (hM : lenO M0 M) (h : w78_54 k22 l0 l1 l2 l3 l4 s0 M P) : R78 sl sx d M0 P 54 [some (vR (some l0)), some (vR l1), some (vR l2), some (vI l3), some (vI l4), none, none, none] [vI s0] M := by
  refine RN_k (callX_det _) 3 _ _ _ _ (show R78 sl sx d M0 P 59 [some (vR (some l0)), some (vR l1), some (vR l2), some (vI l3), some (vI l4), some (vI s0), some (vI (0 : Int32)), none] [] M from ?_)
  obtain ⟨n2, h⟩ := h
  exact RN_weak (K := [some (vR (some l0)), some (vR l1), some (vR l2), some (vI l3), some (vI l4), some (vI s0), some (vI (0 : Int32)), none]) (callX_det _) (show _ ∧ _ ∧ _ ∧ _ ∧ _ ∧ _ ∧ _ ∧ True from ⟨rfl, rfl, rfl, rfl, rfl, rfl, rfl, trivial⟩) (t78_59 hk22 n2 l0 l1 l2 l3 l4 s0 (0 : Int32) _ hM h)
def w78_39 (k22 : Nat → Option Nat → Option Nat → Int32 → MM → Prop) (l0 : Nat) (l1 : Option Nat) (l2 : Option Nat) (l3 : Int32) (s0 : Int32) (M : MM) (P : MM → Prop) : Prop := (s0 = 0 → (w78_54 k22 l0 l1 l2 l3 s0 (l3 - (7 : Int32)) M P)) ∧ (¬ (s0 = 0) → (w78_54 k22 l0 l1 l2 l3 s0 l3 M P))
theorem t78_39 {sl : Nat} {sx : Nat → Int32} {d : Nat} {M0 : MM} {P : MM → Prop} {k22 : Nat → Option Nat → Option Nat → Int32 → MM → Prop} (hk22 : ∀ (l0 : Nat) (l1 : Option Nat) (l2 : Option Nat) (l3 : Int32) (M : MM), lenO M0 M → k22 l0 l1 l2 l3 M → R78 sl sx d M0 P 22 [some (vR (some l0)), some (vR l1), some (vR l2), some (vI l3), none, none, none, none] [] M) (l0 : Nat) (l1 : Option Nat) (l2 : Option Nat) (l3 : Int32) (s0 : Int32) (M : MM) (hM : lenO M0 M) (h : w78_39 k22 l0 l1 l2 l3 s0 M P) : R78 sl sx d M0 P 39 [some (vR (some l0)), some (vR l1), some (vR l2), some (vI l3), none, none, none, none] [vI s0] M := by
  refine RN_k (callX_det _) 3 _ _ _ _ (show (s0 = 0 → R78 sl sx d M0 P 50 [some (vR (some l0)), some (vR l1), some (vR l2), some (vI l3), some (vI s0), none, none, none] [] M) ∧ (¬ (s0 = 0) → R78 sl sx d M0 P 46 [some (vR (some l0)), some (vR l1), some (vR l2), some (vI l3), some (vI s0), none, none, none] [] M) from ⟨fun hc => ?_, fun hc => ?_⟩)
  · replace h := h.1 hc
    refine RN_k (callX_det _) 3 _ _ _ _ (show R78 sl sx d M0 P 54 [some (vR (some l0)), some (vR l1), some (vR l2), some (vI l3), some (vI s0), none, none, none] [vI (l3 - (7 : Int32))] M from ?_)
    exact RN_weak (K := [some (vR (some l0)), some (vR l1), some (vR l2), some (vI l3), some (vI s0), none, none, none]) (callX_det _) (show _ ∧ _ ∧ _ ∧ _ ∧ _ ∧ True from ⟨rfl, rfl, rfl, rfl, rfl, trivial⟩) (t78_54 hk22 l0 l1 l2 l3 s0 (l3 - (7 : Int32)) _ hM h)
  · replace h := h.2 hc
    refine RN_k (callX_det _) 2 _ _ _ _ (show R78 sl sx d M0 P 54 [some (vR (some l0)), some (vR l1), some (vR l2), some (vI l3), some (vI s0), none, none, none] [vI l3] M from ?_)
    exact RN_weak (K := [some (vR (some l0)), some (vR l1), some (vR l2), some (vI l3), some (vI s0), none, none, none]) (callX_det _) (show _ ∧ _ ∧ _ ∧ _ ∧ _ ∧ True from ⟨rfl, rfl, rfl, rfl, rfl, trivial⟩) (t78_54 hk22 l0 l1 l2 l3 s0 l3 _ hM h)
def w78_22 : Nat → Nat → Option Nat → Option Nat → Int32 → MM → (MM → Prop) → Prop
  | 0 => fun _ _ _ _ _ _ => False
  | n + 1 => fun l0 l1 l2 l3 M P => ((14 : Int32) ≤ l3 → (P M)) ∧ (¬ ((14 : Int32) ≤ l3) → (((7 : Int32) ≤ l3 → (w78_39 (fun z0 z1 z2 z3 z4 => w78_22  n z0 z1 z2 z3 z4 P) l0 l1 l2 l3 (0 : Int32) M P)) ∧ (¬ ((7 : Int32) ≤ l3) → (w78_39 (fun z0 z1 z2 z3 z4 => w78_22  n z0 z1 z2 z3 z4 P) l0 l1 l2 l3 (1 : Int32) M P))))
theorem t78_22 {sl : Nat} {sx : Nat → Int32} {d : Nat} {M0 : MM} {P : MM → Prop} (n : Nat) : ∀ (l0 : Nat) (l1 : Option Nat) (l2 : Option Nat) (l3 : Int32) (M : MM) (_ : lenO M0 M) (_ : w78_22  n l0 l1 l2 l3 M P), R78 sl sx d M0 P 22 [some (vR (some l0)), some (vR l1), some (vR l2), some (vI l3), none, none, none, none] [] M := by
  induction n with
  | zero => intro l0 l1 l2 l3 M hM h; cases h
  | succ n ih =>
    intro l0 l1 l2 l3 M hM h
    refine RN_k (callX_det _) 3 _ _ _ _ (show ((14 : Int32) ≤ l3 → R78 sl sx d M0 P 124 [some (vR (some l0)), some (vR l1), some (vR l2), some (vI l3), none, none, none, none] [] M) ∧ (¬ ((14 : Int32) ≤ l3) → R78 sl sx d M0 P 28 [some (vR (some l0)), some (vR l1), some (vR l2), some (vI l3), none, none, none, none] [] M) from ⟨fun hc => ?_, fun hc => ?_⟩)
    · replace h := h.1 hc
      exact RN_k (callX_det _) 1 _ _ _ _ (show rtW q78 M0 (PV P) none M from ⟨rfl, hM.1, hM.2, rfl, h⟩)
    · replace h := h.2 hc
      refine RN_k (callX_det _) 3 _ _ _ _ (show ((7 : Int32) ≤ l3 → R78 sl sx d M0 P 38 [some (vR (some l0)), some (vR l1), some (vR l2), some (vI l3), none, none, none, none] [] M) ∧ (¬ ((7 : Int32) ≤ l3) → R78 sl sx d M0 P 34 [some (vR (some l0)), some (vR l1), some (vR l2), some (vI l3), none, none, none, none] [] M) from ⟨fun hc => ?_, fun hc => ?_⟩)
      · replace h := h.1 hc
        refine RN_k (callX_det _) 1 _ _ _ _ (show R78 sl sx d M0 P 39 [some (vR (some l0)), some (vR l1), some (vR l2), some (vI l3), none, none, none, none] [vI (0 : Int32)] M from ?_)
        exact RN_weak (K := [some (vR (some l0)), some (vR l1), some (vR l2), some (vI l3), none, none, none, none]) (callX_det _) (show _ ∧ _ ∧ _ ∧ _ ∧ True from ⟨rfl, rfl, rfl, rfl, trivial⟩) (t78_39 ih l0 l1 l2 l3 (0 : Int32) _ hM h)
      · replace h := h.2 hc
        refine RN_k (callX_det _) 2 _ _ _ _ (show R78 sl sx d M0 P 39 [some (vR (some l0)), some (vR l1), some (vR l2), some (vI l3), none, none, none, none] [vI (1 : Int32)] M from ?_)
        exact RN_weak (K := [some (vR (some l0)), some (vR l1), some (vR l2), some (vI l3), none, none, none, none]) (callX_det _) (show _ ∧ _ ∧ _ ∧ _ ∧ True from ⟨rfl, rfl, rfl, rfl, trivial⟩) (t78_39 ih l0 l1 l2 l3 (1 : Int32) _ hM h)
def w78 (l0 : Nat) (l1 : Option Nat) (l2 : Option Nat) (M : MM) (P : MM → Prop) : Prop := ∃ a1, l1 = some a1 ∧ (kd M a1 8 ∧ (kd M l0 1 ∧ (∃ a2, l2 = some a2 ∧ (kd (sI M l0 1 ((mI M a1 1) - (1 : Int32))) a2 8 ∧ (kd (sI M l0 1 ((mI M a1 1) - (1 : Int32))) l0 1 ∧ (∃ n2, w78_22  n2 l0 (some a1) (some a2) (0 : Int32) (sI (sI M l0 1 ((mI M a1 1) - (1 : Int32))) l0 2 ((mI (sI M l0 1 ((mI M a1 1) - (1 : Int32))) a2 1) - (1 : Int32))) P))))))
theorem t78_E {sl : Nat} {sx : Nat → Int32} {d : Nat} {M0 : MM} {P : MM → Prop} (l0 : Nat) (l1 : Option Nat) (l2 : Option Nat) (M : MM) (hM : lenO M0 M) (h : w78  l0 l1 l2 M P) : R78 sl sx d M0 P 0 [some (vR (some l0)), some (vR l1), some (vR l2), none, none, none, none, none] [] M := by
  obtain ⟨a1, he, h⟩ := h
  refine RN_k (callX_det _) 2 _ _ _ _ (show R78 sl sx d M0 P 2 [some (vR (some l0)), some (vR l1), some (vR l2), none, none, none, none, none] [vR l1, vR (some l0)] M from ?_)
  subst he
  refine RN_k (callX_det _) 1 _ _ _ _ (show kd M a1 8 ∧ R78 sl sx d M0 P 5 [some (vR (some l0)), some (vR (some a1)), some (vR l2), none, none, none, none, none] [vI (mI M a1 1), vR (some l0)] M from ⟨h.1, ?_⟩)
  replace h := h.2
  refine RN_k (callX_det _) 3 _ _ _ _ (show kd M l0 1 ∧ R78 sl sx d M0 P 10 [some (vR (some l0)), some (vR (some a1)), some (vR l2), none, none, none, none, none] [] (sI M l0 1 ((mI M a1 1) - (1 : Int32))) from ⟨h.1, ?_⟩)
  replace h := h.2
  obtain ⟨a2, he, h⟩ := h
  refine RN_k (callX_det _) 2 _ _ _ _ (show R78 sl sx d M0 P 12 [some (vR (some l0)), some (vR (some a1)), some (vR l2), none, none, none, none, none] [vR l2, vR (some l0)] (sI M l0 1 ((mI M a1 1) - (1 : Int32))) from ?_)
  subst he
  refine RN_k (callX_det _) 1 _ _ _ _ (show kd (sI M l0 1 ((mI M a1 1) - (1 : Int32))) a2 8 ∧ R78 sl sx d M0 P 15 [some (vR (some l0)), some (vR (some a1)), some (vR (some a2)), none, none, none, none, none] [vI (mI (sI M l0 1 ((mI M a1 1) - (1 : Int32))) a2 1), vR (some l0)] (sI M l0 1 ((mI M a1 1) - (1 : Int32))) from ⟨h.1, ?_⟩)
  replace h := h.2
  refine RN_k (callX_det _) 3 _ _ _ _ (show kd (sI M l0 1 ((mI M a1 1) - (1 : Int32))) l0 1 ∧ R78 sl sx d M0 P 20 [some (vR (some l0)), some (vR (some a1)), some (vR (some a2)), none, none, none, none, none] [] (sI (sI M l0 1 ((mI M a1 1) - (1 : Int32))) l0 2 ((mI (sI M l0 1 ((mI M a1 1) - (1 : Int32))) a2 1) - (1 : Int32))) from ⟨h.1, ?_⟩)
  replace h := h.2
  refine RN_k (callX_det _) 2 _ _ _ _ (show R78 sl sx d M0 P 22 [some (vR (some l0)), some (vR (some a1)), some (vR (some a2)), some (vI (0 : Int32)), none, none, none, none] [] (sI (sI M l0 1 ((mI M a1 1) - (1 : Int32))) l0 2 ((mI (sI M l0 1 ((mI M a1 1) - (1 : Int32))) a2 1) - (1 : Int32))) from ?_)
  obtain ⟨n2, h⟩ := h
  exact RN_weak (K := [some (vR (some l0)), some (vR (some a1)), some (vR (some a2)), some (vI (0 : Int32)), none, none, none, none]) (callX_det _) (show _ ∧ _ ∧ _ ∧ _ ∧ True from ⟨rfl, rfl, rfl, rfl, trivial⟩) (t78_22  n2 l0 (some a1) (some a2) (0 : Int32) _ hM h)
theorem c78 {sl : Nat} {sx : Nat → Int32} {d : Nat} {l0 : Nat} {l1 : Option Nat} {l2 : Option Nat} {M : MM} {P : MM → Prop} (h : w78 l0 l1 l2 M P) : callX TBg sl sx (d + 2) 78 [vR (some l0), vR l1, vR l2] M (PV P) :=
  cX (d := d + 1) q78 (false, tb78) rfl rfl rfl (t78_E l0 l1 l2 M lenR h)
-- TwoLeash$Side.span(JJ)V
abbrev q81 : MQ7 := (3, 1, 5, 7, 0, 0, 0)
abbrev R81 (sl : Nat) (sx : Nat → Int32) (d : Nat) (M0 : MM) (P : MM → Prop) : Nat → LL → List VV → MM → Prop := RN 7 false (mS M0).length (mT M0) 0 0 sl sx (callX TBg sl sx (d + 1)) (rtW q81 M0 (PV P)) (as2 tb81)
def w81_98 (l0 : Nat) (s0 : Option Nat) (s1 : Int32) (M : MM) (P : MM → Prop) : Prop := ∃ a1, s0 = some a1 ∧ (kd M a1 7 ∧ (s1 = 0 ∨ s1 = 1) ∧ (kd (sI M a1 9 s1) l0 7 ∧ (P (sR (sI M a1 9 s1) l0 10 none))))
theorem t81_98 {sl : Nat} {sx : Nat → Int32} {d : Nat} {M0 : MM} {P : MM → Prop} (l0 : Nat) (s0 : Option Nat) (s1 : Int32) (M : MM) (hM : lenO M0 M) (h : w81_98  l0 s0 s1 M P) : R81 sl sx d M0 P 98 [some (vR (some l0)), none, none, none, none] [vI s1, vR s0] M := by
  obtain ⟨a1, he, h⟩ := h
  subst he
  refine RN_k (callX_det _) 1 _ _ _ _ (show kd M a1 7 ∧ (s1 = 0 ∨ s1 = 1) ∧ R81 sl sx d M0 P 101 [some (vR (some l0)), none, none, none, none] [] (sI M a1 9 s1) from ⟨h.1, h.2.1, ?_⟩)
  replace h := h.2.2
  refine RN_k (callX_det _) 3 _ _ _ _ (show kd (sI M a1 9 s1) l0 7 ∧ R81 sl sx d M0 P 106 [some (vR (some l0)), none, none, none, none] [] (sR (sI M a1 9 s1) l0 10 none) from ⟨h.1, ?_⟩)
  replace h := h.2
  exact RN_k (callX_det _) 1 _ _ _ _ (show rtW q81 M0 (PV P) none (sR (sI M a1 9 s1) l0 10 none) from ⟨rfl, hM.1, hM.2, rfl, h⟩)
def w81_97 (l0 : Nat) (s0 : Option Nat) (M : MM) (P : MM → Prop) : Prop := w81_98  l0 s0 (0 : Int32) M P
theorem t81_97 {sl : Nat} {sx : Nat → Int32} {d : Nat} {M0 : MM} {P : MM → Prop} (l0 : Nat) (s0 : Option Nat) (M : MM) (hM : lenO M0 M) (h : w81_97  l0 s0 M P) : R81 sl sx d M0 P 97 [some (vR (some l0)), none, none, none, none] [vR s0] M := by
  refine RN_k (callX_det _) 1 _ _ _ _ (show R81 sl sx d M0 P 98 [some (vR (some l0)), none, none, none, none] [vI (0 : Int32), vR s0] M from ?_)
  exact RN_weak (K := [some (vR (some l0)), none, none, none, none]) (callX_det _) (show _ ∧ True from ⟨rfl, trivial⟩) (t81_98  l0 s0 (0 : Int32) _ hM h)
def w81_93 (l0 : Nat) (s0 : Option Nat) (M : MM) (P : MM → Prop) : Prop := w81_98  l0 s0 (1 : Int32) M P
theorem t81_93 {sl : Nat} {sx : Nat → Int32} {d : Nat} {M0 : MM} {P : MM → Prop} (l0 : Nat) (s0 : Option Nat) (M : MM) (hM : lenO M0 M) (h : w81_93  l0 s0 M P) : R81 sl sx d M0 P 93 [some (vR (some l0)), none, none, none, none] [vR s0] M := by
  refine RN_k (callX_det _) 2 _ _ _ _ (show R81 sl sx d M0 P 98 [some (vR (some l0)), none, none, none, none] [vI (1 : Int32), vR s0] M from ?_)
  exact RN_weak (K := [some (vR (some l0)), none, none, none, none]) (callX_det _) (show _ ∧ True from ⟨rfl, trivial⟩) (t81_98  l0 s0 (1 : Int32) _ hM h)
def w81_59 (l0 : Nat) (s0 : Option Nat) (s1 : Int32) (M : MM) (P : MM → Prop) : Prop := ∃ a1, s0 = some a1 ∧ (kd M a1 7 ∧ (s1 = 0 ∨ s1 = 1) ∧ (kd (sI M a1 8 s1) l0 7 ∧ (((mI (sI M a1 8 s1) l0 7) ≠ 0 → (w81_93  l0 (some l0) (sI M a1 8 s1) P)) ∧ (¬ ((mI (sI M a1 8 s1) l0 7) ≠ 0) → (kd (sI M a1 8 s1) l0 7 ∧ (((mI (sI M a1 8 s1) l0 8) ≠ 0 → (w81_93  l0 (some l0) (sI M a1 8 s1) P)) ∧ (¬ ((mI (sI M a1 8 s1) l0 8) ≠ 0) → (kd (sI M a1 8 s1) l0 7 ∧ w51 l0 (sI M a1 8 s1) (fun r3 M2 => (r3 = 0 → (w81_97  l0 (some l0) M2 P)) ∧ (¬ (r3 = 0) → (kd M2 l0 7 ∧ (((lg_cmp (mL M2 l0 6) (0 : Int64)) < 0 → (w81_97  l0 (some l0) M2 P)) ∧ (¬ ((lg_cmp (mL M2 l0 6) (0 : Int64)) < 0) → (w81_93  l0 (some l0) M2 P))))))))))))))
theorem t81_59 {sl : Nat} {sx : Nat → Int32} {d : Nat} {M0 : MM} {P : MM → Prop} (l0 : Nat) (s0 : Option Nat) (s1 : Int32) (M : MM) (hM : lenO M0 M) (h : w81_59  l0 s0 s1 M P) : R81 sl sx d M0 P 59 [some (vR (some l0)), none, none, none, none] [vI s1, vR s0] M := by
  obtain ⟨a1, he, h⟩ := h
  subst he
  refine RN_k (callX_det _) 1 _ _ _ _ (show kd M a1 7 ∧ (s1 = 0 ∨ s1 = 1) ∧ R81 sl sx d M0 P 62 [some (vR (some l0)), none, none, none, none] [] (sI M a1 8 s1) from ⟨h.1, h.2.1, ?_⟩)
  replace h := h.2.2
  refine RN_k (callX_det _) 3 _ _ _ _ (show kd (sI M a1 8 s1) l0 7 ∧ R81 sl sx d M0 P 67 [some (vR (some l0)), none, none, none, none] [vI (mI (sI M a1 8 s1) l0 7), vR (some l0)] (sI M a1 8 s1) from ⟨h.1, ?_⟩)
  replace h := h.2
  refine RN_k (callX_det _) 1 _ _ _ _ (show ((mI (sI M a1 8 s1) l0 7) ≠ 0 → R81 sl sx d M0 P 93 [some (vR (some l0)), none, none, none, none] [vR (some l0)] (sI M a1 8 s1)) ∧ (¬ ((mI (sI M a1 8 s1) l0 7) ≠ 0) → R81 sl sx d M0 P 70 [some (vR (some l0)), none, none, none, none] [vR (some l0)] (sI M a1 8 s1)) from ⟨fun hc => ?_, fun hc => ?_⟩)
  · replace h := h.1 hc
    exact RN_weak (K := [some (vR (some l0)), none, none, none, none]) (callX_det _) (show _ ∧ True from ⟨rfl, trivial⟩) (t81_93  l0 (some l0) _ hM h)
  · replace h := h.2 hc
    refine RN_k (callX_det _) 2 _ _ _ _ (show kd (sI M a1 8 s1) l0 7 ∧ R81 sl sx d M0 P 74 [some (vR (some l0)), none, none, none, none] [vI (mI (sI M a1 8 s1) l0 8), vR (some l0)] (sI M a1 8 s1) from ⟨h.1, ?_⟩)
    replace h := h.2
    refine RN_k (callX_det _) 1 _ _ _ _ (show ((mI (sI M a1 8 s1) l0 8) ≠ 0 → R81 sl sx d M0 P 93 [some (vR (some l0)), none, none, none, none] [vR (some l0)] (sI M a1 8 s1)) ∧ (¬ ((mI (sI M a1 8 s1) l0 8) ≠ 0) → R81 sl sx d M0 P 77 [some (vR (some l0)), none, none, none, none] [vR (some l0)] (sI M a1 8 s1)) from ⟨fun hc => ?_, fun hc => ?_⟩)
    · replace h := h.1 hc
      exact RN_weak (K := [some (vR (some l0)), none, none, none, none]) (callX_det _) (show _ ∧ True from ⟨rfl, trivial⟩) (t81_93  l0 (some l0) _ hM h)
    · replace h := h.2 hc
      refine RN_k (callX_det _) 2 _ _ _ _ (show kd (sI M a1 8 s1) l0 7 ∧ callX TBg sl sx (d + 1) 51 [vR (some l0)] (sI M a1 8 s1) (fun v M9 => R81 sl sx d M0 P 81 [some (vR (some l0)), none, none, none, none] (pushO v [vR (some l0)]) M9) from ⟨h.1, ?_⟩)
      replace h := h.2
      refine callX_mono (callX_len (d := (d + 1)) rfl rfl rfl (c51 (d := d) h)) ?_
      clear h
      rintro v9 M2 ⟨hl, r3, rfl, h⟩
      replace hM := lenT hM hl
      show R81 sl sx d M0 P 81 [some (vR (some l0)), none, none, none, none] [vI r3, vR (some l0)] M2
      refine RN_k (callX_det _) 1 _ _ _ _ (show (r3 = 0 → R81 sl sx d M0 P 97 [some (vR (some l0)), none, none, none, none] [vR (some l0)] M2) ∧ (¬ (r3 = 0) → R81 sl sx d M0 P 84 [some (vR (some l0)), none, none, none, none] [vR (some l0)] M2) from ⟨fun hc => ?_, fun hc => ?_⟩)
      · replace h := h.1 hc
        exact RN_weak (K := [some (vR (some l0)), none, none, none, none]) (callX_det _) (show _ ∧ True from ⟨rfl, trivial⟩) (t81_97  l0 (some l0) _ hM h)
      · replace h := h.2 hc
        refine RN_k (callX_det _) 2 _ _ _ _ (show kd M2 l0 7 ∧ R81 sl sx d M0 P 88 [some (vR (some l0)), none, none, none, none] [vL (mL M2 l0 6), vR (some l0)] M2 from ⟨h.1, ?_⟩)
        replace h := h.2
        refine RN_k (callX_det _) 3 _ _ _ _ (show ((lg_cmp (mL M2 l0 6) (0 : Int64)) < 0 → R81 sl sx d M0 P 97 [some (vR (some l0)), none, none, none, none] [vR (some l0)] M2) ∧ (¬ ((lg_cmp (mL M2 l0 6) (0 : Int64)) < 0) → R81 sl sx d M0 P 93 [some (vR (some l0)), none, none, none, none] [vR (some l0)] M2) from ⟨fun hc => ?_, fun hc => ?_⟩)
        · replace h := h.1 hc
          exact RN_weak (K := [some (vR (some l0)), none, none, none, none]) (callX_det _) (show _ ∧ True from ⟨rfl, trivial⟩) (t81_97  l0 (some l0) _ hM h)
        · replace h := h.2 hc
          exact RN_weak (K := [some (vR (some l0)), none, none, none, none]) (callX_det _) (show _ ∧ True from ⟨rfl, trivial⟩) (t81_93  l0 (some l0) _ hM h)
def w81_39 (l0 : Nat) (l1 : Int64) (l3 : Int64) (s0 : Option Nat) (s1 : Int32) (M : MM) (P : MM → Prop) : Prop := ∃ a1, s0 = some a1 ∧ (kd M a1 7 ∧ (s1 = 0 ∨ s1 = 1) ∧ (kd (sI M a1 7 s1) l0 7 ∧ ((0 < (lg_cmp ((mL (sI M a1 7 s1) l0 3) * l3) l1) → (w81_59  l0 (some l0) (0 : Int32) (sI M a1 7 s1) P)) ∧ (¬ (0 < (lg_cmp ((mL (sI M a1 7 s1) l0 3) * l3) l1)) → (w81_59  l0 (some l0) (1 : Int32) (sI M a1 7 s1) P)))))
theorem t81_39 {sl : Nat} {sx : Nat → Int32} {d : Nat} {M0 : MM} {P : MM → Prop} (l0 : Nat) (l1 : Int64) (l3 : Int64) (s0 : Option Nat) (s1 : Int32) (M : MM) (hM : lenO M0 M) (h : w81_39  l0 l1 l3 s0 s1 M P) : R81 sl sx d M0 P 39 [some (vR (some l0)), some (vL l1), none, some (vL l3), none] [vI s1, vR s0] M := by
  obtain ⟨a1, he, h⟩ := h
  subst he
  refine RN_k (callX_det _) 1 _ _ _ _ (show kd M a1 7 ∧ (s1 = 0 ∨ s1 = 1) ∧ R81 sl sx d M0 P 42 [some (vR (some l0)), some (vL l1), none, some (vL l3), none] [] (sI M a1 7 s1) from ⟨h.1, h.2.1, ?_⟩)
  replace h := h.2.2
  refine RN_k (callX_det _) 3 _ _ _ _ (show kd (sI M a1 7 s1) l0 7 ∧ R81 sl sx d M0 P 47 [some (vR (some l0)), some (vL l1), none, some (vL l3), none] [vL (mL (sI M a1 7 s1) l0 3), vR (some l0)] (sI M a1 7 s1) from ⟨h.1, ?_⟩)
  replace h := h.2
  refine RN_k (callX_det _) 5 _ _ _ _ (show (0 < (lg_cmp ((mL (sI M a1 7 s1) l0 3) * l3) l1) → R81 sl sx d M0 P 58 [some (vR (some l0)), some (vL l1), none, some (vL l3), none] [vR (some l0)] (sI M a1 7 s1)) ∧ (¬ (0 < (lg_cmp ((mL (sI M a1 7 s1) l0 3) * l3) l1)) → R81 sl sx d M0 P 54 [some (vR (some l0)), some (vL l1), none, some (vL l3), none] [vR (some l0)] (sI M a1 7 s1)) from ⟨fun hc => ?_, fun hc => ?_⟩)
  · replace h := h.1 hc
    refine RN_k (callX_det _) 1 _ _ _ _ (show R81 sl sx d M0 P 59 [some (vR (some l0)), some (vL l1), none, some (vL l3), none] [vI (0 : Int32), vR (some l0)] (sI M a1 7 s1) from ?_)
    exact RN_weak (K := [some (vR (some l0)), none, none, none, none]) (callX_det _) (show _ ∧ True from ⟨rfl, trivial⟩) (t81_59  l0 (some l0) (0 : Int32) _ hM h)
  · replace h := h.2 hc
    refine RN_k (callX_det _) 2 _ _ _ _ (show R81 sl sx d M0 P 59 [some (vR (some l0)), some (vL l1), none, some (vL l3), none] [vI (1 : Int32), vR (some l0)] (sI M a1 7 s1) from ?_)
    exact RN_weak (K := [some (vR (some l0)), none, none, none, none]) (callX_det _) (show _ ∧ True from ⟨rfl, trivial⟩) (t81_59  l0 (some l0) (1 : Int32) _ hM h)
def w81 (l0 : Nat) (l1 : Int64) (l3 : Int64) (M : MM) (P : MM → Prop) : Prop := kd M l0 7 ∧ (kd (sL M l0 5 l3) l0 7 ∧ (kd (sL M l0 5 l3) l0 7 ∧ (kd (sL M l0 5 l3) l0 7 ∧ (kd (sL (sL M l0 5 l3) l0 6 (((mL (sL M l0 5 l3) l0 0) * l1) - ((mL (sL M l0 5 l3) l0 4) * l3))) l0 7 ∧ ((0 < (lg_cmp ((mL (sL (sL M l0 5 l3) l0 6 (((mL (sL M l0 5 l3) l0 0) * l1) - ((mL (sL M l0 5 l3) l0 4) * l3))) l0 2) * l3) l1) → (w81_39  l0 l1 l3 (some l0) (0 : Int32) (sL (sL M l0 5 l3) l0 6 (((mL (sL M l0 5 l3) l0 0) * l1) - ((mL (sL M l0 5 l3) l0 4) * l3))) P)) ∧ (¬ (0 < (lg_cmp ((mL (sL (sL M l0 5 l3) l0 6 (((mL (sL M l0 5 l3) l0 0) * l1) - ((mL (sL M l0 5 l3) l0 4) * l3))) l0 2) * l3) l1)) → (w81_39  l0 l1 l3 (some l0) (1 : Int32) (sL (sL M l0 5 l3) l0 6 (((mL (sL M l0 5 l3) l0 0) * l1) - ((mL (sL M l0 5 l3) l0 4) * l3))) P)))))))
theorem t81_E {sl : Nat} {sx : Nat → Int32} {d : Nat} {M0 : MM} {P : MM → Prop} (l0 : Nat) (l1 : Int64) (l3 : Int64) (M : MM) (hM : lenO M0 M) (h : w81  l0 l1 l3 M P) : R81 sl sx d M0 P 0 [some (vR (some l0)), some (vL l1), none, some (vL l3), none] [] M := by
  refine RN_k (callX_det _) 3 _ _ _ _ (show kd M l0 7 ∧ R81 sl sx d M0 P 5 [some (vR (some l0)), some (vL l1), none, some (vL l3), none] [] (sL M l0 5 l3) from ⟨h.1, ?_⟩)
  replace h := h.2
  refine RN_k (callX_det _) 3 _ _ _ _ (show kd (sL M l0 5 l3) l0 7 ∧ R81 sl sx d M0 P 10 [some (vR (some l0)), some (vL l1), none, some (vL l3), none] [vL (mL (sL M l0 5 l3) l0 0), vR (some l0)] (sL M l0 5 l3) from ⟨h.1, ?_⟩)
  replace h := h.2
  refine RN_k (callX_det _) 4 _ _ _ _ (show kd (sL M l0 5 l3) l0 7 ∧ R81 sl sx d M0 P 16 [some (vR (some l0)), some (vL l1), none, some (vL l3), none] [vL (mL (sL M l0 5 l3) l0 4), vL ((mL (sL M l0 5 l3) l0 0) * l1), vR (some l0)] (sL M l0 5 l3) from ⟨h.1, ?_⟩)
  replace h := h.2
  refine RN_k (callX_det _) 4 _ _ _ _ (show kd (sL M l0 5 l3) l0 7 ∧ R81 sl sx d M0 P 22 [some (vR (some l0)), some (vL l1), none, some (vL l3), none] [] (sL (sL M l0 5 l3) l0 6 (((mL (sL M l0 5 l3) l0 0) * l1) - ((mL (sL M l0 5 l3) l0 4) * l3))) from ⟨h.1, ?_⟩)
  replace h := h.2
  refine RN_k (callX_det _) 3 _ _ _ _ (show kd (sL (sL M l0 5 l3) l0 6 (((mL (sL M l0 5 l3) l0 0) * l1) - ((mL (sL M l0 5 l3) l0 4) * l3))) l0 7 ∧ R81 sl sx d M0 P 27 [some (vR (some l0)), some (vL l1), none, some (vL l3), none] [vL (mL (sL (sL M l0 5 l3) l0 6 (((mL (sL M l0 5 l3) l0 0) * l1) - ((mL (sL M l0 5 l3) l0 4) * l3))) l0 2), vR (some l0)] (sL (sL M l0 5 l3) l0 6 (((mL (sL M l0 5 l3) l0 0) * l1) - ((mL (sL M l0 5 l3) l0 4) * l3))) from ⟨h.1, ?_⟩)
  replace h := h.2
  refine RN_k (callX_det _) 5 _ _ _ _ (show (0 < (lg_cmp ((mL (sL (sL M l0 5 l3) l0 6 (((mL (sL M l0 5 l3) l0 0) * l1) - ((mL (sL M l0 5 l3) l0 4) * l3))) l0 2) * l3) l1) → R81 sl sx d M0 P 38 [some (vR (some l0)), some (vL l1), none, some (vL l3), none] [vR (some l0)] (sL (sL M l0 5 l3) l0 6 (((mL (sL M l0 5 l3) l0 0) * l1) - ((mL (sL M l0 5 l3) l0 4) * l3)))) ∧ (¬ (0 < (lg_cmp ((mL (sL (sL M l0 5 l3) l0 6 (((mL (sL M l0 5 l3) l0 0) * l1) - ((mL (sL M l0 5 l3) l0 4) * l3))) l0 2) * l3) l1)) → R81 sl sx d M0 P 34 [some (vR (some l0)), some (vL l1), none, some (vL l3), none] [vR (some l0)] (sL (sL M l0 5 l3) l0 6 (((mL (sL M l0 5 l3) l0 0) * l1) - ((mL (sL M l0 5 l3) l0 4) * l3)))) from ⟨fun hc => ?_, fun hc => ?_⟩)
  · replace h := h.1 hc
    refine RN_k (callX_det _) 1 _ _ _ _ (show R81 sl sx d M0 P 39 [some (vR (some l0)), some (vL l1), none, some (vL l3), none] [vI (0 : Int32), vR (some l0)] (sL (sL M l0 5 l3) l0 6 (((mL (sL M l0 5 l3) l0 0) * l1) - ((mL (sL M l0 5 l3) l0 4) * l3))) from ?_)
    exact RN_weak (K := [some (vR (some l0)), some (vL l1), none, some (vL l3), none]) (callX_det _) (show _ ∧ _ ∧ _ ∧ True from ⟨rfl, rfl, rfl, trivial⟩) (t81_39  l0 l1 l3 (some l0) (0 : Int32) _ hM h)
  · replace h := h.2 hc
    refine RN_k (callX_det _) 2 _ _ _ _ (show R81 sl sx d M0 P 39 [some (vR (some l0)), some (vL l1), none, some (vL l3), none] [vI (1 : Int32), vR (some l0)] (sL (sL M l0 5 l3) l0 6 (((mL (sL M l0 5 l3) l0 0) * l1) - ((mL (sL M l0 5 l3) l0 4) * l3))) from ?_)
    exact RN_weak (K := [some (vR (some l0)), some (vL l1), none, some (vL l3), none]) (callX_det _) (show _ ∧ _ ∧ _ ∧ True from ⟨rfl, rfl, rfl, trivial⟩) (t81_39  l0 l1 l3 (some l0) (1 : Int32) _ hM h)
theorem c81 {sl : Nat} {sx : Nat → Int32} {d : Nat} {l0 : Nat} {l1 : Int64} {l3 : Int64} {M : MM} {P : MM → Prop} (h : w81 l0 l1 l3 M P) : callX TBg sl sx (d + 2) 81 [vR (some l0), vL l1, vL l3] M (PV P) :=
  cX (d := d + 1) q81 (false, tb81) rfl rfl rfl (t81_E l0 l1 l3 M lenR h)
-- TwoLeash$Cells.lowerOf(II)LTwoLeash$Side;
abbrev q82 : MQ7 := (3, 1, 3, 1, 0, 0, 3)
abbrev R82 (sl : Nat) (sx : Nat → Int32) (d : Nat) (M0 : MM) (P : Option Nat → MM → Prop) : Nat → LL → List VV → MM → Prop := RN 1 false (mS M0).length (mT M0) 0 0 sl sx (callX TBg sl sx (d + 0)) (rtW q82 M0 (PR P)) (as2 tb82)
def w82 (l0 : Nat) (l1 : Int32) (l2 : Int32) (M : MM) (P : Option Nat → MM → Prop) : Prop := kd M l0 1 ∧ (∃ a1, mR M l0 0 = some a1 ∧ (inb M a1 15 ((l1 * (8 : Int32)) + l2) ∧ (P (mR M a1 ((l1 * (8 : Int32)) + l2).toNatClampNeg) M)))
theorem t82_E {sl : Nat} {sx : Nat → Int32} {d : Nat} {M0 : MM} {P : Option Nat → MM → Prop} (l0 : Nat) (l1 : Int32) (l2 : Int32) (M : MM) (hM : lenO M0 M) (h : w82  l0 l1 l2 M P) : R82 sl sx d M0 P 0 [some (vR (some l0)), some (vI l1), some (vI l2)] [] M := by
  refine RN_k (callX_det _) 2 _ _ _ _ (show kd M l0 1 ∧ R82 sl sx d M0 P 4 [some (vR (some l0)), some (vI l1), some (vI l2)] [vR (mR M l0 0)] M from ⟨h.1, ?_⟩)
  replace h := h.2
  obtain ⟨a1, he, h⟩ := h
  refine RN_k (callX_det _) 5 _ _ _ _ (show R82 sl sx d M0 P 10 [some (vR (some l0)), some (vI l1), some (vI l2)] [vI ((l1 * (8 : Int32)) + l2), vR (mR M l0 0)] M from ?_)
  rw [he]
  refine RN_k (callX_det _) 1 _ _ _ _ (show inb M a1 15 ((l1 * (8 : Int32)) + l2) ∧ R82 sl sx d M0 P 11 [some (vR (some l0)), some (vI l1), some (vI l2)] [vR (mR M a1 ((l1 * (8 : Int32)) + l2).toNatClampNeg)] M from ⟨h.1, ?_⟩)
  replace h := h.2
  exact RN_k (callX_det _) 1 _ _ _ _ (show rtW q82 M0 (PR P) (some (vR (mR M a1 ((l1 * (8 : Int32)) + l2).toNatClampNeg))) M from ⟨⟨_, rfl⟩, hM.1, hM.2, _, rfl, h⟩)
theorem c82 {sl : Nat} {sx : Nat → Int32} {d : Nat} {l0 : Nat} {l1 : Int32} {l2 : Int32} {M : MM} {P : Option Nat → MM → Prop} (h : w82 l0 l1 l2 M P) : callX TBg sl sx (d + 1) 82 [vR (some l0), vI l1, vI l2] M (PR P) :=
  cX (d := d + 0) q82 (false, tb82) rfl rfl rfl (t82_E l0 l1 l2 M lenR h)
-- TwoLeash$Cells.leftOf(II)LTwoLeash$Side;
abbrev q83 : MQ7 := (3, 1, 3, 1, 0, 0, 3)
abbrev R83 (sl : Nat) (sx : Nat → Int32) (d : Nat) (M0 : MM) (P : Option Nat → MM → Prop) : Nat → LL → List VV → MM → Prop := RN 1 false (mS M0).length (mT M0) 0 0 sl sx (callX TBg sl sx (d + 0)) (rtW q83 M0 (PR P)) (as2 tb83)
def w83 (l0 : Nat) (l1 : Int32) (l2 : Int32) (M : MM) (P : Option Nat → MM → Prop) : Prop := kd M l0 1 ∧ (∃ a1, mR M l0 0 = some a1 ∧ (inb M a1 15 ((((7 : Int32) + l2) * (8 : Int32)) + l1) ∧ (P (mR M a1 ((((7 : Int32) + l2) * (8 : Int32)) + l1).toNatClampNeg) M)))
theorem t83_E {sl : Nat} {sx : Nat → Int32} {d : Nat} {M0 : MM} {P : Option Nat → MM → Prop} (l0 : Nat) (l1 : Int32) (l2 : Int32) (M : MM) (hM : lenO M0 M) (h : w83  l0 l1 l2 M P) : R83 sl sx d M0 P 0 [some (vR (some l0)), some (vI l1), some (vI l2)] [] M := by
  refine RN_k (callX_det _) 2 _ _ _ _ (show kd M l0 1 ∧ R83 sl sx d M0 P 4 [some (vR (some l0)), some (vI l1), some (vI l2)] [vR (mR M l0 0)] M from ⟨h.1, ?_⟩)
  replace h := h.2
  obtain ⟨a1, he, h⟩ := h
  refine RN_k (callX_det _) 7 _ _ _ _ (show R83 sl sx d M0 P 13 [some (vR (some l0)), some (vI l1), some (vI l2)] [vI ((((7 : Int32) + l2) * (8 : Int32)) + l1), vR (mR M l0 0)] M from ?_)
  rw [he]
  refine RN_k (callX_det _) 1 _ _ _ _ (show inb M a1 15 ((((7 : Int32) + l2) * (8 : Int32)) + l1) ∧ R83 sl sx d M0 P 14 [some (vR (some l0)), some (vI l1), some (vI l2)] [vR (mR M a1 ((((7 : Int32) + l2) * (8 : Int32)) + l1).toNatClampNeg)] M from ⟨h.1, ?_⟩)
  replace h := h.2
  exact RN_k (callX_det _) 1 _ _ _ _ (show rtW q83 M0 (PR P) (some (vR (mR M a1 ((((7 : Int32) + l2) * (8 : Int32)) + l1).toNatClampNeg))) M from ⟨⟨_, rfl⟩, hM.1, hM.2, _, rfl, h⟩)
theorem c83 {sl : Nat} {sx : Nat → Int32} {d : Nat} {l0 : Nat} {l1 : Int32} {l2 : Int32} {M : MM} {P : Option Nat → MM → Prop} (h : w83 l0 l1 l2 M P) : callX TBg sl sx (d + 1) 83 [vR (some l0), vI l1, vI l2] M (PR P) :=
  cX (d := d + 0) q83 (false, tb83) rfl rfl rfl (t83_E l0 l1 l2 M lenR h)
-- TwoLeash$Side.signOf(JJJ)I
abbrev q86 : MQ7 := (3, 0, 20, 7, 0, 0, 1)
abbrev R86 (sl : Nat) (sx : Nat → Int32) (d : Nat) (M0 : MM) (P : Int32 → MM → Prop) : Nat → LL → List VV → MM → Prop := RN 7 false (mS M0).length (mT M0) 0 0 sl sx (callX TBg sl sx (d + 0)) (rtW q86 M0 (PI P)) (as2 tb86)
def w86_73 (l6 : Int32) (M : MM) (P : Int32 → MM → Prop) : Prop := P l6 M
theorem t86_73 {sl : Nat} {sx : Nat → Int32} {d : Nat} {M0 : MM} {P : Int32 → MM → Prop} (l6 : Int32) (M : MM) (hM : lenO M0 M) (h : w86_73  l6 M P) : R86 sl sx d M0 P 73 [none, none, none, none, none, none, some (vI l6), none, none, none, none, none, none, none, none, none, none, none, none, none] [] M := by
  exact RN_k (callX_det _) 2 _ _ _ _ (show rtW q86 M0 (PI P) (some (vI l6)) M from ⟨⟨_, rfl⟩, hM.1, hM.2, _, rfl, h⟩)
def w86_212 (s0 : Int32) (M : MM) (P : Int32 → MM → Prop) : Prop := P s0 M
theorem t86_212 {sl : Nat} {sx : Nat → Int32} {d : Nat} {M0 : MM} {P : Int32 → MM → Prop} (s0 : Int32) (M : MM) (hM : lenO M0 M) (h : w86_212  s0 M P) : R86 sl sx d M0 P 212 [none, none, none, none, none, none, none, none, none, none, none, none, none, none, none, none, none, none, none, none] [vI s0] M := by
  exact RN_k (callX_det _) 1 _ _ _ _ (show rtW q86 M0 (PI P) (some (vI s0)) M from ⟨⟨_, rfl⟩, hM.1, hM.2, _, rfl, h⟩)
def w86_109 (l6 : Int32) (M : MM) (P : Int32 → MM → Prop) : Prop := P l6 M
theorem t86_109 {sl : Nat} {sx : Nat → Int32} {d : Nat} {M0 : MM} {P : Int32 → MM → Prop} (l6 : Int32) (M : MM) (hM : lenO M0 M) (h : w86_109  l6 M P) : R86 sl sx d M0 P 109 [none, none, none, none, none, none, some (vI l6), none, none, none, none, none, none, none, none, none, none, none, none, none] [] M := by
  exact RN_k (callX_det _) 2 _ _ _ _ (show rtW q86 M0 (PI P) (some (vI l6)) M from ⟨⟨_, rfl⟩, hM.1, hM.2, _, rfl, h⟩)
def w86_51 (l0 : Int64) (l2 : Int64) (l4 : Int64) (l6 : Int32) (s0 : Int32) (M : MM) (P : Int32 → MM → Prop) : Prop := (l6 ≠ 0 → ((s0 = 0 → (w86_73  l6 M P)) ∧ (¬ (s0 = 0) → ((l6 ≠ s0 → (((lg_cmp (s0.toInt64 * l2) (0 : Int64)) ≤ 0 → (w86_109  l6 M P)) ∧ (¬ ((lg_cmp (s0.toInt64 * l2) (0 : Int64)) ≤ 0) → (¬ (s0.toInt64 * l2) = 0 ∧ (((lg_cmp ((l6.toInt64 * l0) / (s0.toInt64 * l2)) (2000000000 : Int64)) ≤ 0 → (¬ (s0.toInt64 * l2) = 0 ∧ (¬ (s0.toInt64 * l2) = 0 ∧ ((0 ≤ (lg_cmp (l4 - (((l6.toInt64 * l0) / (s0.toInt64 * l2)) * ((l6.toInt64 * l0) / (s0.toInt64 * l2)))) (0 : Int64)) → (((lg_cmp (l4 - (((l6.toInt64 * l0) / (s0.toInt64 * l2)) * ((l6.toInt64 * l0) / (s0.toInt64 * l2)))) ((2 : Int64) * ((l6.toInt64 * l0) / (s0.toInt64 * l2)))) ≤ 0 → (((lg_cmp ((((((2 : Int64) * ((l6.toInt64 * l0) / (s0.toInt64 * l2))) * (s0.toInt64 * l2)) + ((l6.toInt64 * l0) - (l6.toInt64 * l0) / (s0.toInt64 * l2) * (s0.toInt64 * l2))) * ((l6.toInt64 * l0) - (l6.toInt64 * l0) / (s0.toInt64 * l2) * (s0.toInt64 * l2))) - (((l4 - (((l6.toInt64 * l0) / (s0.toInt64 * l2)) * ((l6.toInt64 * l0) / (s0.toInt64 * l2)))) * (s0.toInt64 * l2)) * (s0.toInt64 * l2))) (0 : Int64)) ≤ 0 → ((0 ≤ (lg_cmp ((((((2 : Int64) * ((l6.toInt64 * l0) / (s0.toInt64 * l2))) * (s0.toInt64 * l2)) + ((l6.toInt64 * l0) - (l6.toInt64 * l0) / (s0.toInt64 * l2) * (s0.toInt64 * l2))) * ((l6.toInt64 * l0) - (l6.toInt64 * l0) / (s0.toInt64 * l2) * (s0.toInt64 * l2))) - (((l4 - (((l6.toInt64 * l0) / (s0.toInt64 * l2)) * ((l6.toInt64 * l0) / (s0.toInt64 * l2)))) * (s0.toInt64 * l2)) * (s0.toInt64 * l2))) (0 : Int64)) → (w86_212  (0 : Int32) M P)) ∧ (¬ (0 ≤ (lg_cmp ((((((2 : Int64) * ((l6.toInt64 * l0) / (s0.toInt64 * l2))) * (s0.toInt64 * l2)) + ((l6.toInt64 * l0) - (l6.toInt64 * l0) / (s0.toInt64 * l2) * (s0.toInt64 * l2))) * ((l6.toInt64 * l0) - (l6.toInt64 * l0) / (s0.toInt64 * l2) * (s0.toInt64 * l2))) - (((l4 - (((l6.toInt64 * l0) / (s0.toInt64 * l2)) * ((l6.toInt64 * l0) / (s0.toInt64 * l2)))) * (s0.toInt64 * l2)) * (s0.toInt64 * l2))) (0 : Int64))) → (w86_212  s0 M P)))) ∧ (¬ ((lg_cmp ((((((2 : Int64) * ((l6.toInt64 * l0) / (s0.toInt64 * l2))) * (s0.toInt64 * l2)) + ((l6.toInt64 * l0) - (l6.toInt64 * l0) / (s0.toInt64 * l2) * (s0.toInt64 * l2))) * ((l6.toInt64 * l0) - (l6.toInt64 * l0) / (s0.toInt64 * l2) * (s0.toInt64 * l2))) - (((l4 - (((l6.toInt64 * l0) / (s0.toInt64 * l2)) * ((l6.toInt64 * l0) / (s0.toInt64 * l2)))) * (s0.toInt64 * l2)) * (s0.toInt64 * l2))) (0 : Int64)) ≤ 0) → (w86_212  l6 M P)))) ∧ (¬ ((lg_cmp (l4 - (((l6.toInt64 * l0) / (s0.toInt64 * l2)) * ((l6.toInt64 * l0) / (s0.toInt64 * l2)))) ((2 : Int64) * ((l6.toInt64 * l0) / (s0.toInt64 * l2)))) ≤ 0) → (P s0 M)))) ∧ (¬ (0 ≤ (lg_cmp (l4 - (((l6.toInt64 * l0) / (s0.toInt64 * l2)) * ((l6.toInt64 * l0) / (s0.toInt64 * l2)))) (0 : Int64))) → (P l6 M)))))) ∧ (¬ ((lg_cmp ((l6.toInt64 * l0) / (s0.toInt64 * l2)) (2000000000 : Int64)) ≤ 0) → (w86_109  l6 M P))))))) ∧ (¬ (l6 ≠ s0) → (w86_73  l6 M P)))))) ∧ (¬ (l6 ≠ 0) → (P s0 M))
theorem t86_51 {sl : Nat} {sx : Nat → Int32} {d : Nat} {M0 : MM} {P : Int32 → MM → Prop} (l0 : Int64) (l2 : Int64) (l4 : Int64) (l6 : Int32) (s0 : Int32) (M : MM) (hM : lenO M0 M) (h : w86_51  l0 l2 l4 l6 s0 M P) : R86 sl sx d M0 P 51 [some (vL l0), none, some (vL l2), none, some (vL l4), none, some (vI l6), none, none, none, none, none, none, none, none, none, none, none, none, none] [vI s0] M := by
  refine RN_k (callX_det _) 3 _ _ _ _ (show (l6 ≠ 0 → R86 sl sx d M0 P 61 [some (vL l0), none, some (vL l2), none, some (vL l4), none, some (vI l6), some (vI s0), none, none, none, none, none, none, none, none, none, none, none, none] [] M) ∧ (¬ (l6 ≠ 0) → R86 sl sx d M0 P 58 [some (vL l0), none, some (vL l2), none, some (vL l4), none, some (vI l6), some (vI s0), none, none, none, none, none, none, none, none, none, none, none, none] [] M) from ⟨fun hc => ?_, fun hc => ?_⟩)
  · replace h := h.1 hc
    refine RN_k (callX_det _) 2 _ _ _ _ (show (s0 = 0 → R86 sl sx d M0 P 73 [some (vL l0), none, some (vL l2), none, some (vL l4), none, some (vI l6), some (vI s0), none, none, none, none, none, none, none, none, none, none, none, none] [] M) ∧ (¬ (s0 = 0) → R86 sl sx d M0 P 66 [some (vL l0), none, some (vL l2), none, some (vL l4), none, some (vI l6), some (vI s0), none, none, none, none, none, none, none, none, none, none, none, none] [] M) from ⟨fun hc => ?_, fun hc => ?_⟩)
    · replace h := h.1 hc
      exact RN_weak (K := [none, none, none, none, none, none, some (vI l6), none, none, none, none, none, none, none, none, none, none, none, none, none]) (callX_det _) (show _ ∧ True from ⟨rfl, trivial⟩) (t86_73  l6 _ hM h)
    · replace h := h.2 hc
      refine RN_k (callX_det _) 3 _ _ _ _ (show (l6 ≠ s0 → R86 sl sx d M0 P 76 [some (vL l0), none, some (vL l2), none, some (vL l4), none, some (vI l6), some (vI s0), none, none, none, none, none, none, none, none, none, none, none, none] [] M) ∧ (¬ (l6 ≠ s0) → R86 sl sx d M0 P 73 [some (vL l0), none, some (vL l2), none, some (vL l4), none, some (vI l6), some (vI s0), none, none, none, none, none, none, none, none, none, none, none, none] [] M) from ⟨fun hc => ?_, fun hc => ?_⟩)
      · replace h := h.1 hc
        refine RN_k (callX_det _) 14 _ _ _ _ (show ((lg_cmp (s0.toInt64 * l2) (0 : Int64)) ≤ 0 → R86 sl sx d M0 P 109 [some (vL l0), none, some (vL l2), none, some (vL l4), none, some (vI l6), some (vI s0), some (vL (s0.toInt64 * l2)), none, some (vL (l6.toInt64 * l0)), none, none, none, none, none, none, none, none, none] [] M) ∧ (¬ ((lg_cmp (s0.toInt64 * l2) (0 : Int64)) ≤ 0) → R86 sl sx d M0 P 97 [some (vL l0), none, some (vL l2), none, some (vL l4), none, some (vI l6), some (vI s0), some (vL (s0.toInt64 * l2)), none, some (vL (l6.toInt64 * l0)), none, none, none, none, none, none, none, none, none] [] M) from ⟨fun hc => ?_, fun hc => ?_⟩)
        · replace h := h.1 hc
          exact RN_weak (K := [none, none, none, none, none, none, some (vI l6), none, none, none, none, none, none, none, none, none, none, none, none, none]) (callX_det _) (show _ ∧ True from ⟨rfl, trivial⟩) (t86_109  l6 _ hM h)
        · replace h := h.2 hc
          refine RN_k (callX_det _) 3 _ _ _ _ (show ¬ (s0.toInt64 * l2) = 0 ∧ R86 sl sx d M0 P 102 [some (vL l0), none, some (vL l2), none, some (vL l4), none, some (vI l6), some (vI s0), some (vL (s0.toInt64 * l2)), none, some (vL (l6.toInt64 * l0)), none, none, none, none, none, none, none, none, none] [vL ((l6.toInt64 * l0) / (s0.toInt64 * l2))] M from ⟨h.1, ?_⟩)
          replace h := h.2
          refine RN_k (callX_det _) 3 _ _ _ _ (show ((lg_cmp ((l6.toInt64 * l0) / (s0.toInt64 * l2)) (2000000000 : Int64)) ≤ 0 → R86 sl sx d M0 P 112 [some (vL l0), none, some (vL l2), none, some (vL l4), none, some (vI l6), some (vI s0), some (vL (s0.toInt64 * l2)), none, some (vL (l6.toInt64 * l0)), none, none, none, none, none, none, none, none, none] [] M) ∧ (¬ ((lg_cmp ((l6.toInt64 * l0) / (s0.toInt64 * l2)) (2000000000 : Int64)) ≤ 0) → R86 sl sx d M0 P 109 [some (vL l0), none, some (vL l2), none, some (vL l4), none, some (vI l6), some (vI s0), some (vL (s0.toInt64 * l2)), none, some (vL (l6.toInt64 * l0)), none, none, none, none, none, none, none, none, none] [] M) from ⟨fun hc => ?_, fun hc => ?_⟩)
          · replace h := h.1 hc
            refine RN_k (callX_det _) 3 _ _ _ _ (show ¬ (s0.toInt64 * l2) = 0 ∧ R86 sl sx d M0 P 117 [some (vL l0), none, some (vL l2), none, some (vL l4), none, some (vI l6), some (vI s0), some (vL (s0.toInt64 * l2)), none, some (vL (l6.toInt64 * l0)), none, none, none, none, none, none, none, none, none] [vL ((l6.toInt64 * l0) / (s0.toInt64 * l2))] M from ⟨h.1, ?_⟩)
            replace h := h.2
            refine RN_k (callX_det _) 4 _ _ _ _ (show ¬ (s0.toInt64 * l2) = 0 ∧ R86 sl sx d M0 P 124 [some (vL l0), none, some (vL l2), none, some (vL l4), none, some (vI l6), some (vI s0), some (vL (s0.toInt64 * l2)), none, some (vL (l6.toInt64 * l0)), none, some (vL ((l6.toInt64 * l0) / (s0.toInt64 * l2))), none, none, none, none, none, none, none] [vL ((l6.toInt64 * l0) - (l6.toInt64 * l0) / (s0.toInt64 * l2) * (s0.toInt64 * l2))] M from ⟨h.1, ?_⟩)
            replace h := h.2
            refine RN_k (callX_det _) 11 _ _ _ _ (show (0 ≤ (lg_cmp (l4 - (((l6.toInt64 * l0) / (s0.toInt64 * l2)) * ((l6.toInt64 * l0) / (s0.toInt64 * l2)))) (0 : Int64)) → R86 sl sx d M0 P 146 [some (vL l0), none, some (vL l2), none, some (vL l4), none, some (vI l6), some (vI s0), some (vL (s0.toInt64 * l2)), none, some (vL (l6.toInt64 * l0)), none, some (vL ((l6.toInt64 * l0) / (s0.toInt64 * l2))), none, some (vL ((l6.toInt64 * l0) - (l6.toInt64 * l0) / (s0.toInt64 * l2) * (s0.toInt64 * l2))), none, some (vL (l4 - (((l6.toInt64 * l0) / (s0.toInt64 * l2)) * ((l6.toInt64 * l0) / (s0.toInt64 * l2))))), none, none, none] [] M) ∧ (¬ (0 ≤ (lg_cmp (l4 - (((l6.toInt64 * l0) / (s0.toInt64 * l2)) * ((l6.toInt64 * l0) / (s0.toInt64 * l2)))) (0 : Int64))) → R86 sl sx d M0 P 143 [some (vL l0), none, some (vL l2), none, some (vL l4), none, some (vI l6), some (vI s0), some (vL (s0.toInt64 * l2)), none, some (vL (l6.toInt64 * l0)), none, some (vL ((l6.toInt64 * l0) / (s0.toInt64 * l2))), none, some (vL ((l6.toInt64 * l0) - (l6.toInt64 * l0) / (s0.toInt64 * l2) * (s0.toInt64 * l2))), none, some (vL (l4 - (((l6.toInt64 * l0) / (s0.toInt64 * l2)) * ((l6.toInt64 * l0) / (s0.toInt64 * l2))))), none, none, none] [] M) from ⟨fun hc => ?_, fun hc => ?_⟩)
            · replace h := h.1 hc
              refine RN_k (callX_det _) 6 _ _ _ _ (show ((lg_cmp (l4 - (((l6.toInt64 * l0) / (s0.toInt64 * l2)) * ((l6.toInt64 * l0) / (s0.toInt64 * l2)))) ((2 : Int64) * ((l6.toInt64 * l0) / (s0.toInt64 * l2)))) ≤ 0 → R86 sl sx d M0 P 161 [some (vL l0), none, some (vL l2), none, some (vL l4), none, some (vI l6), some (vI s0), some (vL (s0.toInt64 * l2)), none, some (vL (l6.toInt64 * l0)), none, some (vL ((l6.toInt64 * l0) / (s0.toInt64 * l2))), none, some (vL ((l6.toInt64 * l0) - (l6.toInt64 * l0) / (s0.toInt64 * l2) * (s0.toInt64 * l2))), none, some (vL (l4 - (((l6.toInt64 * l0) / (s0.toInt64 * l2)) * ((l6.toInt64 * l0) / (s0.toInt64 * l2))))), none, none, none] [] M) ∧ (¬ ((lg_cmp (l4 - (((l6.toInt64 * l0) / (s0.toInt64 * l2)) * ((l6.toInt64 * l0) / (s0.toInt64 * l2)))) ((2 : Int64) * ((l6.toInt64 * l0) / (s0.toInt64 * l2)))) ≤ 0) → R86 sl sx d M0 P 158 [some (vL l0), none, some (vL l2), none, some (vL l4), none, some (vI l6), some (vI s0), some (vL (s0.toInt64 * l2)), none, some (vL (l6.toInt64 * l0)), none, some (vL ((l6.toInt64 * l0) / (s0.toInt64 * l2))), none, some (vL ((l6.toInt64 * l0) - (l6.toInt64 * l0) / (s0.toInt64 * l2) * (s0.toInt64 * l2))), none, some (vL (l4 - (((l6.toInt64 * l0) / (s0.toInt64 * l2)) * ((l6.toInt64 * l0) / (s0.toInt64 * l2))))), none, none, none] [] M) from ⟨fun hc => ?_, fun hc => ?_⟩)
              · replace h := h.1 hc
                refine RN_k (callX_det _) 20 _ _ _ _ (show ((lg_cmp ((((((2 : Int64) * ((l6.toInt64 * l0) / (s0.toInt64 * l2))) * (s0.toInt64 * l2)) + ((l6.toInt64 * l0) - (l6.toInt64 * l0) / (s0.toInt64 * l2) * (s0.toInt64 * l2))) * ((l6.toInt64 * l0) - (l6.toInt64 * l0) / (s0.toInt64 * l2) * (s0.toInt64 * l2))) - (((l4 - (((l6.toInt64 * l0) / (s0.toInt64 * l2)) * ((l6.toInt64 * l0) / (s0.toInt64 * l2)))) * (s0.toInt64 * l2)) * (s0.toInt64 * l2))) (0 : Int64)) ≤ 0 → R86 sl sx d M0 P 199 [some (vL l0), none, some (vL l2), none, some (vL l4), none, some (vI l6), some (vI s0), some (vL (s0.toInt64 * l2)), none, some (vL (l6.toInt64 * l0)), none, some (vL ((l6.toInt64 * l0) / (s0.toInt64 * l2))), none, some (vL ((l6.toInt64 * l0) - (l6.toInt64 * l0) / (s0.toInt64 * l2) * (s0.toInt64 * l2))), none, some (vL (l4 - (((l6.toInt64 * l0) / (s0.toInt64 * l2)) * ((l6.toInt64 * l0) / (s0.toInt64 * l2))))), none, some (vL ((((((2 : Int64) * ((l6.toInt64 * l0) / (s0.toInt64 * l2))) * (s0.toInt64 * l2)) + ((l6.toInt64 * l0) - (l6.toInt64 * l0) / (s0.toInt64 * l2) * (s0.toInt64 * l2))) * ((l6.toInt64 * l0) - (l6.toInt64 * l0) / (s0.toInt64 * l2) * (s0.toInt64 * l2))) - (((l4 - (((l6.toInt64 * l0) / (s0.toInt64 * l2)) * ((l6.toInt64 * l0) / (s0.toInt64 * l2)))) * (s0.toInt64 * l2)) * (s0.toInt64 * l2)))), none] [] M) ∧ (¬ ((lg_cmp ((((((2 : Int64) * ((l6.toInt64 * l0) / (s0.toInt64 * l2))) * (s0.toInt64 * l2)) + ((l6.toInt64 * l0) - (l6.toInt64 * l0) / (s0.toInt64 * l2) * (s0.toInt64 * l2))) * ((l6.toInt64 * l0) - (l6.toInt64 * l0) / (s0.toInt64 * l2) * (s0.toInt64 * l2))) - (((l4 - (((l6.toInt64 * l0) / (s0.toInt64 * l2)) * ((l6.toInt64 * l0) / (s0.toInt64 * l2)))) * (s0.toInt64 * l2)) * (s0.toInt64 * l2))) (0 : Int64)) ≤ 0) → R86 sl sx d M0 P 194 [some (vL l0), none, some (vL l2), none, some (vL l4), none, some (vI l6), some (vI s0), some (vL (s0.toInt64 * l2)), none, some (vL (l6.toInt64 * l0)), none, some (vL ((l6.toInt64 * l0) / (s0.toInt64 * l2))), none, some (vL ((l6.toInt64 * l0) - (l6.toInt64 * l0) / (s0.toInt64 * l2) * (s0.toInt64 * l2))), none, some (vL (l4 - (((l6.toInt64 * l0) / (s0.toInt64 * l2)) * ((l6.toInt64 * l0) / (s0.toInt64 * l2))))), none, some (vL ((((((2 : Int64) * ((l6.toInt64 * l0) / (s0.toInt64 * l2))) * (s0.toInt64 * l2)) + ((l6.toInt64 * l0) - (l6.toInt64 * l0) / (s0.toInt64 * l2) * (s0.toInt64 * l2))) * ((l6.toInt64 * l0) - (l6.toInt64 * l0) / (s0.toInt64 * l2) * (s0.toInt64 * l2))) - (((l4 - (((l6.toInt64 * l0) / (s0.toInt64 * l2)) * ((l6.toInt64 * l0) / (s0.toInt64 * l2)))) * (s0.toInt64 * l2)) * (s0.toInt64 * l2)))), none] [] M) from ⟨fun hc => ?_, fun hc => ?_⟩)
                · replace h := h.1 hc
                  refine RN_k (callX_det _) 4 _ _ _ _ (show (0 ≤ (lg_cmp ((((((2 : Int64) * ((l6.toInt64 * l0) / (s0.toInt64 * l2))) * (s0.toInt64 * l2)) + ((l6.toInt64 * l0) - (l6.toInt64 * l0) / (s0.toInt64 * l2) * (s0.toInt64 * l2))) * ((l6.toInt64 * l0) - (l6.toInt64 * l0) / (s0.toInt64 * l2) * (s0.toInt64 * l2))) - (((l4 - (((l6.toInt64 * l0) / (s0.toInt64 * l2)) * ((l6.toInt64 * l0) / (s0.toInt64 * l2)))) * (s0.toInt64 * l2)) * (s0.toInt64 * l2))) (0 : Int64)) → R86 sl sx d M0 P 211 [some (vL l0), none, some (vL l2), none, some (vL l4), none, some (vI l6), some (vI s0), some (vL (s0.toInt64 * l2)), none, some (vL (l6.toInt64 * l0)), none, some (vL ((l6.toInt64 * l0) / (s0.toInt64 * l2))), none, some (vL ((l6.toInt64 * l0) - (l6.toInt64 * l0) / (s0.toInt64 * l2) * (s0.toInt64 * l2))), none, some (vL (l4 - (((l6.toInt64 * l0) / (s0.toInt64 * l2)) * ((l6.toInt64 * l0) / (s0.toInt64 * l2))))), none, some (vL ((((((2 : Int64) * ((l6.toInt64 * l0) / (s0.toInt64 * l2))) * (s0.toInt64 * l2)) + ((l6.toInt64 * l0) - (l6.toInt64 * l0) / (s0.toInt64 * l2) * (s0.toInt64 * l2))) * ((l6.toInt64 * l0) - (l6.toInt64 * l0) / (s0.toInt64 * l2) * (s0.toInt64 * l2))) - (((l4 - (((l6.toInt64 * l0) / (s0.toInt64 * l2)) * ((l6.toInt64 * l0) / (s0.toInt64 * l2)))) * (s0.toInt64 * l2)) * (s0.toInt64 * l2)))), none] [] M) ∧ (¬ (0 ≤ (lg_cmp ((((((2 : Int64) * ((l6.toInt64 * l0) / (s0.toInt64 * l2))) * (s0.toInt64 * l2)) + ((l6.toInt64 * l0) - (l6.toInt64 * l0) / (s0.toInt64 * l2) * (s0.toInt64 * l2))) * ((l6.toInt64 * l0) - (l6.toInt64 * l0) / (s0.toInt64 * l2) * (s0.toInt64 * l2))) - (((l4 - (((l6.toInt64 * l0) / (s0.toInt64 * l2)) * ((l6.toInt64 * l0) / (s0.toInt64 * l2)))) * (s0.toInt64 * l2)) * (s0.toInt64 * l2))) (0 : Int64))) → R86 sl sx d M0 P 206 [some (vL l0), none, some (vL l2), none, some (vL l4), none, some (vI l6), some (vI s0), some (vL (s0.toInt64 * l2)), none, some (vL (l6.toInt64 * l0)), none, some (vL ((l6.toInt64 * l0) / (s0.toInt64 * l2))), none, some (vL ((l6.toInt64 * l0) - (l6.toInt64 * l0) / (s0.toInt64 * l2) * (s0.toInt64 * l2))), none, some (vL (l4 - (((l6.toInt64 * l0) / (s0.toInt64 * l2)) * ((l6.toInt64 * l0) / (s0.toInt64 * l2))))), none, some (vL ((((((2 : Int64) * ((l6.toInt64 * l0) / (s0.toInt64 * l2))) * (s0.toInt64 * l2)) + ((l6.toInt64 * l0) - (l6.toInt64 * l0) / (s0.toInt64 * l2) * (s0.toInt64 * l2))) * ((l6.toInt64 * l0) - (l6.toInt64 * l0) / (s0.toInt64 * l2) * (s0.toInt64 * l2))) - (((l4 - (((l6.toInt64 * l0) / (s0.toInt64 * l2)) * ((l6.toInt64 * l0) / (s0.toInt64 * l2)))) * (s0.toInt64 * l2)) * (s0.toInt64 * l2)))), none] [] M) from ⟨fun hc => ?_, fun hc => ?_⟩)
                  · replace h := h.1 hc
                    refine RN_k (callX_det _) 1 _ _ _ _ (show R86 sl sx d M0 P 212 [some (vL l0), none, some (vL l2), none, some (vL l4), none, some (vI l6), some (vI s0), some (vL (s0.toInt64 * l2)), none, some (vL (l6.toInt64 * l0)), none, some (vL ((l6.toInt64 * l0) / (s0.toInt64 * l2))), none, some (vL ((l6.toInt64 * l0) - (l6.toInt64 * l0) / (s0.toInt64 * l2) * (s0.toInt64 * l2))), none, some (vL (l4 - (((l6.toInt64 * l0) / (s0.toInt64 * l2)) * ((l6.toInt64 * l0) / (s0.toInt64 * l2))))), none, some (vL ((((((2 : Int64) * ((l6.toInt64 * l0) / (s0.toInt64 * l2))) * (s0.toInt64 * l2)) + ((l6.toInt64 * l0) - (l6.toInt64 * l0) / (s0.toInt64 * l2) * (s0.toInt64 * l2))) * ((l6.toInt64 * l0) - (l6.toInt64 * l0) / (s0.toInt64 * l2) * (s0.toInt64 * l2))) - (((l4 - (((l6.toInt64 * l0) / (s0.toInt64 * l2)) * ((l6.toInt64 * l0) / (s0.toInt64 * l2)))) * (s0.toInt64 * l2)) * (s0.toInt64 * l2)))), none] [vI (0 : Int32)] M from ?_)
                    exact RN_weak (K := [none, none, none, none, none, none, none, none, none, none, none, none, none, none, none, none, none, none, none, none]) (callX_det _) (show True from trivial) (t86_212  (0 : Int32) _ hM h)
                  · replace h := h.2 hc
                    refine RN_k (callX_det _) 2 _ _ _ _ (show R86 sl sx d M0 P 212 [some (vL l0), none, some (vL l2), none, some (vL l4), none, some (vI l6), some (vI s0), some (vL (s0.toInt64 * l2)), none, some (vL (l6.toInt64 * l0)), none, some (vL ((l6.toInt64 * l0) / (s0.toInt64 * l2))), none, some (vL ((l6.toInt64 * l0) - (l6.toInt64 * l0) / (s0.toInt64 * l2) * (s0.toInt64 * l2))), none, some (vL (l4 - (((l6.toInt64 * l0) / (s0.toInt64 * l2)) * ((l6.toInt64 * l0) / (s0.toInt64 * l2))))), none, some (vL ((((((2 : Int64) * ((l6.toInt64 * l0) / (s0.toInt64 * l2))) * (s0.toInt64 * l2)) + ((l6.toInt64 * l0) - (l6.toInt64 * l0) / (s0.toInt64 * l2) * (s0.toInt64 * l2))) * ((l6.toInt64 * l0) - (l6.toInt64 * l0) / (s0.toInt64 * l2) * (s0.toInt64 * l2))) - (((l4 - (((l6.toInt64 * l0) / (s0.toInt64 * l2)) * ((l6.toInt64 * l0) / (s0.toInt64 * l2)))) * (s0.toInt64 * l2)) * (s0.toInt64 * l2)))), none] [vI s0] M from ?_)
                    exact RN_weak (K := [none, none, none, none, none, none, none, none, none, none, none, none, none, none, none, none, none, none, none, none]) (callX_det _) (show True from trivial) (t86_212  s0 _ hM h)
                · replace h := h.2 hc
                  refine RN_k (callX_det _) 2 _ _ _ _ (show R86 sl sx d M0 P 212 [some (vL l0), none, some (vL l2), none, some (vL l4), none, some (vI l6), some (vI s0), some (vL (s0.toInt64 * l2)), none, some (vL (l6.toInt64 * l0)), none, some (vL ((l6.toInt64 * l0) / (s0.toInt64 * l2))), none, some (vL ((l6.toInt64 * l0) - (l6.toInt64 * l0) / (s0.toInt64 * l2) * (s0.toInt64 * l2))), none, some (vL (l4 - (((l6.toInt64 * l0) / (s0.toInt64 * l2)) * ((l6.toInt64 * l0) / (s0.toInt64 * l2))))), none, some (vL ((((((2 : Int64) * ((l6.toInt64 * l0) / (s0.toInt64 * l2))) * (s0.toInt64 * l2)) + ((l6.toInt64 * l0) - (l6.toInt64 * l0) / (s0.toInt64 * l2) * (s0.toInt64 * l2))) * ((l6.toInt64 * l0) - (l6.toInt64 * l0) / (s0.toInt64 * l2) * (s0.toInt64 * l2))) - (((l4 - (((l6.toInt64 * l0) / (s0.toInt64 * l2)) * ((l6.toInt64 * l0) / (s0.toInt64 * l2)))) * (s0.toInt64 * l2)) * (s0.toInt64 * l2)))), none] [vI l6] M from ?_)
                  exact RN_weak (K := [none, none, none, none, none, none, none, none, none, none, none, none, none, none, none, none, none, none, none, none]) (callX_det _) (show True from trivial) (t86_212  l6 _ hM h)
              · replace h := h.2 hc
                exact RN_k (callX_det _) 2 _ _ _ _ (show rtW q86 M0 (PI P) (some (vI s0)) M from ⟨⟨_, rfl⟩, hM.1, hM.2, _, rfl, h⟩)
            · replace h := h.2 hc
              exact RN_k (callX_det _) 2 _ _ _ _ (show rtW q86 M0 (PI P) (some (vI l6)) M from ⟨⟨_, rfl⟩, hM.1, hM.2, _, rfl, h⟩)
          · replace h := h.2 hc
            exact RN_weak (K := [none, none, none, none, none, none, some (vI l6), none, none, none, none, none, none, none, none, none, none, none, none, none]) (callX_det _) (show _ ∧ True from ⟨rfl, trivial⟩) (t86_109  l6 _ hM h)
      · replace h := h.2 hc
        exact RN_weak (K := [none, none, none, none, none, none, some (vI l6), none, none, none, none, none, none, none, none, none, none, none, none, none]) (callX_det _) (show _ ∧ True from ⟨rfl, trivial⟩) (t86_73  l6 _ hM h)
  · replace h := h.2 hc
    exact RN_k (callX_det _) 2 _ _ _ _ (show rtW q86 M0 (PI P) (some (vI s0)) M from ⟨⟨_, rfl⟩, hM.1, hM.2, _, rfl, h⟩)
def w86_36 (l0 : Int64) (l2 : Int64) (l4 : Int64) (l6 : Int32) (M : MM) (P : Int32 → MM → Prop) : Prop := w86_51  l0 l2 l4 l6 (0 : Int32) M P
theorem t86_36 {sl : Nat} {sx : Nat → Int32} {d : Nat} {M0 : MM} {P : Int32 → MM → Prop} (l0 : Int64) (l2 : Int64) (l4 : Int64) (l6 : Int32) (M : MM) (hM : lenO M0 M) (h : w86_36  l0 l2 l4 l6 M P) : R86 sl sx d M0 P 36 [some (vL l0), none, some (vL l2), none, some (vL l4), none, some (vI l6), none, none, none, none, none, none, none, none, none, none, none, none, none] [] M := by
  refine RN_k (callX_det _) 2 _ _ _ _ (show R86 sl sx d M0 P 51 [some (vL l0), none, some (vL l2), none, some (vL l4), none, some (vI l6), none, none, none, none, none, none, none, none, none, none, none, none, none] [vI (0 : Int32)] M from ?_)
  exact RN_weak (K := [some (vL l0), none, some (vL l2), none, some (vL l4), none, some (vI l6), none, none, none, none, none, none, none, none, none, none, none, none, none]) (callX_det _) (show _ ∧ _ ∧ _ ∧ _ ∧ True from ⟨rfl, rfl, rfl, rfl, trivial⟩) (t86_51  l0 l2 l4 l6 (0 : Int32) _ hM h)
def w86_21 (l0 : Int64) (l2 : Int64) (l4 : Int64) (s0 : Int32) (M : MM) (P : Int32 → MM → Prop) : Prop := ((lg_cmp l4 (0 : Int64)) = 0 → (w86_36  l0 l2 l4 s0 M P)) ∧ (¬ ((lg_cmp l4 (0 : Int64)) = 0) → (((lg_cmp l2 (0 : Int64)) ≠ 0 → (((lg_cmp l2 (0 : Int64)) ≤ 0 → (w86_51  l0 l2 l4 s0 (-1 : Int32) M P)) ∧ (¬ ((lg_cmp l2 (0 : Int64)) ≤ 0) → (w86_51  l0 l2 l4 s0 (1 : Int32) M P)))) ∧ (¬ ((lg_cmp l2 (0 : Int64)) ≠ 0) → (w86_36  l0 l2 l4 s0 M P))))
theorem t86_21 {sl : Nat} {sx : Nat → Int32} {d : Nat} {M0 : MM} {P : Int32 → MM → Prop} (l0 : Int64) (l2 : Int64) (l4 : Int64) (s0 : Int32) (M : MM) (hM : lenO M0 M) (h : w86_21  l0 l2 l4 s0 M P) : R86 sl sx d M0 P 21 [some (vL l0), none, some (vL l2), none, some (vL l4), none, none, none, none, none, none, none, none, none, none, none, none, none, none, none] [vI s0] M := by
  refine RN_k (callX_det _) 5 _ _ _ _ (show ((lg_cmp l4 (0 : Int64)) = 0 → R86 sl sx d M0 P 36 [some (vL l0), none, some (vL l2), none, some (vL l4), none, some (vI s0), none, none, none, none, none, none, none, none, none, none, none, none, none] [] M) ∧ (¬ ((lg_cmp l4 (0 : Int64)) = 0) → R86 sl sx d M0 P 30 [some (vL l0), none, some (vL l2), none, some (vL l4), none, some (vI s0), none, none, none, none, none, none, none, none, none, none, none, none, none] [] M) from ⟨fun hc => ?_, fun hc => ?_⟩)
  · replace h := h.1 hc
    exact RN_weak (K := [some (vL l0), none, some (vL l2), none, some (vL l4), none, some (vI s0), none, none, none, none, none, none, none, none, none, none, none, none, none]) (callX_det _) (show _ ∧ _ ∧ _ ∧ _ ∧ True from ⟨rfl, rfl, rfl, rfl, trivial⟩) (t86_36  l0 l2 l4 s0 _ hM h)
  · replace h := h.2 hc
    refine RN_k (callX_det _) 4 _ _ _ _ (show ((lg_cmp l2 (0 : Int64)) ≠ 0 → R86 sl sx d M0 P 40 [some (vL l0), none, some (vL l2), none, some (vL l4), none, some (vI s0), none, none, none, none, none, none, none, none, none, none, none, none, none] [] M) ∧ (¬ ((lg_cmp l2 (0 : Int64)) ≠ 0) → R86 sl sx d M0 P 36 [some (vL l0), none, some (vL l2), none, some (vL l4), none, some (vI s0), none, none, none, none, none, none, none, none, none, none, none, none, none] [] M) from ⟨fun hc => ?_, fun hc => ?_⟩)
    · replace h := h.1 hc
      refine RN_k (callX_det _) 4 _ _ _ _ (show ((lg_cmp l2 (0 : Int64)) ≤ 0 → R86 sl sx d M0 P 50 [some (vL l0), none, some (vL l2), none, some (vL l4), none, some (vI s0), none, none, none, none, none, none, none, none, none, none, none, none, none] [] M) ∧ (¬ ((lg_cmp l2 (0 : Int64)) ≤ 0) → R86 sl sx d M0 P 46 [some (vL l0), none, some (vL l2), none, some (vL l4), none, some (vI s0), none, none, none, none, none, none, none, none, none, none, none, none, none] [] M) from ⟨fun hc => ?_, fun hc => ?_⟩)
      · replace h := h.1 hc
        refine RN_k (callX_det _) 1 _ _ _ _ (show R86 sl sx d M0 P 51 [some (vL l0), none, some (vL l2), none, some (vL l4), none, some (vI s0), none, none, none, none, none, none, none, none, none, none, none, none, none] [vI (-1 : Int32)] M from ?_)
        exact RN_weak (K := [some (vL l0), none, some (vL l2), none, some (vL l4), none, some (vI s0), none, none, none, none, none, none, none, none, none, none, none, none, none]) (callX_det _) (show _ ∧ _ ∧ _ ∧ _ ∧ True from ⟨rfl, rfl, rfl, rfl, trivial⟩) (t86_51  l0 l2 l4 s0 (-1 : Int32) _ hM h)
      · replace h := h.2 hc
        refine RN_k (callX_det _) 2 _ _ _ _ (show R86 sl sx d M0 P 51 [some (vL l0), none, some (vL l2), none, some (vL l4), none, some (vI s0), none, none, none, none, none, none, none, none, none, none, none, none, none] [vI (1 : Int32)] M from ?_)
        exact RN_weak (K := [some (vL l0), none, some (vL l2), none, some (vL l4), none, some (vI s0), none, none, none, none, none, none, none, none, none, none, none, none, none]) (callX_det _) (show _ ∧ _ ∧ _ ∧ _ ∧ True from ⟨rfl, rfl, rfl, rfl, trivial⟩) (t86_51  l0 l2 l4 s0 (1 : Int32) _ hM h)
    · replace h := h.2 hc
      exact RN_weak (K := [some (vL l0), none, some (vL l2), none, some (vL l4), none, some (vI s0), none, none, none, none, none, none, none, none, none, none, none, none, none]) (callX_det _) (show _ ∧ _ ∧ _ ∧ _ ∧ True from ⟨rfl, rfl, rfl, rfl, trivial⟩) (t86_36  l0 l2 l4 s0 _ hM h)
def w86 (l0 : Int64) (l2 : Int64) (l4 : Int64) (M : MM) (P : Int32 → MM → Prop) : Prop := ((lg_cmp l0 (0 : Int64)) ≤ 0 → ((0 ≤ (lg_cmp l0 (0 : Int64)) → (w86_21  l0 l2 l4 (0 : Int32) M P)) ∧ (¬ (0 ≤ (lg_cmp l0 (0 : Int64))) → (w86_21  l0 l2 l4 (-1 : Int32) M P)))) ∧ (¬ ((lg_cmp l0 (0 : Int64)) ≤ 0) → (w86_21  l0 l2 l4 (1 : Int32) M P))
theorem t86_E {sl : Nat} {sx : Nat → Int32} {d : Nat} {M0 : MM} {P : Int32 → MM → Prop} (l0 : Int64) (l2 : Int64) (l4 : Int64) (M : MM) (hM : lenO M0 M) (h : w86  l0 l2 l4 M P) : R86 sl sx d M0 P 0 [some (vL l0), none, some (vL l2), none, some (vL l4), none, none, none, none, none, none, none, none, none, none, none, none, none, none, none] [] M := by
  refine RN_k (callX_det _) 4 _ _ _ _ (show ((lg_cmp l0 (0 : Int64)) ≤ 0 → R86 sl sx d M0 P 10 [some (vL l0), none, some (vL l2), none, some (vL l4), none, none, none, none, none, none, none, none, none, none, none, none, none, none, none] [] M) ∧ (¬ ((lg_cmp l0 (0 : Int64)) ≤ 0) → R86 sl sx d M0 P 6 [some (vL l0), none, some (vL l2), none, some (vL l4), none, none, none, none, none, none, none, none, none, none, none, none, none, none, none] [] M) from ⟨fun hc => ?_, fun hc => ?_⟩)
  · replace h := h.1 hc
    refine RN_k (callX_det _) 4 _ _ _ _ (show (0 ≤ (lg_cmp l0 (0 : Int64)) → R86 sl sx d M0 P 20 [some (vL l0), none, some (vL l2), none, some (vL l4), none, none, none, none, none, none, none, none, none, none, none, none, none, none, none] [] M) ∧ (¬ (0 ≤ (lg_cmp l0 (0 : Int64))) → R86 sl sx d M0 P 16 [some (vL l0), none, some (vL l2), none, some (vL l4), none, none, none, none, none, none, none, none, none, none, none, none, none, none, none] [] M) from ⟨fun hc => ?_, fun hc => ?_⟩)
    · replace h := h.1 hc
      refine RN_k (callX_det _) 1 _ _ _ _ (show R86 sl sx d M0 P 21 [some (vL l0), none, some (vL l2), none, some (vL l4), none, none, none, none, none, none, none, none, none, none, none, none, none, none, none] [vI (0 : Int32)] M from ?_)
      exact RN_weak (K := [some (vL l0), none, some (vL l2), none, some (vL l4), none, none, none, none, none, none, none, none, none, none, none, none, none, none, none]) (callX_det _) (show _ ∧ _ ∧ _ ∧ True from ⟨rfl, rfl, rfl, trivial⟩) (t86_21  l0 l2 l4 (0 : Int32) _ hM h)
    · replace h := h.2 hc
      refine RN_k (callX_det _) 2 _ _ _ _ (show R86 sl sx d M0 P 21 [some (vL l0), none, some (vL l2), none, some (vL l4), none, none, none, none, none, none, none, none, none, none, none, none, none, none, none] [vI (-1 : Int32)] M from ?_)
      exact RN_weak (K := [some (vL l0), none, some (vL l2), none, some (vL l4), none, none, none, none, none, none, none, none, none, none, none, none, none, none, none]) (callX_det _) (show _ ∧ _ ∧ _ ∧ True from ⟨rfl, rfl, rfl, trivial⟩) (t86_21  l0 l2 l4 (-1 : Int32) _ hM h)
  · replace h := h.2 hc
    refine RN_k (callX_det _) 2 _ _ _ _ (show R86 sl sx d M0 P 21 [some (vL l0), none, some (vL l2), none, some (vL l4), none, none, none, none, none, none, none, none, none, none, none, none, none, none, none] [vI (1 : Int32)] M from ?_)
    exact RN_weak (K := [some (vL l0), none, some (vL l2), none, some (vL l4), none, none, none, none, none, none, none, none, none, none, none, none, none, none, none]) (callX_det _) (show _ ∧ _ ∧ _ ∧ True from ⟨rfl, rfl, rfl, trivial⟩) (t86_21  l0 l2 l4 (1 : Int32) _ hM h)
theorem c86 {sl : Nat} {sx : Nat → Int32} {d : Nat} {l0 : Int64} {l2 : Int64} {l4 : Int64} {M : MM} {P : Int32 → MM → Prop} (h : w86 l0 l2 l4 M P) : callX TBg sl sx (d + 1) 86 [vL l0, vL l2, vL l4] M (PI P) :=
  cX (d := d + 0) q86 (false, tb86) rfl rfl rfl (t86_E l0 l2 l4 M lenR h)
-- TwoLeash$Side.compareFirst(LTwoLeash$Side;Z)I
abbrev q85 : MQ7 := (3, 1, 17, 7, 0, 0, 1)
abbrev R85 (sl : Nat) (sx : Nat → Int32) (d : Nat) (M0 : MM) (P : Int32 → MM → Prop) : Nat → LL → List VV → MM → Prop := RN 7 false (mS M0).length (mT M0) 0 0 sl sx (callX TBg sl sx (d + 1)) (rtW q85 M0 (PI P)) (as2 tb85)
def w85_154 (l13 : Int32) (l14 : Int32) (M : MM) (P : Int32 → MM → Prop) : Prop := P (l13 - l14) M
theorem t85_154 {sl : Nat} {sx : Nat → Int32} {d : Nat} {M0 : MM} {P : Int32 → MM → Prop} (l13 : Int32) (l14 : Int32) (M : MM) (hM : lenO M0 M) (h : w85_154  l13 l14 M P) : R85 sl sx d M0 P 154 [none, none, none, none, none, none, none, none, none, none, none, none, none, some (vI l13), some (vI l14), none, none] [] M := by
  exact RN_k (callX_det _) 4 _ _ _ _ (show rtW q85 M0 (PI P) (some (vI (l13 - l14))) M from ⟨⟨_, rfl⟩, hM.1, hM.2, _, rfl, h⟩)
def w85_140 (l0 : Nat) (l1 : Option Nat) (l3 : Int64) (l5 : Int64) (l11 : Int64) (l13 : Int32) (s0 : Int32) (M : MM) (P : Int32 → MM → Prop) : Prop := (l13 ≠ s0 → (w85_154  l13 s0 M P)) ∧ (¬ (l13 ≠ s0) → ((l13 ≠ 0 → (kd M l0 7 ∧ (kd M l0 7 ∧ (∃ a1, l1 = some a1 ∧ (kd M a1 7 ∧ (kd M l0 7 ∧ (kd M l0 7 ∧ (w86 ((((l11 * l11) * (mL M l0 5)) + ((l3 * l3) * (mL M l0 6))) - ((l5 * l5) * (mL M a1 6))) (((2 : Int64) * l11) * l3) ((mL M l0 6) * (mL M l0 5)) M (fun r3 M2 => P (l13 * r3) M2))))))))) ∧ (¬ (l13 ≠ 0) → (w85_154  l13 s0 M P))))
theorem t85_140 {sl : Nat} {sx : Nat → Int32} {d : Nat} {M0 : MM} {P : Int32 → MM → Prop} (l0 : Nat) (l1 : Option Nat) (l3 : Int64) (l5 : Int64) (l11 : Int64) (l13 : Int32) (s0 : Int32) (M : MM) (hM : lenO M0 M) (h : w85_140  l0 l1 l3 l5 l11 l13 s0 M P) : R85 sl sx d M0 P 140 [some (vR (some l0)), some (vR l1), none, some (vL l3), none, some (vL l5), none, none, none, none, none, some (vL l11), none, some (vI l13), none, none, none] [vI s0] M := by
  refine RN_k (callX_det _) 4 _ _ _ _ (show (l13 ≠ s0 → R85 sl sx d M0 P 154 [some (vR (some l0)), some (vR l1), none, some (vL l3), none, some (vL l5), none, none, none, none, none, some (vL l11), none, some (vI l13), some (vI s0), none, none] [] M) ∧ (¬ (l13 ≠ s0) → R85 sl sx d M0 P 149 [some (vR (some l0)), some (vR l1), none, some (vL l3), none, some (vL l5), none, none, none, none, none, some (vL l11), none, some (vI l13), some (vI s0), none, none] [] M) from ⟨fun hc => ?_, fun hc => ?_⟩)
  · replace h := h.1 hc
    exact RN_weak (K := [none, none, none, none, none, none, none, none, none, none, none, none, none, some (vI l13), some (vI s0), none, none]) (callX_det _) (show _ ∧ _ ∧ True from ⟨rfl, rfl, trivial⟩) (t85_154  l13 s0 _ hM h)
  · replace h := h.2 hc
    refine RN_k (callX_det _) 2 _ _ _ _ (show (l13 ≠ 0 → R85 sl sx d M0 P 160 [some (vR (some l0)), some (vR l1), none, some (vL l3), none, some (vL l5), none, none, none, none, none, some (vL l11), none, some (vI l13), some (vI s0), none, none] [] M) ∧ (¬ (l13 ≠ 0) → R85 sl sx d M0 P 154 [some (vR (some l0)), some (vR l1), none, some (vL l3), none, some (vL l5), none, none, none, none, none, some (vL l11), none, some (vI l13), some (vI s0), none, none] [] M) from ⟨fun hc => ?_, fun hc => ?_⟩)
    · replace h := h.1 hc
      refine RN_k (callX_det _) 5 _ _ _ _ (show kd M l0 7 ∧ R85 sl sx d M0 P 169 [some (vR (some l0)), some (vR l1), none, some (vL l3), none, some (vL l5), none, none, none, none, none, some (vL l11), none, some (vI l13), some (vI s0), none, none] [vL (mL M l0 5), vL (l11 * l11)] M from ⟨h.1, ?_⟩)
      replace h := h.2
      refine RN_k (callX_det _) 6 _ _ _ _ (show kd M l0 7 ∧ R85 sl sx d M0 P 177 [some (vR (some l0)), some (vR l1), none, some (vL l3), none, some (vL l5), none, none, none, none, none, some (vL l11), none, some (vI l13), some (vI s0), none, none] [vL (mL M l0 6), vL (l3 * l3), vL ((l11 * l11) * (mL M l0 5))] M from ⟨h.1, ?_⟩)
      replace h := h.2
      obtain ⟨a1, he, h⟩ := h
      refine RN_k (callX_det _) 6 _ _ _ _ (show R85 sl sx d M0 P 185 [some (vR (some l0)), some (vR l1), none, some (vL l3), none, some (vL l5), none, none, none, none, none, some (vL l11), none, some (vI l13), some (vI s0), none, none] [vR l1, vL (l5 * l5), vL (((l11 * l11) * (mL M l0 5)) + ((l3 * l3) * (mL M l0 6)))] M from ?_)
      subst he
      refine RN_k (callX_det _) 1 _ _ _ _ (show kd M a1 7 ∧ R85 sl sx d M0 P 188 [some (vR (some l0)), some (vR (some a1)), none, some (vL l3), none, some (vL l5), none, none, none, none, none, some (vL l11), none, some (vI l13), some (vI s0), none, none] [vL (mL M a1 6), vL (l5 * l5), vL (((l11 * l11) * (mL M l0 5)) + ((l3 * l3) * (mL M l0 6)))] M from ⟨h.1, ?_⟩)
      replace h := h.2
      refine RN_k (callX_det _) 12 _ _ _ _ (show kd M l0 7 ∧ R85 sl sx d M0 P 208 [some (vR (some l0)), some (vR (some a1)), none, some (vL l3), none, some (vL l5), none, none, none, none, none, some (vL l11), none, some (vI l13), some (vI s0), some (vL ((((l11 * l11) * (mL M l0 5)) + ((l3 * l3) * (mL M l0 6))) - ((l5 * l5) * (mL M a1 6)))), none] [vL (mL M l0 6), vL (((2 : Int64) * l11) * l3), vL ((((l11 * l11) * (mL M l0 5)) + ((l3 * l3) * (mL M l0 6))) - ((l5 * l5) * (mL M a1 6))), vI l13] M from ⟨h.1, ?_⟩)
      replace h := h.2
      refine RN_k (callX_det _) 2 _ _ _ _ (show kd M l0 7 ∧ R85 sl sx d M0 P 212 [some (vR (some l0)), some (vR (some a1)), none, some (vL l3), none, some (vL l5), none, none, none, none, none, some (vL l11), none, some (vI l13), some (vI s0), some (vL ((((l11 * l11) * (mL M l0 5)) + ((l3 * l3) * (mL M l0 6))) - ((l5 * l5) * (mL M a1 6)))), none] [vL (mL M l0 5), vL (mL M l0 6), vL (((2 : Int64) * l11) * l3), vL ((((l11 * l11) * (mL M l0 5)) + ((l3 * l3) * (mL M l0 6))) - ((l5 * l5) * (mL M a1 6))), vI l13] M from ⟨h.1, ?_⟩)
      replace h := h.2
      refine RN_k (callX_det _) 2 _ _ _ _ (show callX TBg sl sx (d + 1) 86 [vL ((((l11 * l11) * (mL M l0 5)) + ((l3 * l3) * (mL M l0 6))) - ((l5 * l5) * (mL M a1 6))), vL (((2 : Int64) * l11) * l3), vL ((mL M l0 6) * (mL M l0 5))] M (fun v M9 => R85 sl sx d M0 P 216 [some (vR (some l0)), some (vR (some a1)), none, some (vL l3), none, some (vL l5), none, none, none, none, none, some (vL l11), none, some (vI l13), some (vI s0), some (vL ((((l11 * l11) * (mL M l0 5)) + ((l3 * l3) * (mL M l0 6))) - ((l5 * l5) * (mL M a1 6)))), none] (pushO v [vI l13]) M9) from ?_)
      refine callX_mono (callX_len (d := (d + 1)) rfl rfl rfl (c86 (d := d) h)) ?_
      clear h
      rintro v9 M2 ⟨hl, r3, rfl, h⟩
      replace hM := lenT hM hl
      show R85 sl sx d M0 P 216 [some (vR (some l0)), some (vR (some a1)), none, some (vL l3), none, some (vL l5), none, none, none, none, none, some (vL l11), none, some (vI l13), some (vI s0), some (vL ((((l11 * l11) * (mL M l0 5)) + ((l3 * l3) * (mL M l0 6))) - ((l5 * l5) * (mL M a1 6)))), none] [vI r3, vI l13] M2
      exact RN_k (callX_det _) 2 _ _ _ _ (show rtW q85 M0 (PI P) (some (vI (l13 * r3))) M2 from ⟨⟨_, rfl⟩, hM.1, hM.2, _, rfl, h⟩)
    · replace h := h.2 hc
      exact RN_weak (K := [none, none, none, none, none, none, none, none, none, none, none, none, none, some (vI l13), some (vI s0), none, none]) (callX_det _) (show _ ∧ _ ∧ True from ⟨rfl, rfl, trivial⟩) (t85_154  l13 s0 _ hM h)
def w85_93 (l0 : Nat) (l1 : Option Nat) (l3 : Int64) (l5 : Int64) (l7 : Int64) (s0 : Int64) (M : MM) (P : Int32 → MM → Prop) : Prop := kd M l0 7 ∧ (kd M l0 7 ∧ (kd M l0 7 ∧ (w86 ((l7 - s0) * (mL M l0 5)) l3 ((mL M l0 6) * (mL M l0 5)) M (fun r2 M1 => ∃ a3, l1 = some a3 ∧ (kd M1 a3 7 ∧ (((lg_cmp (mL M1 a3 6) (0 : Int64)) ≠ 0 → (w85_140  l0 (some a3) l3 l5 (l7 - s0) r2 l5.toInt32 M1 P)) ∧ (¬ ((lg_cmp (mL M1 a3 6) (0 : Int64)) ≠ 0) → (w85_140  l0 (some a3) l3 l5 (l7 - s0) r2 (0 : Int32) M1 P))))))))
theorem t85_93 {sl : Nat} {sx : Nat → Int32} {d : Nat} {M0 : MM} {P : Int32 → MM → Prop} (l0 : Nat) (l1 : Option Nat) (l3 : Int64) (l5 : Int64) (l7 : Int64) (s0 : Int64) (M : MM) (hM : lenO M0 M) (h : w85_93  l0 l1 l3 l5 l7 s0 M P) : R85 sl sx d M0 P 93 [some (vR (some l0)), some (vR l1), none, some (vL l3), none, some (vL l5), none, some (vL l7), none, none, none, none, none, none, none, none, none] [vL s0] M := by
  refine RN_k (callX_det _) 8 _ _ _ _ (show kd M l0 7 ∧ R85 sl sx d M0 P 108 [some (vR (some l0)), some (vR l1), none, some (vL l3), none, some (vL l5), none, some (vL l7), none, some (vL s0), none, some (vL (l7 - s0)), none, none, none, none, none] [vL (mL M l0 5), vL (l7 - s0)] M from ⟨h.1, ?_⟩)
  replace h := h.2
  refine RN_k (callX_det _) 4 _ _ _ _ (show kd M l0 7 ∧ R85 sl sx d M0 P 114 [some (vR (some l0)), some (vR l1), none, some (vL l3), none, some (vL l5), none, some (vL l7), none, some (vL s0), none, some (vL (l7 - s0)), none, none, none, none, none] [vL (mL M l0 6), vL l3, vL ((l7 - s0) * (mL M l0 5))] M from ⟨h.1, ?_⟩)
  replace h := h.2
  refine RN_k (callX_det _) 2 _ _ _ _ (show kd M l0 7 ∧ R85 sl sx d M0 P 118 [some (vR (some l0)), some (vR l1), none, some (vL l3), none, some (vL l5), none, some (vL l7), none, some (vL s0), none, some (vL (l7 - s0)), none, none, none, none, none] [vL (mL M l0 5), vL (mL M l0 6), vL l3, vL ((l7 - s0) * (mL M l0 5))] M from ⟨h.1, ?_⟩)
  replace h := h.2
  refine RN_k (callX_det _) 2 _ _ _ _ (show callX TBg sl sx (d + 1) 86 [vL ((l7 - s0) * (mL M l0 5)), vL l3, vL ((mL M l0 6) * (mL M l0 5))] M (fun v M9 => R85 sl sx d M0 P 122 [some (vR (some l0)), some (vR l1), none, some (vL l3), none, some (vL l5), none, some (vL l7), none, some (vL s0), none, some (vL (l7 - s0)), none, none, none, none, none] (pushO v []) M9) from ?_)
  refine callX_mono (callX_len (d := (d + 1)) rfl rfl rfl (c86 (d := d) h)) ?_
  clear h
  rintro v9 M1 ⟨hl, r2, rfl, h⟩
  replace hM := lenT hM hl
  show R85 sl sx d M0 P 122 [some (vR (some l0)), some (vR l1), none, some (vL l3), none, some (vL l5), none, some (vL l7), none, some (vL s0), none, some (vL (l7 - s0)), none, none, none, none, none] [vI r2] M1
  obtain ⟨a3, he, h⟩ := h
  refine RN_k (callX_det _) 2 _ _ _ _ (show R85 sl sx d M0 P 125 [some (vR (some l0)), some (vR l1), none, some (vL l3), none, some (vL l5), none, some (vL l7), none, some (vL s0), none, some (vL (l7 - s0)), none, some (vI r2), none, none, none] [vR l1] M1 from ?_)
  subst he
  refine RN_k (callX_det _) 1 _ _ _ _ (show kd M1 a3 7 ∧ R85 sl sx d M0 P 128 [some (vR (some l0)), some (vR (some a3)), none, some (vL l3), none, some (vL l5), none, some (vL l7), none, some (vL s0), none, some (vL (l7 - s0)), none, some (vI r2), none, none, none] [vL (mL M1 a3 6)] M1 from ⟨h.1, ?_⟩)
  replace h := h.2
  refine RN_k (callX_det _) 3 _ _ _ _ (show ((lg_cmp (mL M1 a3 6) (0 : Int64)) ≠ 0 → R85 sl sx d M0 P 137 [some (vR (some l0)), some (vR (some a3)), none, some (vL l3), none, some (vL l5), none, some (vL l7), none, some (vL s0), none, some (vL (l7 - s0)), none, some (vI r2), none, none, none] [] M1) ∧ (¬ ((lg_cmp (mL M1 a3 6) (0 : Int64)) ≠ 0) → R85 sl sx d M0 P 133 [some (vR (some l0)), some (vR (some a3)), none, some (vL l3), none, some (vL l5), none, some (vL l7), none, some (vL s0), none, some (vL (l7 - s0)), none, some (vI r2), none, none, none] [] M1) from ⟨fun hc => ?_, fun hc => ?_⟩)
  · replace h := h.1 hc
    refine RN_k (callX_det _) 2 _ _ _ _ (show R85 sl sx d M0 P 140 [some (vR (some l0)), some (vR (some a3)), none, some (vL l3), none, some (vL l5), none, some (vL l7), none, some (vL s0), none, some (vL (l7 - s0)), none, some (vI r2), none, none, none] [vI l5.toInt32] M1 from ?_)
    exact RN_weak (K := [some (vR (some l0)), some (vR (some a3)), none, some (vL l3), none, some (vL l5), none, none, none, none, none, some (vL (l7 - s0)), none, some (vI r2), none, none, none]) (callX_det _) (show _ ∧ _ ∧ _ ∧ _ ∧ _ ∧ _ ∧ True from ⟨rfl, rfl, rfl, rfl, rfl, rfl, trivial⟩) (t85_140  l0 (some a3) l3 l5 (l7 - s0) r2 l5.toInt32 _ hM h)
  · replace h := h.2 hc
    refine RN_k (callX_det _) 2 _ _ _ _ (show R85 sl sx d M0 P 140 [some (vR (some l0)), some (vR (some a3)), none, some (vL l3), none, some (vL l5), none, some (vL l7), none, some (vL s0), none, some (vL (l7 - s0)), none, some (vI r2), none, none, none] [vI (0 : Int32)] M1 from ?_)
    exact RN_weak (K := [some (vR (some l0)), some (vR (some a3)), none, some (vL l3), none, some (vL l5), none, none, none, none, none, some (vL (l7 - s0)), none, some (vI r2), none, none, none]) (callX_det _) (show _ ∧ _ ∧ _ ∧ _ ∧ _ ∧ _ ∧ True from ⟨rfl, rfl, rfl, rfl, rfl, rfl, trivial⟩) (t85_140  l0 (some a3) l3 l5 (l7 - s0) r2 (0 : Int32) _ hM h)
def w85_65 (l0 : Nat) (l1 : Option Nat) (l2 : Int32) (l3 : Int64) (l5 : Int64) (s0 : Int64) (M : MM) (P : Int32 → MM → Prop) : Prop := ((lg_cmp l5 (0 : Int64)) = 0 → ((l2 = 0 → (w85_93  l0 l1 l3 l5 s0 (0 : Int64) M P)) ∧ (¬ (l2 = 0) → (kd M l0 7 ∧ (w85_93  l0 l1 l3 l5 s0 (mL M l0 0) M P))))) ∧ (¬ ((lg_cmp l5 (0 : Int64)) = 0) → (∃ a1, l1 = some a1 ∧ (kd M a1 7 ∧ (w85_93  l0 (some a1) l3 l5 s0 (mL M a1 1) M P))))
theorem t85_65 {sl : Nat} {sx : Nat → Int32} {d : Nat} {M0 : MM} {P : Int32 → MM → Prop} (l0 : Nat) (l1 : Option Nat) (l2 : Int32) (l3 : Int64) (l5 : Int64) (s0 : Int64) (M : MM) (hM : lenO M0 M) (h : w85_65  l0 l1 l2 l3 l5 s0 M P) : R85 sl sx d M0 P 65 [some (vR (some l0)), some (vR l1), some (vI l2), some (vL l3), none, some (vL l5), none, none, none, none, none, none, none, none, none, none, none] [vL s0] M := by
  refine RN_k (callX_det _) 5 _ _ _ _ (show ((lg_cmp l5 (0 : Int64)) = 0 → R85 sl sx d M0 P 81 [some (vR (some l0)), some (vR l1), some (vI l2), some (vL l3), none, some (vL l5), none, some (vL s0), none, none, none, none, none, none, none, none, none] [] M) ∧ (¬ ((lg_cmp l5 (0 : Int64)) = 0) → R85 sl sx d M0 P 74 [some (vR (some l0)), some (vR l1), some (vI l2), some (vL l3), none, some (vL l5), none, some (vL s0), none, none, none, none, none, none, none, none, none] [] M) from ⟨fun hc => ?_, fun hc => ?_⟩)
  · replace h := h.1 hc
    refine RN_k (callX_det _) 2 _ _ _ _ (show (l2 = 0 → R85 sl sx d M0 P 92 [some (vR (some l0)), some (vR l1), some (vI l2), some (vL l3), none, some (vL l5), none, some (vL s0), none, none, none, none, none, none, none, none, none] [] M) ∧ (¬ (l2 = 0) → R85 sl sx d M0 P 85 [some (vR (some l0)), some (vR l1), some (vI l2), some (vL l3), none, some (vL l5), none, some (vL s0), none, none, none, none, none, none, none, none, none] [] M) from ⟨fun hc => ?_, fun hc => ?_⟩)
    · replace h := h.1 hc
      refine RN_k (callX_det _) 1 _ _ _ _ (show R85 sl sx d M0 P 93 [some (vR (some l0)), some (vR l1), some (vI l2), some (vL l3), none, some (vL l5), none, some (vL s0), none, none, none, none, none, none, none, none, none] [vL (0 : Int64)] M from ?_)
      exact RN_weak (K := [some (vR (some l0)), some (vR l1), none, some (vL l3), none, some (vL l5), none, some (vL s0), none, none, none, none, none, none, none, none, none]) (callX_det _) (show _ ∧ _ ∧ _ ∧ _ ∧ _ ∧ True from ⟨rfl, rfl, rfl, rfl, rfl, trivial⟩) (t85_93  l0 l1 l3 l5 s0 (0 : Int64) _ hM h)
    · replace h := h.2 hc
      refine RN_k (callX_det _) 2 _ _ _ _ (show kd M l0 7 ∧ R85 sl sx d M0 P 89 [some (vR (some l0)), some (vR l1), some (vI l2), some (vL l3), none, some (vL l5), none, some (vL s0), none, none, none, none, none, none, none, none, none] [vL (mL M l0 0)] M from ⟨h.1, ?_⟩)
      replace h := h.2
      refine RN_k (callX_det _) 1 _ _ _ _ (show R85 sl sx d M0 P 93 [some (vR (some l0)), some (vR l1), some (vI l2), some (vL l3), none, some (vL l5), none, some (vL s0), none, none, none, none, none, none, none, none, none] [vL (mL M l0 0)] M from ?_)
      exact RN_weak (K := [some (vR (some l0)), some (vR l1), none, some (vL l3), none, some (vL l5), none, some (vL s0), none, none, none, none, none, none, none, none, none]) (callX_det _) (show _ ∧ _ ∧ _ ∧ _ ∧ _ ∧ True from ⟨rfl, rfl, rfl, rfl, rfl, trivial⟩) (t85_93  l0 l1 l3 l5 s0 (mL M l0 0) _ hM h)
  · replace h := h.2 hc
    obtain ⟨a1, he, h⟩ := h
    refine RN_k (callX_det _) 1 _ _ _ _ (show R85 sl sx d M0 P 75 [some (vR (some l0)), some (vR l1), some (vI l2), some (vL l3), none, some (vL l5), none, some (vL s0), none, none, none, none, none, none, none, none, none] [vR l1] M from ?_)
    subst he
    refine RN_k (callX_det _) 1 _ _ _ _ (show kd M a1 7 ∧ R85 sl sx d M0 P 78 [some (vR (some l0)), some (vR (some a1)), some (vI l2), some (vL l3), none, some (vL l5), none, some (vL s0), none, none, none, none, none, none, none, none, none] [vL (mL M a1 1)] M from ⟨h.1, ?_⟩)
    replace h := h.2
    refine RN_k (callX_det _) 1 _ _ _ _ (show R85 sl sx d M0 P 93 [some (vR (some l0)), some (vR (some a1)), some (vI l2), some (vL l3), none, some (vL l5), none, some (vL s0), none, none, none, none, none, none, none, none, none] [vL (mL M a1 1)] M from ?_)
    exact RN_weak (K := [some (vR (some l0)), some (vR (some a1)), none, some (vL l3), none, some (vL l5), none, some (vL s0), none, none, none, none, none, none, none, none, none]) (callX_det _) (show _ ∧ _ ∧ _ ∧ _ ∧ _ ∧ True from ⟨rfl, rfl, rfl, rfl, rfl, trivial⟩) (t85_93  l0 (some a1) l3 l5 s0 (mL M a1 1) _ hM h)
def w85_48 (l0 : Nat) (l1 : Option Nat) (l2 : Int32) (l3 : Int64) (s0 : Int64) (M : MM) (P : Int32 → MM → Prop) : Prop := kd M l0 7 ∧ (((mI M l0 7) = 0 → (kd M l0 7 ∧ (w85_65  l0 l1 l2 l3 s0 (mL M l0 1) M P))) ∧ (¬ ((mI M l0 7) = 0) → (w85_65  l0 l1 l2 l3 s0 (0 : Int64) M P)))
theorem t85_48 {sl : Nat} {sx : Nat → Int32} {d : Nat} {M0 : MM} {P : Int32 → MM → Prop} (l0 : Nat) (l1 : Option Nat) (l2 : Int32) (l3 : Int64) (s0 : Int64) (M : MM) (hM : lenO M0 M) (h : w85_48  l0 l1 l2 l3 s0 M P) : R85 sl sx d M0 P 48 [some (vR (some l0)), some (vR l1), some (vI l2), some (vL l3), none, none, none, none, none, none, none, none, none, none, none, none, none] [vL s0] M := by
  refine RN_k (callX_det _) 3 _ _ _ _ (show kd M l0 7 ∧ R85 sl sx d M0 P 54 [some (vR (some l0)), some (vR l1), some (vI l2), some (vL l3), none, some (vL s0), none, none, none, none, none, none, none, none, none, none, none] [vI (mI M l0 7)] M from ⟨h.1, ?_⟩)
  replace h := h.2
  refine RN_k (callX_det _) 1 _ _ _ _ (show ((mI M l0 7) = 0 → R85 sl sx d M0 P 61 [some (vR (some l0)), some (vR l1), some (vI l2), some (vL l3), none, some (vL s0), none, none, none, none, none, none, none, none, none, none, none] [] M) ∧ (¬ ((mI M l0 7) = 0) → R85 sl sx d M0 P 57 [some (vR (some l0)), some (vR l1), some (vI l2), some (vL l3), none, some (vL s0), none, none, none, none, none, none, none, none, none, none, none] [] M) from ⟨fun hc => ?_, fun hc => ?_⟩)
  · replace h := h.1 hc
    refine RN_k (callX_det _) 2 _ _ _ _ (show kd M l0 7 ∧ R85 sl sx d M0 P 65 [some (vR (some l0)), some (vR l1), some (vI l2), some (vL l3), none, some (vL s0), none, none, none, none, none, none, none, none, none, none, none] [vL (mL M l0 1)] M from ⟨h.1, ?_⟩)
    replace h := h.2
    exact RN_weak (K := [some (vR (some l0)), some (vR l1), some (vI l2), some (vL l3), none, some (vL s0), none, none, none, none, none, none, none, none, none, none, none]) (callX_det _) (show _ ∧ _ ∧ _ ∧ _ ∧ _ ∧ True from ⟨rfl, rfl, rfl, rfl, rfl, trivial⟩) (t85_65  l0 l1 l2 l3 s0 (mL M l0 1) _ hM h)
  · replace h := h.2 hc
    refine RN_k (callX_det _) 2 _ _ _ _ (show R85 sl sx d M0 P 65 [some (vR (some l0)), some (vR l1), some (vI l2), some (vL l3), none, some (vL s0), none, none, none, none, none, none, none, none, none, none, none] [vL (0 : Int64)] M from ?_)
    exact RN_weak (K := [some (vR (some l0)), some (vR l1), some (vI l2), some (vL l3), none, some (vL s0), none, none, none, none, none, none, none, none, none, none, none]) (callX_det _) (show _ ∧ _ ∧ _ ∧ _ ∧ _ ∧ True from ⟨rfl, rfl, rfl, rfl, rfl, trivial⟩) (t85_65  l0 l1 l2 l3 s0 (0 : Int64) _ hM h)
def w85_31 (l0 : Nat) (l1 : Option Nat) (l2 : Int32) (l3 : Int64) (s0 : Int32) (M : MM) (P : Int32 → MM → Prop) : Prop := w85_48  l0 l1 l2 l3 s0.toInt64 M P
theorem t85_31 {sl : Nat} {sx : Nat → Int32} {d : Nat} {M0 : MM} {P : Int32 → MM → Prop} (l0 : Nat) (l1 : Option Nat) (l2 : Int32) (l3 : Int64) (s0 : Int32) (M : MM) (hM : lenO M0 M) (h : w85_31  l0 l1 l2 l3 s0 M P) : R85 sl sx d M0 P 31 [some (vR (some l0)), some (vR l1), some (vI l2), some (vL l3), none, none, none, none, none, none, none, none, none, none, none, none, none] [vI s0] M := by
  refine RN_k (callX_det _) 2 _ _ _ _ (show R85 sl sx d M0 P 48 [some (vR (some l0)), some (vR l1), some (vI l2), some (vL l3), none, none, none, none, none, none, none, none, none, none, none, none, none] [vL s0.toInt64] M from ?_)
  exact RN_weak (K := [some (vR (some l0)), some (vR l1), some (vI l2), some (vL l3), none, none, none, none, none, none, none, none, none, none, none, none, none]) (callX_det _) (show _ ∧ _ ∧ _ ∧ _ ∧ True from ⟨rfl, rfl, rfl, rfl, trivial⟩) (t85_48  l0 l1 l2 l3 s0.toInt64 _ hM h)
def w85_47 (l0 : Nat) (l1 : Option Nat) (l2 : Int32) (l3 : Int64) (s0 : Int32) (M : MM) (P : Int32 → MM → Prop) : Prop := w85_48  l0 l1 l2 l3 s0.toInt64 M P
theorem t85_47 {sl : Nat} {sx : Nat → Int32} {d : Nat} {M0 : MM} {P : Int32 → MM → Prop} (l0 : Nat) (l1 : Option Nat) (l2 : Int32) (l3 : Int64) (s0 : Int32) (M : MM) (hM : lenO M0 M) (h : w85_47  l0 l1 l2 l3 s0 M P) : R85 sl sx d M0 P 47 [some (vR (some l0)), some (vR l1), some (vI l2), some (vL l3), none, none, none, none, none, none, none, none, none, none, none, none, none] [vI s0] M := by
  refine RN_k (callX_det _) 1 _ _ _ _ (show R85 sl sx d M0 P 48 [some (vR (some l0)), some (vR l1), some (vI l2), some (vL l3), none, none, none, none, none, none, none, none, none, none, none, none, none] [vL s0.toInt64] M from ?_)
  exact RN_weak (K := [some (vR (some l0)), some (vR l1), some (vI l2), some (vL l3), none, none, none, none, none, none, none, none, none, none, none, none, none]) (callX_det _) (show _ ∧ _ ∧ _ ∧ _ ∧ True from ⟨rfl, rfl, rfl, rfl, trivial⟩) (t85_48  l0 l1 l2 l3 s0.toInt64 _ hM h)
def w85_14 (l0 : Nat) (l1 : Option Nat) (l2 : Int32) (s0 : Int64) (M : MM) (P : Int32 → MM → Prop) : Prop := (l2 = 0 → (∃ a1, l1 = some a1 ∧ (kd M a1 7 ∧ (((mI M a1 7) = 0 → (w85_47  l0 (some a1) l2 s0 (-1 : Int32) M P)) ∧ (¬ ((mI M a1 7) = 0) → (w85_47  l0 (some a1) l2 s0 (0 : Int32) M P)))))) ∧ (¬ (l2 = 0) → (∃ a2, l1 = some a2 ∧ (kd M a2 7 ∧ (((mI M a2 8) = 0 → (w85_31  l0 (some a2) l2 s0 (1 : Int32) M P)) ∧ (¬ ((mI M a2 8) = 0) → (w85_31  l0 (some a2) l2 s0 (0 : Int32) M P))))))
theorem t85_14 {sl : Nat} {sx : Nat → Int32} {d : Nat} {M0 : MM} {P : Int32 → MM → Prop} (l0 : Nat) (l1 : Option Nat) (l2 : Int32) (s0 : Int64) (M : MM) (hM : lenO M0 M) (h : w85_14  l0 l1 l2 s0 M P) : R85 sl sx d M0 P 14 [some (vR (some l0)), some (vR l1), some (vI l2), none, none, none, none, none, none, none, none, none, none, none, none, none, none] [vL s0] M := by
  refine RN_k (callX_det _) 3 _ _ _ _ (show (l2 = 0 → R85 sl sx d M0 P 35 [some (vR (some l0)), some (vR l1), some (vI l2), some (vL s0), none, none, none, none, none, none, none, none, none, none, none, none, none] [] M) ∧ (¬ (l2 = 0) → R85 sl sx d M0 P 19 [some (vR (some l0)), some (vR l1), some (vI l2), some (vL s0), none, none, none, none, none, none, none, none, none, none, none, none, none] [] M) from ⟨fun hc => ?_, fun hc => ?_⟩)
  · replace h := h.1 hc
    obtain ⟨a1, he, h⟩ := h
    refine RN_k (callX_det _) 1 _ _ _ _ (show R85 sl sx d M0 P 36 [some (vR (some l0)), some (vR l1), some (vI l2), some (vL s0), none, none, none, none, none, none, none, none, none, none, none, none, none] [vR l1] M from ?_)
    subst he
    refine RN_k (callX_det _) 1 _ _ _ _ (show kd M a1 7 ∧ R85 sl sx d M0 P 39 [some (vR (some l0)), some (vR (some a1)), some (vI l2), some (vL s0), none, none, none, none, none, none, none, none, none, none, none, none, none] [vI (mI M a1 7)] M from ⟨h.1, ?_⟩)
    replace h := h.2
    refine RN_k (callX_det _) 1 _ _ _ _ (show ((mI M a1 7) = 0 → R85 sl sx d M0 P 46 [some (vR (some l0)), some (vR (some a1)), some (vI l2), some (vL s0), none, none, none, none, none, none, none, none, none, none, none, none, none] [] M) ∧ (¬ ((mI M a1 7) = 0) → R85 sl sx d M0 P 42 [some (vR (some l0)), some (vR (some a1)), some (vI l2), some (vL s0), none, none, none, none, none, none, none, none, none, none, none, none, none] [] M) from ⟨fun hc => ?_, fun hc => ?_⟩)
    · replace h := h.1 hc
      refine RN_k (callX_det _) 1 _ _ _ _ (show R85 sl sx d M0 P 47 [some (vR (some l0)), some (vR (some a1)), some (vI l2), some (vL s0), none, none, none, none, none, none, none, none, none, none, none, none, none] [vI (-1 : Int32)] M from ?_)
      exact RN_weak (K := [some (vR (some l0)), some (vR (some a1)), some (vI l2), some (vL s0), none, none, none, none, none, none, none, none, none, none, none, none, none]) (callX_det _) (show _ ∧ _ ∧ _ ∧ _ ∧ True from ⟨rfl, rfl, rfl, rfl, trivial⟩) (t85_47  l0 (some a1) l2 s0 (-1 : Int32) _ hM h)
    · replace h := h.2 hc
      refine RN_k (callX_det _) 2 _ _ _ _ (show R85 sl sx d M0 P 47 [some (vR (some l0)), some (vR (some a1)), some (vI l2), some (vL s0), none, none, none, none, none, none, none, none, none, none, none, none, none] [vI (0 : Int32)] M from ?_)
      exact RN_weak (K := [some (vR (some l0)), some (vR (some a1)), some (vI l2), some (vL s0), none, none, none, none, none, none, none, none, none, none, none, none, none]) (callX_det _) (show _ ∧ _ ∧ _ ∧ _ ∧ True from ⟨rfl, rfl, rfl, rfl, trivial⟩) (t85_47  l0 (some a1) l2 s0 (0 : Int32) _ hM h)
  · replace h := h.2 hc
    obtain ⟨a2, he, h⟩ := h
    refine RN_k (callX_det _) 1 _ _ _ _ (show R85 sl sx d M0 P 20 [some (vR (some l0)), some (vR l1), some (vI l2), some (vL s0), none, none, none, none, none, none, none, none, none, none, none, none, none] [vR l1] M from ?_)
    subst he
    refine RN_k (callX_det _) 1 _ _ _ _ (show kd M a2 7 ∧ R85 sl sx d M0 P 23 [some (vR (some l0)), some (vR (some a2)), some (vI l2), some (vL s0), none, none, none, none, none, none, none, none, none, none, none, none, none] [vI (mI M a2 8)] M from ⟨h.1, ?_⟩)
    replace h := h.2
    refine RN_k (callX_det _) 1 _ _ _ _ (show ((mI M a2 8) = 0 → R85 sl sx d M0 P 30 [some (vR (some l0)), some (vR (some a2)), some (vI l2), some (vL s0), none, none, none, none, none, none, none, none, none, none, none, none, none] [] M) ∧ (¬ ((mI M a2 8) = 0) → R85 sl sx d M0 P 26 [some (vR (some l0)), some (vR (some a2)), some (vI l2), some (vL s0), none, none, none, none, none, none, none, none, none, none, none, none, none] [] M) from ⟨fun hc => ?_, fun hc => ?_⟩)
    · replace h := h.1 hc
      refine RN_k (callX_det _) 1 _ _ _ _ (show R85 sl sx d M0 P 31 [some (vR (some l0)), some (vR (some a2)), some (vI l2), some (vL s0), none, none, none, none, none, none, none, none, none, none, none, none, none] [vI (1 : Int32)] M from ?_)
      exact RN_weak (K := [some (vR (some l0)), some (vR (some a2)), some (vI l2), some (vL s0), none, none, none, none, none, none, none, none, none, none, none, none, none]) (callX_det _) (show _ ∧ _ ∧ _ ∧ _ ∧ True from ⟨rfl, rfl, rfl, rfl, trivial⟩) (t85_31  l0 (some a2) l2 s0 (1 : Int32) _ hM h)
    · replace h := h.2 hc
      refine RN_k (callX_det _) 2 _ _ _ _ (show R85 sl sx d M0 P 31 [some (vR (some l0)), some (vR (some a2)), some (vI l2), some (vL s0), none, none, none, none, none, none, none, none, none, none, none, none, none] [vI (0 : Int32)] M from ?_)
      exact RN_weak (K := [some (vR (some l0)), some (vR (some a2)), some (vI l2), some (vL s0), none, none, none, none, none, none, none, none, none, none, none, none, none]) (callX_det _) (show _ ∧ _ ∧ _ ∧ _ ∧ True from ⟨rfl, rfl, rfl, rfl, trivial⟩) (t85_31  l0 (some a2) l2 s0 (0 : Int32) _ hM h)
def w85 (l0 : Nat) (l1 : Option Nat) (l2 : Int32) (M : MM) (P : Int32 → MM → Prop) : Prop := kd M l0 7 ∧ (((mI M l0 7) = 0 → (w85_14  l0 l1 l2 (-1 : Int64) M P)) ∧ (¬ ((mI M l0 7) = 0) → (w85_14  l0 l1 l2 (0 : Int64) M P)))
theorem t85_E {sl : Nat} {sx : Nat → Int32} {d : Nat} {M0 : MM} {P : Int32 → MM → Prop} (l0 : Nat) (l1 : Option Nat) (l2 : Int32) (M : MM) (hM : lenO M0 M) (h : w85  l0 l1 l2 M P) : R85 sl sx d M0 P 0 [some (vR (some l0)), some (vR l1), some (vI l2), none, none, none, none, none, none, none, none, none, none, none, none, none, none] [] M := by
  refine RN_k (callX_det _) 2 _ _ _ _ (show kd M l0 7 ∧ R85 sl sx d M0 P 4 [some (vR (some l0)), some (vR l1), some (vI l2), none, none, none, none, none, none, none, none, none, none, none, none, none, none] [vI (mI M l0 7)] M from ⟨h.1, ?_⟩)
  replace h := h.2
  refine RN_k (callX_det _) 1 _ _ _ _ (show ((mI M l0 7) = 0 → R85 sl sx d M0 P 11 [some (vR (some l0)), some (vR l1), some (vI l2), none, none, none, none, none, none, none, none, none, none, none, none, none, none] [] M) ∧ (¬ ((mI M l0 7) = 0) → R85 sl sx d M0 P 7 [some (vR (some l0)), some (vR l1), some (vI l2), none, none, none, none, none, none, none, none, none, none, none, none, none, none] [] M) from ⟨fun hc => ?_, fun hc => ?_⟩)
  · replace h := h.1 hc
    refine RN_k (callX_det _) 1 _ _ _ _ (show R85 sl sx d M0 P 14 [some (vR (some l0)), some (vR l1), some (vI l2), none, none, none, none, none, none, none, none, none, none, none, none, none, none] [vL (-1 : Int64)] M from ?_)
    exact RN_weak (K := [some (vR (some l0)), some (vR l1), some (vI l2), none, none, none, none, none, none, none, none, none, none, none, none, none, none]) (callX_det _) (show _ ∧ _ ∧ _ ∧ True from ⟨rfl, rfl, rfl, trivial⟩) (t85_14  l0 l1 l2 (-1 : Int64) _ hM h)
  · replace h := h.2 hc
    refine RN_k (callX_det _) 2 _ _ _ _ (show R85 sl sx d M0 P 14 [some (vR (some l0)), some (vR l1), some (vI l2), none, none, none, none, none, none, none, none, none, none, none, none, none, none] [vL (0 : Int64)] M from ?_)
    exact RN_weak (K := [some (vR (some l0)), some (vR l1), some (vI l2), none, none, none, none, none, none, none, none, none, none, none, none, none, none]) (callX_det _) (show _ ∧ _ ∧ _ ∧ True from ⟨rfl, rfl, rfl, trivial⟩) (t85_14  l0 l1 l2 (0 : Int64) _ hM h)
theorem c85 {sl : Nat} {sx : Nat → Int32} {d : Nat} {l0 : Nat} {l1 : Option Nat} {l2 : Int32} {M : MM} {P : Int32 → MM → Prop} (h : w85 l0 l1 l2 M P) : callX TBg sl sx (d + 2) 85 [vR (some l0), vR l1, vI l2] M (PI P) :=
  cX (d := d + 1) q85 (false, tb85) rfl rfl rfl (t85_E l0 l1 l2 M lenR h)
-- TwoLeash$Side.comeFrom(LTwoLeash$Side;LTwoLeash$Side;)V
abbrev q84 : MQ7 := (3, 1, 4, 7, 0, 0, 0)
abbrev R84 (sl : Nat) (sx : Nat → Int32) (d : Nat) (M0 : MM) (P : MM → Prop) : Nat → LL → List VV → MM → Prop := RN 7 false (mS M0).length (mT M0) 0 0 sl sx (callX TBg sl sx (d + 2)) (rtW q84 M0 (PV P)) (as2 tb84)
def w84_63 (M : MM) (P : MM → Prop) : Prop := P M
theorem t84_63 {sl : Nat} {sx : Nat → Int32} {d : Nat} {M0 : MM} {P : MM → Prop}  (M : MM) (hM : lenO M0 M) (h : w84_63   M P) : R84 sl sx d M0 P 63 [none, none, none, none] [] M := by
  exact RN_k (callX_det _) 1 _ _ _ _ (show rtW q84 M0 (PV P) none M from ⟨rfl, hM.1, hM.2, rfl, h⟩)
def w84 (l0 : Nat) (l1 : Option Nat) (l2 : Option Nat) (M : MM) (P : MM → Prop) : Prop := kd M l0 7 ∧ (((mI M l0 9) ≠ 0 → (∃ a1, l2 = some a1 ∧ (kd M a1 7 ∧ (∃ a2, l1 = some a2 ∧ (kd M a2 7 ∧ (((mR M a2 10) = none → (((mR M a1 10) = none → (w84_63  M P)) ∧ (¬ (mR M a1 10) = none → (∃ a3, mR M a1 10 = some a3 ∧ (kd M a3 7 ∧ w85 a3 (some l0) (0 : Int32) M (fun r5 M4 => (0 < r5 → (kd M4 a3 7 ∧ w85 a3 (some l0) (1 : Int32) M4 (fun r7 M6 => (0 < r7 → (w84_63  M6 P)) ∧ (¬ (0 < r7) → (kd M6 l0 7 ∧ (w84_63  (sR M6 l0 10 (some a3)) P)))))) ∧ (¬ (0 < r5) → (kd M4 l0 7 ∧ (w84_63  (sR M4 l0 10 (some l0)) P))))))))) ∧ (¬ (mR M a2 10) = none → (kd M l0 7 ∧ (w84_63  (sR M l0 10 (some l0)) P))))))))) ∧ (¬ ((mI M l0 9) ≠ 0) → (P M)))
theorem t84_E {sl : Nat} {sx : Nat → Int32} {d : Nat} {M0 : MM} {P : MM → Prop} (l0 : Nat) (l1 : Option Nat) (l2 : Option Nat) (M : MM) (hM : lenO M0 M) (h : w84  l0 l1 l2 M P) : R84 sl sx d M0 P 0 [some (vR (some l0)), some (vR l1), some (vR l2), none] [] M := by
  refine RN_k (callX_det _) 2 _ _ _ _ (show kd M l0 7 ∧ R84 sl sx d M0 P 4 [some (vR (some l0)), some (vR l1), some (vR l2), none] [vI (mI M l0 9)] M from ⟨h.1, ?_⟩)
  replace h := h.2
  refine RN_k (callX_det _) 1 _ _ _ _ (show ((mI M l0 9) ≠ 0 → R84 sl sx d M0 P 8 [some (vR (some l0)), some (vR l1), some (vR l2), none] [] M) ∧ (¬ ((mI M l0 9) ≠ 0) → R84 sl sx d M0 P 7 [some (vR (some l0)), some (vR l1), some (vR l2), none] [] M) from ⟨fun hc => ?_, fun hc => ?_⟩)
  · replace h := h.1 hc
    obtain ⟨a1, he, h⟩ := h
    refine RN_k (callX_det _) 1 _ _ _ _ (show R84 sl sx d M0 P 9 [some (vR (some l0)), some (vR l1), some (vR l2), none] [vR l2] M from ?_)
    subst he
    refine RN_k (callX_det _) 1 _ _ _ _ (show kd M a1 7 ∧ R84 sl sx d M0 P 12 [some (vR (some l0)), some (vR l1), some (vR (some a1)), none] [vR (mR M a1 10)] M from ⟨h.1, ?_⟩)
    replace h := h.2
    obtain ⟨a2, he, h⟩ := h
    refine RN_k (callX_det _) 2 _ _ _ _ (show R84 sl sx d M0 P 14 [some (vR (some l0)), some (vR l1), some (vR (some a1)), some (vR (mR M a1 10))] [vR l1] M from ?_)
    subst he
    refine RN_k (callX_det _) 1 _ _ _ _ (show kd M a2 7 ∧ R84 sl sx d M0 P 17 [some (vR (some l0)), some (vR (some a2)), some (vR (some a1)), some (vR (mR M a1 10))] [vR (mR M a2 10)] M from ⟨h.1, ?_⟩)
    replace h := h.2
    refine RN_k (callX_det _) 1 _ _ _ _ (show ((mR M a2 10) = none → R84 sl sx d M0 P 28 [some (vR (some l0)), some (vR (some a2)), some (vR (some a1)), some (vR (mR M a1 10))] [] M) ∧ (¬ (mR M a2 10) = none → R84 sl sx d M0 P 20 [some (vR (some l0)), some (vR (some a2)), some (vR (some a1)), some (vR (mR M a1 10))] [] M) from ⟨fun hc => ?_, fun hc => ?_⟩)
    · replace h := h.1 hc
      refine RN_k (callX_det _) 2 _ _ _ _ (show ((mR M a1 10) = none → R84 sl sx d M0 P 63 [some (vR (some l0)), some (vR (some a2)), some (vR (some a1)), some (vR (mR M a1 10))] [] M) ∧ (¬ (mR M a1 10) = none → R84 sl sx d M0 P 32 [some (vR (some l0)), some (vR (some a2)), some (vR (some a1)), some (vR (mR M a1 10))] [] M) from ⟨fun hc => ?_, fun hc => ?_⟩)
      · replace h := h.1 hc
        exact RN_weak (K := [none, none, none, none]) (callX_det _) (show True from trivial) (t84_63   _ hM h)
      · replace h := h.2 hc
        obtain ⟨a3, he, h⟩ := h
        refine RN_k (callX_det _) 3 _ _ _ _ (show R84 sl sx d M0 P 35 [some (vR (some l0)), some (vR (some a2)), some (vR (some a1)), some (vR (mR M a1 10))] [vI (0 : Int32), vR (some l0), vR (mR M a1 10)] M from ?_)
        rw [he]
        refine RN_k (callX_det _) 1 _ _ _ _ (show kd M a3 7 ∧ callX TBg sl sx (d + 2) 85 [vR (some a3), vR (some l0), vI (0 : Int32)] M (fun v M9 => R84 sl sx d M0 P 38 [some (vR (some l0)), some (vR (some a2)), some (vR (some a1)), some (vR (some a3))] (pushO v []) M9) from ⟨h.1, ?_⟩)
        replace h := h.2
        refine callX_mono (callX_len (d := (d + 2)) rfl rfl rfl (c85 (d := d) h)) ?_
        clear h
        rintro v9 M4 ⟨hl, r5, rfl, h⟩
        replace hM := lenT hM hl
        show R84 sl sx d M0 P 38 [some (vR (some l0)), some (vR (some a2)), some (vR (some a1)), some (vR (some a3))] [vI r5] M4
        refine RN_k (callX_det _) 1 _ _ _ _ (show (0 < r5 → R84 sl sx d M0 P 49 [some (vR (some l0)), some (vR (some a2)), some (vR (some a1)), some (vR (some a3))] [] M4) ∧ (¬ (0 < r5) → R84 sl sx d M0 P 41 [some (vR (some l0)), some (vR (some a2)), some (vR (some a1)), some (vR (some a3))] [] M4) from ⟨fun hc => ?_, fun hc => ?_⟩)
        · replace h := h.1 hc
          refine RN_k (callX_det _) 4 _ _ _ _ (show kd M4 a3 7 ∧ callX TBg sl sx (d + 2) 85 [vR (some a3), vR (some l0), vI (1 : Int32)] M4 (fun v M9 => R84 sl sx d M0 P 55 [some (vR (some l0)), some (vR (some a2)), some (vR (some a1)), some (vR (some a3))] (pushO v []) M9) from ⟨h.1, ?_⟩)
          replace h := h.2
          refine callX_mono (callX_len (d := (d + 2)) rfl rfl rfl (c85 (d := d) h)) ?_
          clear h
          rintro v9 M6 ⟨hl, r7, rfl, h⟩
          replace hM := lenT hM hl
          show R84 sl sx d M0 P 55 [some (vR (some l0)), some (vR (some a2)), some (vR (some a1)), some (vR (some a3))] [vI r7] M6
          refine RN_k (callX_det _) 1 _ _ _ _ (show (0 < r7 → R84 sl sx d M0 P 63 [some (vR (some l0)), some (vR (some a2)), some (vR (some a1)), some (vR (some a3))] [] M6) ∧ (¬ (0 < r7) → R84 sl sx d M0 P 58 [some (vR (some l0)), some (vR (some a2)), some (vR (some a1)), some (vR (some a3))] [] M6) from ⟨fun hc => ?_, fun hc => ?_⟩)
          · replace h := h.1 hc
            exact RN_weak (K := [none, none, none, none]) (callX_det _) (show True from trivial) (t84_63   _ hM h)
          · replace h := h.2 hc
            refine RN_k (callX_det _) 3 _ _ _ _ (show kd M6 l0 7 ∧ R84 sl sx d M0 P 63 [some (vR (some l0)), some (vR (some a2)), some (vR (some a1)), some (vR (some a3))] [] (sR M6 l0 10 (some a3)) from ⟨h.1, ?_⟩)
            replace h := h.2
            exact RN_weak (K := [none, none, none, none]) (callX_det _) (show True from trivial) (t84_63   _ hM h)
        · replace h := h.2 hc
          refine RN_k (callX_det _) 3 _ _ _ _ (show kd M4 l0 7 ∧ R84 sl sx d M0 P 46 [some (vR (some l0)), some (vR (some a2)), some (vR (some a1)), some (vR (some a3))] [] (sR M4 l0 10 (some l0)) from ⟨h.1, ?_⟩)
          replace h := h.2
          refine RN_k (callX_det _) 1 _ _ _ _ (show R84 sl sx d M0 P 63 [some (vR (some l0)), some (vR (some a2)), some (vR (some a1)), some (vR (some a3))] [] (sR M4 l0 10 (some l0)) from ?_)
          exact RN_weak (K := [none, none, none, none]) (callX_det _) (show True from trivial) (t84_63   _ hM h)
    · replace h := h.2 hc
      refine RN_k (callX_det _) 3 _ _ _ _ (show kd M l0 7 ∧ R84 sl sx d M0 P 25 [some (vR (some l0)), some (vR (some a2)), some (vR (some a1)), some (vR (mR M a1 10))] [] (sR M l0 10 (some l0)) from ⟨h.1, ?_⟩)
      replace h := h.2
      refine RN_k (callX_det _) 1 _ _ _ _ (show R84 sl sx d M0 P 63 [some (vR (some l0)), some (vR (some a2)), some (vR (some a1)), some (vR (mR M a1 10))] [] (sR M l0 10 (some l0)) from ?_)
      exact RN_weak (K := [none, none, none, none]) (callX_det _) (show True from trivial) (t84_63   _ hM h)
  · replace h := h.2 hc
    exact RN_k (callX_det _) 1 _ _ _ _ (show rtW q84 M0 (PV P) none M from ⟨rfl, hM.1, hM.2, rfl, h⟩)
theorem c84 {sl : Nat} {sx : Nat → Int32} {d : Nat} {l0 : Nat} {l1 : Option Nat} {l2 : Option Nat} {M : MM} {P : MM → Prop} (h : w84 l0 l1 l2 M P) : callX TBg sl sx (d + 3) 84 [vR (some l0), vR l1, vR l2] M (PV P) :=
  cX (d := d + 2) q84 (false, tb84) rfl rfl rfl (t84_E l0 l1 l2 M lenR h)
-- TwoLeash$Cells.measure(JJ)V
abbrev q80 : MQ7 := (3, 1, 7, 1, 0, 0, 0)
abbrev R80 (sl : Nat) (sx : Nat → Int32) (d : Nat) (M0 : MM) (P : MM → Prop) : Nat → LL → List VV → MM → Prop := RN 1 false (mS M0).length (mT M0) 0 0 sl sx (callX TBg sl sx (d + 3)) (rtW q80 M0 (PV P)) (as2 tb80)
def w80_165 (k153 : Nat → Int32 → MM → Prop) : Nat → Nat → Int32 → Int32 → MM → (MM → Prop) → Prop
  | 0 => fun _ _ _ _ _ => False
  | n + 1 => fun l0 l5 l6 M P => kd M l0 1 ∧ (((mI M l0 2) ≤ l6 → (k153 l0 (l5 + (1 : Int32)) M)) ∧ (¬ ((mI M l0 2) ≤ l6) → (kd M l0 1 ∧ w83 l0 (l5 + (1 : Int32)) l6 M (fun r2 M1 => kd M1 l0 1 ∧ w82 l0 l5 l6 M1 (fun r4 M3 => kd M3 l0 1 ∧ w83 l0 l5 l6 M3 (fun r6 M5 => ∃ a7, r2 = some a7 ∧ (kd M5 a7 7 ∧ w84 a7 r4 r6 M5 (fun M8 => kd M8 l0 1 ∧ w82 l0 l5 (l6 + (1 : Int32)) M8 (fun r10 M9 => kd M9 l0 1 ∧ w83 l0 l5 l6 M9 (fun r12 M11 => kd M11 l0 1 ∧ w82 l0 l5 l6 M11 (fun r14 M13 => ∃ a15, r10 = some a15 ∧ (kd M13 a15 7 ∧ w84 a15 r12 r14 M13 (fun M16 => w80_165 k153 n l0 l5 (l6 + (1 : Int32)) M16 P)))))))))))))
theorem t80_165 {sl : Nat} {sx : Nat → Int32} {d : Nat} {M0 : MM} {P : MM → Prop} {k153 : Nat → Int32 → MM → Prop} (hk153 : ∀ (l0 : Nat) (l5 : Int32) (M : MM), lenO M0 M → k153 l0 l5 M → R80 sl sx d M0 P 153 [some (vR (some l0)), none, none, none, none, some (vI l5), none] [] M) (n : Nat) : ∀ (l0 : Nat) (l5 : Int32) (l6 : Int32) (M : MM) (_ : lenO M0 M) (_ : w80_165 k153 n l0 l5 l6 M P), R80 sl sx d M0 P 165 [some (vR (some l0)), none, none, none, none, some (vI l5), some (vI l6)] [] M := by
  induction n with
  | zero => intro l0 l5 l6 M hM h; cases h
  | succ n ih =>
    intro l0 l5 l6 M hM h
    refine RN_k (callX_det _) 3 _ _ _ _ (show kd M l0 1 ∧ R80 sl sx d M0 P 171 [some (vR (some l0)), none, none, none, none, some (vI l5), some (vI l6)] [vI (mI M l0 2), vI l6] M from ⟨h.1, ?_⟩)
    replace h := h.2
    refine RN_k (callX_det _) 1 _ _ _ _ (show ((mI M l0 2) ≤ l6 → R80 sl sx d M0 P 238 [some (vR (some l0)), none, none, none, none, some (vI l5), some (vI l6)] [] M) ∧ (¬ ((mI M l0 2) ≤ l6) → R80 sl sx d M0 P 174 [some (vR (some l0)), none, none, none, none, some (vI l5), some (vI l6)] [] M) from ⟨fun hc => ?_, fun hc => ?_⟩)
    · replace h := h.1 hc
      refine RN_k (callX_det _) 2 _ _ _ _ (show R80 sl sx d M0 P 153 [some (vR (some l0)), none, none, none, none, some (vI (l5 + (1 : Int32))), some (vI l6)] [] M from ?_)
      exact RN_weak (K := [some (vR (some l0)), none, none, none, none, some (vI (l5 + (1 : Int32))), none]) (callX_det _) (show _ ∧ _ ∧ True from ⟨rfl, rfl, trivial⟩) (hk153 l0 (l5 + (1 : Int32)) _ hM h)
    · replace h := h.2 hc
      refine RN_k (callX_det _) 6 _ _ _ _ (show kd M l0 1 ∧ callX TBg sl sx (d + 3) 83 [vR (some l0), vI (l5 + (1 : Int32)), vI l6] M (fun v M9 => R80 sl sx d M0 P 184 [some (vR (some l0)), none, none, none, none, some (vI l5), some (vI l6)] (pushO v []) M9) from ⟨h.1, ?_⟩)
      replace h := h.2
      refine callX_mono (callX_len (d := (d + 3)) rfl rfl rfl (c83 (d := d + 2) h)) ?_
      clear h
      rintro v9 M1 ⟨hl, r2, rfl, h⟩
      replace hM := lenT hM hl
      show R80 sl sx d M0 P 184 [some (vR (some l0)), none, none, none, none, some (vI l5), some (vI l6)] [vR r2] M1
      refine RN_k (callX_det _) 4 _ _ _ _ (show kd M1 l0 1 ∧ callX TBg sl sx (d + 3) 82 [vR (some l0), vI l5, vI l6] M1 (fun v M9 => R80 sl sx d M0 P 192 [some (vR (some l0)), none, none, none, none, some (vI l5), some (vI l6)] (pushO v [vR r2]) M9) from ⟨h.1, ?_⟩)
      replace h := h.2
      refine callX_mono (callX_len (d := (d + 3)) rfl rfl rfl (c82 (d := d + 2) h)) ?_
      clear h
      rintro v9 M3 ⟨hl, r4, rfl, h⟩
      replace hM := lenT hM hl
      show R80 sl sx d M0 P 192 [some (vR (some l0)), none, none, none, none, some (vI l5), some (vI l6)] [vR r4, vR r2] M3
      refine RN_k (callX_det _) 4 _ _ _ _ (show kd M3 l0 1 ∧ callX TBg sl sx (d + 3) 83 [vR (some l0), vI l5, vI l6] M3 (fun v M9 => R80 sl sx d M0 P 200 [some (vR (some l0)), none, none, none, none, some (vI l5), some (vI l6)] (pushO v [vR r4, vR r2]) M9) from ⟨h.1, ?_⟩)
      replace h := h.2
      refine callX_mono (callX_len (d := (d + 3)) rfl rfl rfl (c83 (d := d + 2) h)) ?_
      clear h
      rintro v9 M5 ⟨hl, r6, rfl, h⟩
      replace hM := lenT hM hl
      show R80 sl sx d M0 P 200 [some (vR (some l0)), none, none, none, none, some (vI l5), some (vI l6)] [vR r6, vR r4, vR r2] M5
      obtain ⟨a7, he, h⟩ := h
      subst he
      refine RN_k (callX_det _) 1 _ _ _ _ (show kd M5 a7 7 ∧ callX TBg sl sx (d + 3) 84 [vR (some a7), vR r4, vR r6] M5 (fun v M9 => R80 sl sx d M0 P 203 [some (vR (some l0)), none, none, none, none, some (vI l5), some (vI l6)] (pushO v []) M9) from ⟨h.1, ?_⟩)
      replace h := h.2
      refine callX_mono (callX_len (d := (d + 3)) rfl rfl rfl (c84 (d := d) h)) ?_
      clear h
      rintro v9 M8 ⟨hl, rfl, h⟩
      replace hM := lenT hM hl
      show R80 sl sx d M0 P 203 [some (vR (some l0)), none, none, none, none, some (vI l5), some (vI l6)] [] M8
      refine RN_k (callX_det _) 6 _ _ _ _ (show kd M8 l0 1 ∧ callX TBg sl sx (d + 3) 82 [vR (some l0), vI l5, vI (l6 + (1 : Int32))] M8 (fun v M9 => R80 sl sx d M0 P 213 [some (vR (some l0)), none, none, none, none, some (vI l5), some (vI l6)] (pushO v []) M9) from ⟨h.1, ?_⟩)
      replace h := h.2
      refine callX_mono (callX_len (d := (d + 3)) rfl rfl rfl (c82 (d := d + 2) h)) ?_
      clear h
      rintro v9 M9 ⟨hl, r10, rfl, h⟩
      replace hM := lenT hM hl
      show R80 sl sx d M0 P 213 [some (vR (some l0)), none, none, none, none, some (vI l5), some (vI l6)] [vR r10] M9
      refine RN_k (callX_det _) 4 _ _ _ _ (show kd M9 l0 1 ∧ callX TBg sl sx (d + 3) 83 [vR (some l0), vI l5, vI l6] M9 (fun v M9 => R80 sl sx d M0 P 221 [some (vR (some l0)), none, none, none, none, some (vI l5), some (vI l6)] (pushO v [vR r10]) M9) from ⟨h.1, ?_⟩)
      replace h := h.2
      refine callX_mono (callX_len (d := (d + 3)) rfl rfl rfl (c83 (d := d + 2) h)) ?_
      clear h
      rintro v9 M11 ⟨hl, r12, rfl, h⟩
      replace hM := lenT hM hl
      show R80 sl sx d M0 P 221 [some (vR (some l0)), none, none, none, none, some (vI l5), some (vI l6)] [vR r12, vR r10] M11
      refine RN_k (callX_det _) 4 _ _ _ _ (show kd M11 l0 1 ∧ callX TBg sl sx (d + 3) 82 [vR (some l0), vI l5, vI l6] M11 (fun v M9 => R80 sl sx d M0 P 229 [some (vR (some l0)), none, none, none, none, some (vI l5), some (vI l6)] (pushO v [vR r12, vR r10]) M9) from ⟨h.1, ?_⟩)
      replace h := h.2
      refine callX_mono (callX_len (d := (d + 3)) rfl rfl rfl (c82 (d := d + 2) h)) ?_
      clear h
      rintro v9 M13 ⟨hl, r14, rfl, h⟩
      replace hM := lenT hM hl
      show R80 sl sx d M0 P 229 [some (vR (some l0)), none, none, none, none, some (vI l5), some (vI l6)] [vR r14, vR r12, vR r10] M13
      obtain ⟨a15, he, h⟩ := h
      subst he
      refine RN_k (callX_det _) 1 _ _ _ _ (show kd M13 a15 7 ∧ callX TBg sl sx (d + 3) 84 [vR (some a15), vR r12, vR r14] M13 (fun v M9 => R80 sl sx d M0 P 232 [some (vR (some l0)), none, none, none, none, some (vI l5), some (vI l6)] (pushO v []) M9) from ⟨h.1, ?_⟩)
      replace h := h.2
      refine callX_mono (callX_len (d := (d + 3)) rfl rfl rfl (c84 (d := d) h)) ?_
      clear h
      rintro v9 M16 ⟨hl, rfl, h⟩
      replace hM := lenT hM hl
      show R80 sl sx d M0 P 232 [some (vR (some l0)), none, none, none, none, some (vI l5), some (vI l6)] [] M16
      refine RN_k (callX_det _) 2 _ _ _ _ (show R80 sl sx d M0 P 165 [some (vR (some l0)), none, none, none, none, some (vI l5), some (vI (l6 + (1 : Int32)))] [] M16 from ?_)
      exact RN_weak (K := [some (vR (some l0)), none, none, none, none, some (vI l5), some (vI (l6 + (1 : Int32)))]) (callX_det _) (show _ ∧ _ ∧ _ ∧ True from ⟨rfl, rfl, rfl, trivial⟩) (ih l0 l5 (l6 + (1 : Int32)) _ hM h)
def w80_153 : Nat → Nat → Int32 → MM → (MM → Prop) → Prop
  | 0 => fun _ _ _ _ => False
  | n + 1 => fun l0 l5 M P => kd M l0 1 ∧ (((mI M l0 1) ≤ l5 → (P M)) ∧ (¬ ((mI M l0 1) ≤ l5) → (∃ n2, w80_165 (fun z0 z1 z2 => w80_153  n z0 z1 z2 P) n2 l0 l5 (0 : Int32) M P)))
theorem t80_153 {sl : Nat} {sx : Nat → Int32} {d : Nat} {M0 : MM} {P : MM → Prop} (n : Nat) : ∀ (l0 : Nat) (l5 : Int32) (M : MM) (_ : lenO M0 M) (_ : w80_153  n l0 l5 M P), R80 sl sx d M0 P 153 [some (vR (some l0)), none, none, none, none, some (vI l5), none] [] M := by
  induction n with
  | zero => intro l0 l5 M hM h; cases h
  | succ n ih =>
    intro l0 l5 M hM h
    refine RN_k (callX_det _) 3 _ _ _ _ (show kd M l0 1 ∧ R80 sl sx d M0 P 159 [some (vR (some l0)), none, none, none, none, some (vI l5), none] [vI (mI M l0 1), vI l5] M from ⟨h.1, ?_⟩)
    replace h := h.2
    refine RN_k (callX_det _) 1 _ _ _ _ (show ((mI M l0 1) ≤ l5 → R80 sl sx d M0 P 244 [some (vR (some l0)), none, none, none, none, some (vI l5), none] [] M) ∧ (¬ ((mI M l0 1) ≤ l5) → R80 sl sx d M0 P 162 [some (vR (some l0)), none, none, none, none, some (vI l5), none] [] M) from ⟨fun hc => ?_, fun hc => ?_⟩)
    · replace h := h.1 hc
      exact RN_k (callX_det _) 1 _ _ _ _ (show rtW q80 M0 (PV P) none M from ⟨rfl, hM.1, hM.2, rfl, h⟩)
    · replace h := h.2 hc
      refine RN_k (callX_det _) 2 _ _ _ _ (show R80 sl sx d M0 P 165 [some (vR (some l0)), none, none, none, none, some (vI l5), some (vI (0 : Int32))] [] M from ?_)
      obtain ⟨n2, h⟩ := h
      exact RN_weak (K := [some (vR (some l0)), none, none, none, none, some (vI l5), some (vI (0 : Int32))]) (callX_det _) (show _ ∧ _ ∧ _ ∧ True from ⟨rfl, rfl, rfl, trivial⟩) (t80_165 ih n2 l0 l5 (0 : Int32) _ hM h)
def w80_150 (l0 : Nat) (M : MM) (P : MM → Prop) : Prop := ∃ n2, w80_153  n2 l0 (0 : Int32) M P
theorem t80_150 {sl : Nat} {sx : Nat → Int32} {d : Nat} {M0 : MM} {P : MM → Prop} (l0 : Nat) (M : MM) (hM : lenO M0 M) (h : w80_150  l0 M P) : R80 sl sx d M0 P 150 [some (vR (some l0)), none, none, none, none, none, none] [] M := by
  refine RN_k (callX_det _) 2 _ _ _ _ (show R80 sl sx d M0 P 153 [some (vR (some l0)), none, none, none, none, some (vI (0 : Int32)), none] [] M from ?_)
  obtain ⟨n2, h⟩ := h
  exact RN_weak (K := [some (vR (some l0)), none, none, none, none, some (vI (0 : Int32)), none]) (callX_det _) (show _ ∧ _ ∧ True from ⟨rfl, rfl, trivial⟩) (t80_153  n2 l0 (0 : Int32) _ hM h)
def w80_105 : Nat → Nat → Int32 → MM → (MM → Prop) → Prop
  | 0 => fun _ _ _ _ => False
  | n + 1 => fun l0 l5 M P => kd M l0 1 ∧ (((mI M l0 2) ≤ l5 → (w80_150  l0 M P)) ∧ (¬ ((mI M l0 2) ≤ l5) → (kd M l0 1 ∧ w83 l0 (0 : Int32) l5 M (fun r2 M1 => ∃ a3, r2 = some a3 ∧ (kd M1 a3 7 ∧ (((mI M1 a3 7) = 0 → (w80_150  l0 M1 P)) ∧ (¬ ((mI M1 a3 7) = 0) → (kd M1 l0 1 ∧ w83 l0 (0 : Int32) l5 M1 (fun r5 M4 => kd M4 l0 1 ∧ w83 l0 (0 : Int32) l5 M4 (fun r7 M6 => ∃ a8, r5 = some a8 ∧ (kd M6 a8 7 ∧ (w80_105  n l0 (l5 + (1 : Int32)) (sR M6 a8 10 r7) P))))))))))))
theorem t80_105 {sl : Nat} {sx : Nat → Int32} {d : Nat} {M0 : MM} {P : MM → Prop} (n : Nat) : ∀ (l0 : Nat) (l5 : Int32) (M : MM) (_ : lenO M0 M) (_ : w80_105  n l0 l5 M P), R80 sl sx d M0 P 105 [some (vR (some l0)), none, none, none, none, some (vI l5), none] [] M := by
  induction n with
  | zero => intro l0 l5 M hM h; cases h
  | succ n ih =>
    intro l0 l5 M hM h
    refine RN_k (callX_det _) 3 _ _ _ _ (show kd M l0 1 ∧ R80 sl sx d M0 P 111 [some (vR (some l0)), none, none, none, none, some (vI l5), none] [vI (mI M l0 2), vI l5] M from ⟨h.1, ?_⟩)
    replace h := h.2
    refine RN_k (callX_det _) 1 _ _ _ _ (show ((mI M l0 2) ≤ l5 → R80 sl sx d M0 P 150 [some (vR (some l0)), none, none, none, none, some (vI l5), none] [] M) ∧ (¬ ((mI M l0 2) ≤ l5) → R80 sl sx d M0 P 114 [some (vR (some l0)), none, none, none, none, some (vI l5), none] [] M) from ⟨fun hc => ?_, fun hc => ?_⟩)
    · replace h := h.1 hc
      exact RN_weak (K := [some (vR (some l0)), none, none, none, none, none, none]) (callX_det _) (show _ ∧ True from ⟨rfl, trivial⟩) (t80_150  l0 _ hM h)
    · replace h := h.2 hc
      refine RN_k (callX_det _) 4 _ _ _ _ (show kd M l0 1 ∧ callX TBg sl sx (d + 3) 83 [vR (some l0), vI (0 : Int32), vI l5] M (fun v M9 => R80 sl sx d M0 P 121 [some (vR (some l0)), none, none, none, none, some (vI l5), none] (pushO v []) M9) from ⟨h.1, ?_⟩)
      replace h := h.2
      refine callX_mono (callX_len (d := (d + 3)) rfl rfl rfl (c83 (d := d + 2) h)) ?_
      clear h
      rintro v9 M1 ⟨hl, r2, rfl, h⟩
      replace hM := lenT hM hl
      show R80 sl sx d M0 P 121 [some (vR (some l0)), none, none, none, none, some (vI l5), none] [vR r2] M1
      obtain ⟨a3, he, h⟩ := h
      subst he
      refine RN_k (callX_det _) 1 _ _ _ _ (show kd M1 a3 7 ∧ R80 sl sx d M0 P 124 [some (vR (some l0)), none, none, none, none, some (vI l5), none] [vI (mI M1 a3 7)] M1 from ⟨h.1, ?_⟩)
      replace h := h.2
      refine RN_k (callX_det _) 1 _ _ _ _ (show ((mI M1 a3 7) = 0 → R80 sl sx d M0 P 150 [some (vR (some l0)), none, none, none, none, some (vI l5), none] [] M1) ∧ (¬ ((mI M1 a3 7) = 0) → R80 sl sx d M0 P 127 [some (vR (some l0)), none, none, none, none, some (vI l5), none] [] M1) from ⟨fun hc => ?_, fun hc => ?_⟩)
      · replace h := h.1 hc
        exact RN_weak (K := [some (vR (some l0)), none, none, none, none, none, none]) (callX_det _) (show _ ∧ True from ⟨rfl, trivial⟩) (t80_150  l0 _ hM h)
      · replace h := h.2 hc
        refine RN_k (callX_det _) 4 _ _ _ _ (show kd M1 l0 1 ∧ callX TBg sl sx (d + 3) 83 [vR (some l0), vI (0 : Int32), vI l5] M1 (fun v M9 => R80 sl sx d M0 P 134 [some (vR (some l0)), none, none, none, none, some (vI l5), none] (pushO v []) M9) from ⟨h.1, ?_⟩)
        replace h := h.2
        refine callX_mono (callX_len (d := (d + 3)) rfl rfl rfl (c83 (d := d + 2) h)) ?_
        clear h
        rintro v9 M4 ⟨hl, r5, rfl, h⟩
        replace hM := lenT hM hl
        show R80 sl sx d M0 P 134 [some (vR (some l0)), none, none, none, none, some (vI l5), none] [vR r5] M4
        refine RN_k (callX_det _) 4 _ _ _ _ (show kd M4 l0 1 ∧ callX TBg sl sx (d + 3) 83 [vR (some l0), vI (0 : Int32), vI l5] M4 (fun v M9 => R80 sl sx d M0 P 141 [some (vR (some l0)), none, none, none, none, some (vI l5), none] (pushO v [vR r5]) M9) from ⟨h.1, ?_⟩)
        replace h := h.2
        refine callX_mono (callX_len (d := (d + 3)) rfl rfl rfl (c83 (d := d + 2) h)) ?_
        clear h
        rintro v9 M6 ⟨hl, r7, rfl, h⟩
        replace hM := lenT hM hl
        show R80 sl sx d M0 P 141 [some (vR (some l0)), none, none, none, none, some (vI l5), none] [vR r7, vR r5] M6
        obtain ⟨a8, he, h⟩ := h
        subst he
        refine RN_k (callX_det _) 1 _ _ _ _ (show kd M6 a8 7 ∧ R80 sl sx d M0 P 144 [some (vR (some l0)), none, none, none, none, some (vI l5), none] [] (sR M6 a8 10 r7) from ⟨h.1, ?_⟩)
        replace h := h.2
        refine RN_k (callX_det _) 2 _ _ _ _ (show R80 sl sx d M0 P 105 [some (vR (some l0)), none, none, none, none, some (vI (l5 + (1 : Int32))), none] [] (sR M6 a8 10 r7) from ?_)
        exact RN_weak (K := [some (vR (some l0)), none, none, none, none, some (vI (l5 + (1 : Int32))), none]) (callX_det _) (show _ ∧ _ ∧ True from ⟨rfl, rfl, trivial⟩) (ih l0 (l5 + (1 : Int32)) _ hM h)
def w80_102 (l0 : Nat) (M : MM) (P : MM → Prop) : Prop := ∃ n2, w80_105  n2 l0 (0 : Int32) M P
theorem t80_102 {sl : Nat} {sx : Nat → Int32} {d : Nat} {M0 : MM} {P : MM → Prop} (l0 : Nat) (M : MM) (hM : lenO M0 M) (h : w80_102  l0 M P) : R80 sl sx d M0 P 102 [some (vR (some l0)), none, none, none, none, none, none] [] M := by
  refine RN_k (callX_det _) 2 _ _ _ _ (show R80 sl sx d M0 P 105 [some (vR (some l0)), none, none, none, none, some (vI (0 : Int32)), none] [] M from ?_)
  obtain ⟨n2, h⟩ := h
  exact RN_weak (K := [some (vR (some l0)), none, none, none, none, some (vI (0 : Int32)), none]) (callX_det _) (show _ ∧ _ ∧ True from ⟨rfl, rfl, trivial⟩) (t80_105  n2 l0 (0 : Int32) _ hM h)
def w80_57 : Nat → Nat → Int32 → MM → (MM → Prop) → Prop
  | 0 => fun _ _ _ _ => False
  | n + 1 => fun l0 l5 M P => kd M l0 1 ∧ (((mI M l0 1) ≤ l5 → (w80_102  l0 M P)) ∧ (¬ ((mI M l0 1) ≤ l5) → (kd M l0 1 ∧ w82 l0 l5 (0 : Int32) M (fun r2 M1 => ∃ a3, r2 = some a3 ∧ (kd M1 a3 7 ∧ (((mI M1 a3 7) = 0 → (w80_102  l0 M1 P)) ∧ (¬ ((mI M1 a3 7) = 0) → (kd M1 l0 1 ∧ w82 l0 l5 (0 : Int32) M1 (fun r5 M4 => kd M4 l0 1 ∧ w82 l0 l5 (0 : Int32) M4 (fun r7 M6 => ∃ a8, r5 = some a8 ∧ (kd M6 a8 7 ∧ (w80_57  n l0 (l5 + (1 : Int32)) (sR M6 a8 10 r7) P))))))))))))
theorem t80_57 {sl : Nat} {sx : Nat → Int32} {d : Nat} {M0 : MM} {P : MM → Prop} (n : Nat) : ∀ (l0 : Nat) (l5 : Int32) (M : MM) (_ : lenO M0 M) (_ : w80_57  n l0 l5 M P), R80 sl sx d M0 P 57 [some (vR (some l0)), none, none, none, none, some (vI l5), none] [] M := by
  induction n with
  | zero => intro l0 l5 M hM h; cases h
  | succ n ih =>
    intro l0 l5 M hM h
    refine RN_k (callX_det _) 3 _ _ _ _ (show kd M l0 1 ∧ R80 sl sx d M0 P 63 [some (vR (some l0)), none, none, none, none, some (vI l5), none] [vI (mI M l0 1), vI l5] M from ⟨h.1, ?_⟩)
    replace h := h.2
    refine RN_k (callX_det _) 1 _ _ _ _ (show ((mI M l0 1) ≤ l5 → R80 sl sx d M0 P 102 [some (vR (some l0)), none, none, none, none, some (vI l5), none] [] M) ∧ (¬ ((mI M l0 1) ≤ l5) → R80 sl sx d M0 P 66 [some (vR (some l0)), none, none, none, none, some (vI l5), none] [] M) from ⟨fun hc => ?_, fun hc => ?_⟩)
    · replace h := h.1 hc
      exact RN_weak (K := [some (vR (some l0)), none, none, none, none, none, none]) (callX_det _) (show _ ∧ True from ⟨rfl, trivial⟩) (t80_102  l0 _ hM h)
    · replace h := h.2 hc
      refine RN_k (callX_det _) 4 _ _ _ _ (show kd M l0 1 ∧ callX TBg sl sx (d + 3) 82 [vR (some l0), vI l5, vI (0 : Int32)] M (fun v M9 => R80 sl sx d M0 P 73 [some (vR (some l0)), none, none, none, none, some (vI l5), none] (pushO v []) M9) from ⟨h.1, ?_⟩)
      replace h := h.2
      refine callX_mono (callX_len (d := (d + 3)) rfl rfl rfl (c82 (d := d + 2) h)) ?_
      clear h
      rintro v9 M1 ⟨hl, r2, rfl, h⟩
      replace hM := lenT hM hl
      show R80 sl sx d M0 P 73 [some (vR (some l0)), none, none, none, none, some (vI l5), none] [vR r2] M1
      obtain ⟨a3, he, h⟩ := h
      subst he
      refine RN_k (callX_det _) 1 _ _ _ _ (show kd M1 a3 7 ∧ R80 sl sx d M0 P 76 [some (vR (some l0)), none, none, none, none, some (vI l5), none] [vI (mI M1 a3 7)] M1 from ⟨h.1, ?_⟩)
      replace h := h.2
      refine RN_k (callX_det _) 1 _ _ _ _ (show ((mI M1 a3 7) = 0 → R80 sl sx d M0 P 102 [some (vR (some l0)), none, none, none, none, some (vI l5), none] [] M1) ∧ (¬ ((mI M1 a3 7) = 0) → R80 sl sx d M0 P 79 [some (vR (some l0)), none, none, none, none, some (vI l5), none] [] M1) from ⟨fun hc => ?_, fun hc => ?_⟩)
      · replace h := h.1 hc
        exact RN_weak (K := [some (vR (some l0)), none, none, none, none, none, none]) (callX_det _) (show _ ∧ True from ⟨rfl, trivial⟩) (t80_102  l0 _ hM h)
      · replace h := h.2 hc
        refine RN_k (callX_det _) 4 _ _ _ _ (show kd M1 l0 1 ∧ callX TBg sl sx (d + 3) 82 [vR (some l0), vI l5, vI (0 : Int32)] M1 (fun v M9 => R80 sl sx d M0 P 86 [some (vR (some l0)), none, none, none, none, some (vI l5), none] (pushO v []) M9) from ⟨h.1, ?_⟩)
        replace h := h.2
        refine callX_mono (callX_len (d := (d + 3)) rfl rfl rfl (c82 (d := d + 2) h)) ?_
        clear h
        rintro v9 M4 ⟨hl, r5, rfl, h⟩
        replace hM := lenT hM hl
        show R80 sl sx d M0 P 86 [some (vR (some l0)), none, none, none, none, some (vI l5), none] [vR r5] M4
        refine RN_k (callX_det _) 4 _ _ _ _ (show kd M4 l0 1 ∧ callX TBg sl sx (d + 3) 82 [vR (some l0), vI l5, vI (0 : Int32)] M4 (fun v M9 => R80 sl sx d M0 P 93 [some (vR (some l0)), none, none, none, none, some (vI l5), none] (pushO v [vR r5]) M9) from ⟨h.1, ?_⟩)
        replace h := h.2
        refine callX_mono (callX_len (d := (d + 3)) rfl rfl rfl (c82 (d := d + 2) h)) ?_
        clear h
        rintro v9 M6 ⟨hl, r7, rfl, h⟩
        replace hM := lenT hM hl
        show R80 sl sx d M0 P 93 [some (vR (some l0)), none, none, none, none, some (vI l5), none] [vR r7, vR r5] M6
        obtain ⟨a8, he, h⟩ := h
        subst he
        refine RN_k (callX_det _) 1 _ _ _ _ (show kd M6 a8 7 ∧ R80 sl sx d M0 P 96 [some (vR (some l0)), none, none, none, none, some (vI l5), none] [] (sR M6 a8 10 r7) from ⟨h.1, ?_⟩)
        replace h := h.2
        refine RN_k (callX_det _) 2 _ _ _ _ (show R80 sl sx d M0 P 57 [some (vR (some l0)), none, none, none, none, some (vI (l5 + (1 : Int32))), none] [] (sR M6 a8 10 r7) from ?_)
        exact RN_weak (K := [some (vR (some l0)), none, none, none, none, some (vI (l5 + (1 : Int32))), none]) (callX_det _) (show _ ∧ _ ∧ True from ⟨rfl, rfl, trivial⟩) (ih l0 (l5 + (1 : Int32)) _ hM h)
def w80_13 (k3 : Nat → Int64 → Int64 → Int32 → MM → Prop) : Nat → Nat → Int64 → Int64 → Int32 → Int32 → MM → (MM → Prop) → Prop
  | 0 => fun _ _ _ _ _ _ _ => False
  | n + 1 => fun l0 l1 l3 l5 l6 M P => kd M l0 1 ∧ w79 l0 l5 M (fun r2 M1 => (r2 ≤ l6 → (k3 l0 l1 l3 (l5 + (1 : Int32)) M1)) ∧ (¬ (r2 ≤ l6) → (kd M1 l0 1 ∧ (∃ a3, mR M1 l0 0 = some a3 ∧ (inb M1 a3 15 ((l5 * (8 : Int32)) + l6) ∧ (∃ a4, mR M1 a3 ((l5 * (8 : Int32)) + l6).toNatClampNeg = some a4 ∧ (kd M1 a4 7 ∧ w81 a4 l1 l3 M1 (fun M5 => w80_13 k3 n l0 l1 l3 l5 (l6 + (1 : Int32)) M5 P))))))))
theorem t80_13 {sl : Nat} {sx : Nat → Int32} {d : Nat} {M0 : MM} {P : MM → Prop} {k3 : Nat → Int64 → Int64 → Int32 → MM → Prop} (hk3 : ∀ (l0 : Nat) (l1 : Int64) (l3 : Int64) (l5 : Int32) (M : MM), lenO M0 M → k3 l0 l1 l3 l5 M → R80 sl sx d M0 P 3 [some (vR (some l0)), some (vL l1), none, some (vL l3), none, some (vI l5), none] [] M) (n : Nat) : ∀ (l0 : Nat) (l1 : Int64) (l3 : Int64) (l5 : Int32) (l6 : Int32) (M : MM) (_ : lenO M0 M) (_ : w80_13 k3 n l0 l1 l3 l5 l6 M P), R80 sl sx d M0 P 13 [some (vR (some l0)), some (vL l1), none, some (vL l3), none, some (vI l5), some (vI l6)] [] M := by
  induction n with
  | zero => intro l0 l1 l3 l5 l6 M hM h; cases h
  | succ n ih =>
    intro l0 l1 l3 l5 l6 M hM h
    refine RN_k (callX_det _) 4 _ _ _ _ (show kd M l0 1 ∧ callX TBg sl sx (d + 3) 79 [vR (some l0), vI l5] M (fun v M9 => R80 sl sx d M0 P 21 [some (vR (some l0)), some (vL l1), none, some (vL l3), none, some (vI l5), some (vI l6)] (pushO v [vI l6]) M9) from ⟨h.1, ?_⟩)
    replace h := h.2
    refine callX_mono (callX_len (d := (d + 3)) rfl rfl rfl (c79 (d := d + 2) h)) ?_
    clear h
    rintro v9 M1 ⟨hl, r2, rfl, h⟩
    replace hM := lenT hM hl
    show R80 sl sx d M0 P 21 [some (vR (some l0)), some (vL l1), none, some (vL l3), none, some (vI l5), some (vI l6)] [vI r2, vI l6] M1
    refine RN_k (callX_det _) 1 _ _ _ _ (show (r2 ≤ l6 → R80 sl sx d M0 P 48 [some (vR (some l0)), some (vL l1), none, some (vL l3), none, some (vI l5), some (vI l6)] [] M1) ∧ (¬ (r2 ≤ l6) → R80 sl sx d M0 P 24 [some (vR (some l0)), some (vL l1), none, some (vL l3), none, some (vI l5), some (vI l6)] [] M1) from ⟨fun hc => ?_, fun hc => ?_⟩)
    · replace h := h.1 hc
      refine RN_k (callX_det _) 2 _ _ _ _ (show R80 sl sx d M0 P 3 [some (vR (some l0)), some (vL l1), none, some (vL l3), none, some (vI (l5 + (1 : Int32))), some (vI l6)] [] M1 from ?_)
      exact RN_weak (K := [some (vR (some l0)), some (vL l1), none, some (vL l3), none, some (vI (l5 + (1 : Int32))), none]) (callX_det _) (show _ ∧ _ ∧ _ ∧ _ ∧ True from ⟨rfl, rfl, rfl, rfl, trivial⟩) (hk3 l0 l1 l3 (l5 + (1 : Int32)) _ hM h)
    · replace h := h.2 hc
      refine RN_k (callX_det _) 2 _ _ _ _ (show kd M1 l0 1 ∧ R80 sl sx d M0 P 28 [some (vR (some l0)), some (vL l1), none, some (vL l3), none, some (vI l5), some (vI l6)] [vR (mR M1 l0 0)] M1 from ⟨h.1, ?_⟩)
      replace h := h.2
      obtain ⟨a3, he, h⟩ := h
      refine RN_k (callX_det _) 5 _ _ _ _ (show R80 sl sx d M0 P 36 [some (vR (some l0)), some (vL l1), none, some (vL l3), none, some (vI l5), some (vI l6)] [vI ((l5 * (8 : Int32)) + l6), vR (mR M1 l0 0)] M1 from ?_)
      rw [he]
      refine RN_k (callX_det _) 1 _ _ _ _ (show inb M1 a3 15 ((l5 * (8 : Int32)) + l6) ∧ R80 sl sx d M0 P 37 [some (vR (some l0)), some (vL l1), none, some (vL l3), none, some (vI l5), some (vI l6)] [vR (mR M1 a3 ((l5 * (8 : Int32)) + l6).toNatClampNeg)] M1 from ⟨h.1, ?_⟩)
      replace h := h.2
      obtain ⟨a4, he, h⟩ := h
      refine RN_k (callX_det _) 2 _ _ _ _ (show R80 sl sx d M0 P 39 [some (vR (some l0)), some (vL l1), none, some (vL l3), none, some (vI l5), some (vI l6)] [vL l3, vL l1, vR (mR M1 a3 ((l5 * (8 : Int32)) + l6).toNatClampNeg)] M1 from ?_)
      rw [he]
      refine RN_k (callX_det _) 1 _ _ _ _ (show kd M1 a4 7 ∧ callX TBg sl sx (d + 3) 81 [vR (some a4), vL l1, vL l3] M1 (fun v M9 => R80 sl sx d M0 P 42 [some (vR (some l0)), some (vL l1), none, some (vL l3), none, some (vI l5), some (vI l6)] (pushO v []) M9) from ⟨h.1, ?_⟩)
      replace h := h.2
      refine callX_mono (callX_len (d := (d + 3)) rfl rfl rfl (c81 (d := d + 1) h)) ?_
      clear h
      rintro v9 M5 ⟨hl, rfl, h⟩
      replace hM := lenT hM hl
      show R80 sl sx d M0 P 42 [some (vR (some l0)), some (vL l1), none, some (vL l3), none, some (vI l5), some (vI l6)] [] M5
      refine RN_k (callX_det _) 2 _ _ _ _ (show R80 sl sx d M0 P 13 [some (vR (some l0)), some (vL l1), none, some (vL l3), none, some (vI l5), some (vI (l6 + (1 : Int32)))] [] M5 from ?_)
      exact RN_weak (K := [some (vR (some l0)), some (vL l1), none, some (vL l3), none, some (vI l5), some (vI (l6 + (1 : Int32)))]) (callX_det _) (show _ ∧ _ ∧ _ ∧ _ ∧ _ ∧ True from ⟨rfl, rfl, rfl, rfl, rfl, trivial⟩) (ih l0 l1 l3 l5 (l6 + (1 : Int32)) _ hM h)
def w80_3 : Nat → Nat → Int64 → Int64 → Int32 → MM → (MM → Prop) → Prop
  | 0 => fun _ _ _ _ _ _ => False
  | n + 1 => fun l0 l1 l3 l5 M P => ((14 : Int32) ≤ l5 → (∃ n2, w80_57  n2 l0 (0 : Int32) M P)) ∧ (¬ ((14 : Int32) ≤ l5) → (∃ n2, w80_13 (fun z0 z1 z2 z3 z4 => w80_3  n z0 z1 z2 z3 z4 P) n2 l0 l1 l3 l5 (0 : Int32) M P))
theorem t80_3 {sl : Nat} {sx : Nat → Int32} {d : Nat} {M0 : MM} {P : MM → Prop} (n : Nat) : ∀ (l0 : Nat) (l1 : Int64) (l3 : Int64) (l5 : Int32) (M : MM) (_ : lenO M0 M) (_ : w80_3  n l0 l1 l3 l5 M P), R80 sl sx d M0 P 3 [some (vR (some l0)), some (vL l1), none, some (vL l3), none, some (vI l5), none] [] M := by
  induction n with
  | zero => intro l0 l1 l3 l5 M hM h; cases h
  | succ n ih =>
    intro l0 l1 l3 l5 M hM h
    refine RN_k (callX_det _) 3 _ _ _ _ (show ((14 : Int32) ≤ l5 → R80 sl sx d M0 P 54 [some (vR (some l0)), some (vL l1), none, some (vL l3), none, some (vI l5), none] [] M) ∧ (¬ ((14 : Int32) ≤ l5) → R80 sl sx d M0 P 10 [some (vR (some l0)), some (vL l1), none, some (vL l3), none, some (vI l5), none] [] M) from ⟨fun hc => ?_, fun hc => ?_⟩)
    · replace h := h.1 hc
      refine RN_k (callX_det _) 2 _ _ _ _ (show R80 sl sx d M0 P 57 [some (vR (some l0)), some (vL l1), none, some (vL l3), none, some (vI (0 : Int32)), none] [] M from ?_)
      obtain ⟨n2, h⟩ := h
      exact RN_weak (K := [some (vR (some l0)), none, none, none, none, some (vI (0 : Int32)), none]) (callX_det _) (show _ ∧ _ ∧ True from ⟨rfl, rfl, trivial⟩) (t80_57  n2 l0 (0 : Int32) _ hM h)
    · replace h := h.2 hc
      refine RN_k (callX_det _) 2 _ _ _ _ (show R80 sl sx d M0 P 13 [some (vR (some l0)), some (vL l1), none, some (vL l3), none, some (vI l5), some (vI (0 : Int32))] [] M from ?_)
      obtain ⟨n2, h⟩ := h
      exact RN_weak (K := [some (vR (some l0)), some (vL l1), none, some (vL l3), none, some (vI l5), some (vI (0 : Int32))]) (callX_det _) (show _ ∧ _ ∧ _ ∧ _ ∧ _ ∧ True from ⟨rfl, rfl, rfl, rfl, rfl, trivial⟩) (t80_13 ih n2 l0 l1 l3 l5 (0 : Int32) _ hM h)
def w80 (l0 : Nat) (l1 : Int64) (l3 : Int64) (M : MM) (P : MM → Prop) : Prop := ∃ n2, w80_3  n2 l0 l1 l3 (0 : Int32) M P
theorem t80_E {sl : Nat} {sx : Nat → Int32} {d : Nat} {M0 : MM} {P : MM → Prop} (l0 : Nat) (l1 : Int64) (l3 : Int64) (M : MM) (hM : lenO M0 M) (h : w80  l0 l1 l3 M P) : R80 sl sx d M0 P 0 [some (vR (some l0)), some (vL l1), none, some (vL l3), none, none, none] [] M := by
  refine RN_k (callX_det _) 2 _ _ _ _ (show R80 sl sx d M0 P 3 [some (vR (some l0)), some (vL l1), none, some (vL l3), none, some (vI (0 : Int32)), none] [] M from ?_)
  obtain ⟨n2, h⟩ := h
  exact RN_weak (K := [some (vR (some l0)), some (vL l1), none, some (vL l3), none, some (vI (0 : Int32)), none]) (callX_det _) (show _ ∧ _ ∧ _ ∧ _ ∧ True from ⟨rfl, rfl, rfl, rfl, trivial⟩) (t80_3  n2 l0 l1 l3 (0 : Int32) _ hM h)
theorem c80 {sl : Nat} {sx : Nat → Int32} {d : Nat} {l0 : Nat} {l1 : Int64} {l3 : Int64} {M : MM} {P : MM → Prop} (h : w80 l0 l1 l3 M P) : callX TBg sl sx (d + 4) 80 [vR (some l0), vL l1, vL l3] M (PV P) :=
  cX (d := d + 3) q80 (false, tb80) rfl rfl rfl (t80_E l0 l1 l3 M lenR h)
-- TwoLeash.measuredCells(IIII)LTwoLeash$Cells;
abbrev q77 : MQ7 := (5, 1, 6, 9, 0, 0, 3)
abbrev R77 (sl : Nat) (sx : Nat → Int32) (d : Nat) (M0 : MM) (P : Option Nat → MM → Prop) : Nat → LL → List VV → MM → Prop := RN 9 false (mS M0).length (mT M0) 0 0 sl sx (callX TBg sl sx (d + 4)) (rtW q77 M0 (PR P)) (as2 tb77)
def w77 (l0 : Nat) (l1 : Int32) (l2 : Int32) (l3 : Int32) (l4 : Int32) (M : MM) (P : Option Nat → MM → Prop) : Prop := kd M l0 9 ∧ (∃ a1, mR M l0 15 = some a1 ∧ (kd M a1 5 ∧ (kd M l0 9 ∧ (∃ a2, mR M l0 5 = some a2 ∧ (inb M a2 16 l1 ∧ (kd M l0 9 ∧ (∃ a3, mR M l0 5 = some a3 ∧ (inb M a3 16 l2 ∧ (∃ a4, mR M a1 0 = some a4 ∧ (kd M a4 1 ∧ w78 a4 (mR M a2 l1.toNatClampNeg) (mR M a3 l2.toNatClampNeg) M (fun M5 => kd M5 a4 1 ∧ w80 a4 l3.toInt64 l4.toInt64 M5 (fun M6 => P (some a4) M6))))))))))))
theorem t77_E {sl : Nat} {sx : Nat → Int32} {d : Nat} {M0 : MM} {P : Option Nat → MM → Prop} (l0 : Nat) (l1 : Int32) (l2 : Int32) (l3 : Int32) (l4 : Int32) (M : MM) (hM : lenO M0 M) (h : w77  l0 l1 l2 l3 l4 M P) : R77 sl sx d M0 P 0 [some (vR (some l0)), some (vI l1), some (vI l2), some (vI l3), some (vI l4), none] [] M := by
  refine RN_k (callX_det _) 2 _ _ _ _ (show kd M l0 9 ∧ R77 sl sx d M0 P 4 [some (vR (some l0)), some (vI l1), some (vI l2), some (vI l3), some (vI l4), none] [vR (mR M l0 15)] M from ⟨h.1, ?_⟩)
  replace h := h.2
  obtain ⟨a1, he, h⟩ := h
  rw [he]
  refine RN_k (callX_det _) 1 _ _ _ _ (show kd M a1 5 ∧ R77 sl sx d M0 P 7 [some (vR (some l0)), some (vI l1), some (vI l2), some (vI l3), some (vI l4), none] [vR (mR M a1 0)] M from ⟨h.1, ?_⟩)
  replace h := h.2
  refine RN_k (callX_det _) 4 _ _ _ _ (show kd M l0 9 ∧ R77 sl sx d M0 P 15 [some (vR (some l0)), some (vI l1), some (vI l2), some (vI l3), some (vI l4), some (vR (mR M a1 0))] [vR (mR M l0 5), vR (mR M a1 0)] M from ⟨h.1, ?_⟩)
  replace h := h.2
  obtain ⟨a2, he, h⟩ := h
  refine RN_k (callX_det _) 1 _ _ _ _ (show R77 sl sx d M0 P 16 [some (vR (some l0)), some (vI l1), some (vI l2), some (vI l3), some (vI l4), some (vR (mR M a1 0))] [vI l1, vR (mR M l0 5), vR (mR M a1 0)] M from ?_)
  rw [he]
  refine RN_k (callX_det _) 1 _ _ _ _ (show inb M a2 16 l1 ∧ R77 sl sx d M0 P 17 [some (vR (some l0)), some (vI l1), some (vI l2), some (vI l3), some (vI l4), some (vR (mR M a1 0))] [vR (mR M a2 l1.toNatClampNeg), vR (mR M a1 0)] M from ⟨h.1, ?_⟩)
  replace h := h.2
  refine RN_k (callX_det _) 2 _ _ _ _ (show kd M l0 9 ∧ R77 sl sx d M0 P 21 [some (vR (some l0)), some (vI l1), some (vI l2), some (vI l3), some (vI l4), some (vR (mR M a1 0))] [vR (mR M l0 5), vR (mR M a2 l1.toNatClampNeg), vR (mR M a1 0)] M from ⟨h.1, ?_⟩)
  replace h := h.2
  obtain ⟨a3, he, h⟩ := h
  refine RN_k (callX_det _) 1 _ _ _ _ (show R77 sl sx d M0 P 22 [some (vR (some l0)), some (vI l1), some (vI l2), some (vI l3), some (vI l4), some (vR (mR M a1 0))] [vI l2, vR (mR M l0 5), vR (mR M a2 l1.toNatClampNeg), vR (mR M a1 0)] M from ?_)
  rw [he]
  refine RN_k (callX_det _) 1 _ _ _ _ (show inb M a3 16 l2 ∧ R77 sl sx d M0 P 23 [some (vR (some l0)), some (vI l1), some (vI l2), some (vI l3), some (vI l4), some (vR (mR M a1 0))] [vR (mR M a3 l2.toNatClampNeg), vR (mR M a2 l1.toNatClampNeg), vR (mR M a1 0)] M from ⟨h.1, ?_⟩)
  replace h := h.2
  obtain ⟨a4, he, h⟩ := h
  rw [he]
  refine RN_k (callX_det _) 1 _ _ _ _ (show kd M a4 1 ∧ callX TBg sl sx (d + 4) 78 [vR (some a4), vR (mR M a2 l1.toNatClampNeg), vR (mR M a3 l2.toNatClampNeg)] M (fun v M9 => R77 sl sx d M0 P 26 [some (vR (some l0)), some (vI l1), some (vI l2), some (vI l3), some (vI l4), some (vR (some a4))] (pushO v []) M9) from ⟨h.1, ?_⟩)
  replace h := h.2
  refine callX_mono (callX_len (d := (d + 4)) rfl rfl rfl (c78 (d := d + 2) h)) ?_
  clear h
  rintro v9 M5 ⟨hl, rfl, h⟩
  replace hM := lenT hM hl
  show R77 sl sx d M0 P 26 [some (vR (some l0)), some (vI l1), some (vI l2), some (vI l3), some (vI l4), some (vR (some a4))] [] M5
  refine RN_k (callX_det _) 6 _ _ _ _ (show kd M5 a4 1 ∧ callX TBg sl sx (d + 4) 80 [vR (some a4), vL l3.toInt64, vL l4.toInt64] M5 (fun v M9 => R77 sl sx d M0 P 36 [some (vR (some l0)), some (vI l1), some (vI l2), some (vI l3), some (vI l4), some (vR (some a4))] (pushO v []) M9) from ⟨h.1, ?_⟩)
  replace h := h.2
  refine callX_mono (callX_len (d := (d + 4)) rfl rfl rfl (c80 (d := d) h)) ?_
  clear h
  rintro v9 M6 ⟨hl, rfl, h⟩
  replace hM := lenT hM hl
  show R77 sl sx d M0 P 36 [some (vR (some l0)), some (vI l1), some (vI l2), some (vI l3), some (vI l4), some (vR (some a4))] [] M6
  exact RN_k (callX_det _) 2 _ _ _ _ (show rtW q77 M0 (PR P) (some (vR (some a4))) M6 from ⟨⟨_, rfl⟩, hM.1, hM.2, _, rfl, h⟩)
theorem c77 {sl : Nat} {sx : Nat → Int32} {d : Nat} {l0 : Nat} {l1 : Int32} {l2 : Int32} {l3 : Int32} {l4 : Int32} {M : MM} {P : Option Nat → MM → Prop} (h : w77 l0 l1 l2 l3 l4 M P) : callX TBg sl sx (d + 5) 77 [vR (some l0), vI l1, vI l2, vI l3, vI l4] M (PR P) :=
  cX (d := d + 4) q77 (false, tb77) rfl rfl rfl (t77_E l0 l1 l2 l3 l4 M lenR h)
-- TwoLeash.measuredSide(IIZIIII)LTwoLeash$Side;
abbrev q76 : MQ7 := (8, 1, 9, 9, 0, 0, 3)
abbrev R76 (sl : Nat) (sx : Nat → Int32) (d : Nat) (M0 : MM) (P : Option Nat → MM → Prop) : Nat → LL → List VV → MM → Prop := RN 9 false (mS M0).length (mT M0) 0 0 sl sx (callX TBg sl sx (d + 5)) (rtW q76 M0 (PR P)) (as2 tb76)
def w76_37 (s0 : Option Nat) (M : MM) (P : Option Nat → MM → Prop) : Prop := P s0 M
theorem t76_37 {sl : Nat} {sx : Nat → Int32} {d : Nat} {M0 : MM} {P : Option Nat → MM → Prop} (s0 : Option Nat) (M : MM) (hM : lenO M0 M) (h : w76_37  s0 M P) : R76 sl sx d M0 P 37 [none, none, none, none, none, none, none, none, none] [vR s0] M := by
  exact RN_k (callX_det _) 1 _ _ _ _ (show rtW q76 M0 (PR P) (some (vR s0)) M from ⟨⟨_, rfl⟩, hM.1, hM.2, _, rfl, h⟩)
def w76 (l0 : Nat) (l1 : Int32) (l2 : Int32) (l3 : Int32) (l4 : Int32) (l5 : Int32) (l6 : Int32) (l7 : Int32) (M : MM) (P : Option Nat → MM → Prop) : Prop := kd M l0 9 ∧ w77 l0 l1 l2 l6 l7 M (fun r2 M1 => (l3 = 0 → (∃ a3, r2 = some a3 ∧ (kd M1 a3 1 ∧ w82 a3 l4 l5 M1 (fun r5 M4 => w76_37  r5 M4 P)))) ∧ (¬ (l3 = 0) → (∃ a6, r2 = some a6 ∧ (kd M1 a6 1 ∧ w83 a6 l4 l5 M1 (fun r8 M7 => w76_37  r8 M7 P)))))
theorem t76_E {sl : Nat} {sx : Nat → Int32} {d : Nat} {M0 : MM} {P : Option Nat → MM → Prop} (l0 : Nat) (l1 : Int32) (l2 : Int32) (l3 : Int32) (l4 : Int32) (l5 : Int32) (l6 : Int32) (l7 : Int32) (M : MM) (hM : lenO M0 M) (h : w76  l0 l1 l2 l3 l4 l5 l6 l7 M P) : R76 sl sx d M0 P 0 [some (vR (some l0)), some (vI l1), some (vI l2), some (vI l3), some (vI l4), some (vI l5), some (vI l6), some (vI l7), none] [] M := by
  refine RN_k (callX_det _) 6 _ _ _ _ (show kd M l0 9 ∧ callX TBg sl sx (d + 5) 77 [vR (some l0), vI l1, vI l2, vI l6, vI l7] M (fun v M9 => R76 sl sx d M0 P 10 [some (vR (some l0)), some (vI l1), some (vI l2), some (vI l3), some (vI l4), some (vI l5), some (vI l6), some (vI l7), none] (pushO v []) M9) from ⟨h.1, ?_⟩)
  replace h := h.2
  refine callX_mono (callX_len (d := (d + 5)) rfl rfl rfl (c77 (d := d) h)) ?_
  clear h
  rintro v9 M1 ⟨hl, r2, rfl, h⟩
  replace hM := lenT hM hl
  show R76 sl sx d M0 P 10 [some (vR (some l0)), some (vI l1), some (vI l2), some (vI l3), some (vI l4), some (vI l5), some (vI l6), some (vI l7), none] [vR r2] M1
  refine RN_k (callX_det _) 3 _ _ _ _ (show (l3 = 0 → R76 sl sx d M0 P 28 [some (vR (some l0)), some (vI l1), some (vI l2), some (vI l3), some (vI l4), some (vI l5), some (vI l6), some (vI l7), some (vR r2)] [] M1) ∧ (¬ (l3 = 0) → R76 sl sx d M0 P 16 [some (vR (some l0)), some (vI l1), some (vI l2), some (vI l3), some (vI l4), some (vI l5), some (vI l6), some (vI l7), some (vR r2)] [] M1) from ⟨fun hc => ?_, fun hc => ?_⟩)
  · replace h := h.1 hc
    obtain ⟨a3, he, h⟩ := h
    refine RN_k (callX_det _) 3 _ _ _ _ (show R76 sl sx d M0 P 34 [some (vR (some l0)), some (vI l1), some (vI l2), some (vI l3), some (vI l4), some (vI l5), some (vI l6), some (vI l7), some (vR r2)] [vI l5, vI l4, vR r2] M1 from ?_)
    subst he
    refine RN_k (callX_det _) 1 _ _ _ _ (show kd M1 a3 1 ∧ callX TBg sl sx (d + 5) 82 [vR (some a3), vI l4, vI l5] M1 (fun v M9 => R76 sl sx d M0 P 37 [some (vR (some l0)), some (vI l1), some (vI l2), some (vI l3), some (vI l4), some (vI l5), some (vI l6), some (vI l7), some (vR (some a3))] (pushO v []) M9) from ⟨h.1, ?_⟩)
    replace h := h.2
    refine callX_mono (callX_len (d := (d + 5)) rfl rfl rfl (c82 (d := d + 4) h)) ?_
    clear h
    rintro v9 M4 ⟨hl, r5, rfl, h⟩
    replace hM := lenT hM hl
    show R76 sl sx d M0 P 37 [some (vR (some l0)), some (vI l1), some (vI l2), some (vI l3), some (vI l4), some (vI l5), some (vI l6), some (vI l7), some (vR (some a3))] [vR r5] M4
    exact RN_weak (K := [none, none, none, none, none, none, none, none, none]) (callX_det _) (show True from trivial) (t76_37  r5 _ hM h)
  · replace h := h.2 hc
    obtain ⟨a6, he, h⟩ := h
    refine RN_k (callX_det _) 3 _ _ _ _ (show R76 sl sx d M0 P 22 [some (vR (some l0)), some (vI l1), some (vI l2), some (vI l3), some (vI l4), some (vI l5), some (vI l6), some (vI l7), some (vR r2)] [vI l5, vI l4, vR r2] M1 from ?_)
    subst he
    refine RN_k (callX_det _) 1 _ _ _ _ (show kd M1 a6 1 ∧ callX TBg sl sx (d + 5) 83 [vR (some a6), vI l4, vI l5] M1 (fun v M9 => R76 sl sx d M0 P 25 [some (vR (some l0)), some (vI l1), some (vI l2), some (vI l3), some (vI l4), some (vI l5), some (vI l6), some (vI l7), some (vR (some a6))] (pushO v []) M9) from ⟨h.1, ?_⟩)
    replace h := h.2
    refine callX_mono (callX_len (d := (d + 5)) rfl rfl rfl (c83 (d := d + 4) h)) ?_
    clear h
    rintro v9 M7 ⟨hl, r8, rfl, h⟩
    replace hM := lenT hM hl
    show R76 sl sx d M0 P 25 [some (vR (some l0)), some (vI l1), some (vI l2), some (vI l3), some (vI l4), some (vI l5), some (vI l6), some (vI l7), some (vR (some a6))] [vR r8] M7
    refine RN_k (callX_det _) 1 _ _ _ _ (show R76 sl sx d M0 P 37 [some (vR (some l0)), some (vI l1), some (vI l2), some (vI l3), some (vI l4), some (vI l5), some (vI l6), some (vI l7), some (vR (some a6))] [vR r8] M7 from ?_)
    exact RN_weak (K := [none, none, none, none, none, none, none, none, none]) (callX_det _) (show True from trivial) (t76_37  r8 _ hM h)
theorem c76 {sl : Nat} {sx : Nat → Int32} {d : Nat} {l0 : Nat} {l1 : Int32} {l2 : Int32} {l3 : Int32} {l4 : Int32} {l5 : Int32} {l6 : Int32} {l7 : Int32} {M : MM} {P : Option Nat → MM → Prop} (h : w76 l0 l1 l2 l3 l4 l5 l6 l7 M P) : callX TBg sl sx (d + 6) 76 [vR (some l0), vI l1, vI l2, vI l3, vI l4, vI l5, vI l6, vI l7] M (PR P) :=
  cX (d := d + 5) q76 (false, tb76) rfl rfl rfl (t76_E l0 l1 l2 l3 l4 l5 l6 l7 M lenR h)
-- TwoLeash$Side.inThousandths(I)I
abbrev q88 : MQ7 := (2, 1, 8, 7, 0, 0, 1)
abbrev R88 (sl : Nat) (sx : Nat → Int32) (d : Nat) (M0 : MM) (P : Int32 → MM → Prop) : Nat → LL → List VV → MM → Prop := RN 7 false (mS M0).length (mT M0) 0 0 sl sx (callX TBg sl sx (d + 1)) (rtW q88 M0 (PI P)) (as2 tb88)
def w88_94 (l2 : Int32) (M : MM) (P : Int32 → MM → Prop) : Prop := P l2 M
theorem t88_94 {sl : Nat} {sx : Nat → Int32} {d : Nat} {M0 : MM} {P : Int32 → MM → Prop} (l2 : Int32) (M : MM) (hM : lenO M0 M) (h : w88_94  l2 M P) : R88 sl sx d M0 P 94 [none, none, some (vI l2), none, none, none, none, none] [] M := by
  exact RN_k (callX_det _) 2 _ _ _ _ (show rtW q88 M0 (PI P) (some (vI l2)) M from ⟨⟨_, rfl⟩, hM.1, hM.2, _, rfl, h⟩)
def w88_88 (k9 : Nat → Int32 → Int32 → Int32 → Int32 → MM → Prop) (l0 : Nat) (l1 : Int32) (l2 : Int32) (l3 : Int32) (l4 : Int32) (M : MM) (P : Int32 → MM → Prop) : Prop := k9 l0 l1 l2 l3 (l4 + (1 : Int32)) M
theorem t88_88 {sl : Nat} {sx : Nat → Int32} {d : Nat} {M0 : MM} {P : Int32 → MM → Prop} {k9 : Nat → Int32 → Int32 → Int32 → Int32 → MM → Prop} (hk9 : ∀ (l0 : Nat) (l1 : Int32) (l2 : Int32) (l3 : Int32) (l4 : Int32) (M : MM), lenO M0 M → k9 l0 l1 l2 l3 l4 M → R88 sl sx d M0 P 9 [some (vR (some l0)), some (vI l1), some (vI l2), some (vI l3), some (vI l4), none, none, none] [] M) (l0 : Nat) (l1 : Int32) (l2 : Int32) (l3 : Int32) (l4 : Int32) (M : MM) (hM : lenO M0 M) (h : w88_88 k9 l0 l1 l2 l3 l4 M P) : R88 sl sx d M0 P 88 [some (vR (some l0)), some (vI l1), some (vI l2), some (vI l3), some (vI l4), none, none, none] [] M := by
  refine RN_k (callX_det _) 2 _ _ _ _ (show R88 sl sx d M0 P 9 [some (vR (some l0)), some (vI l1), some (vI l2), some (vI l3), some (vI (l4 + (1 : Int32))), none, none, none] [] M from ?_)
  exact RN_weak (K := [some (vR (some l0)), some (vI l1), some (vI l2), some (vI l3), some (vI (l4 + (1 : Int32))), none, none, none]) (callX_det _) (show _ ∧ _ ∧ _ ∧ _ ∧ _ ∧ True from ⟨rfl, rfl, rfl, rfl, rfl, trivial⟩) (hk9 l0 l1 l2 l3 (l4 + (1 : Int32)) _ hM h)
def w88_9 : Nat → Nat → Int32 → Int32 → Int32 → Int32 → MM → (Int32 → MM → Prop) → Prop
  | 0 => fun _ _ _ _ _ _ _ => False
  | n + 1 => fun l0 l1 l2 l3 l4 M P => ((10 : Int32) ≤ l4 → (w88_94  l2 M P)) ∧ (¬ ((10 : Int32) ≤ l4) → ((l3 ≤ l2 → (w88_94  l2 M P)) ∧ (¬ (l3 ≤ l2) → (¬ (2 : Int32) = 0 ∧ (kd M l0 7 ∧ (kd M l0 7 ∧ (kd M l0 7 ∧ (kd M l0 7 ∧ (kd M l0 7 ∧ (w86 ((((1000 : Int64) * (mL M l0 1)) - (((((l2 + l3) + (1 : Int32)) / (2 : Int32)).toInt64) * (mL M l0 0))) * (mL M l0 5)) (((1000 : Int32) * l1).toInt64) ((mL M l0 6) * (mL M l0 5)) M (fun r2 M1 => (r2 < 0 → (w88_88 (fun z0 z1 z2 z3 z4 z5 => w88_9  n z0 z1 z2 z3 z4 z5 P) l0 l1 l2 ((((l2 + l3) + (1 : Int32)) / (2 : Int32)) - (1 : Int32)) l4 M1 P)) ∧ (¬ (r2 < 0) → (w88_88 (fun z0 z1 z2 z3 z4 z5 => w88_9  n z0 z1 z2 z3 z4 z5 P) l0 l1 (((l2 + l3) + (1 : Int32)) / (2 : Int32)) l3 l4 M1 P)))))))))))))
theorem t88_9 {sl : Nat} {sx : Nat → Int32} {d : Nat} {M0 : MM} {P : Int32 → MM → Prop} (n : Nat) : ∀ (l0 : Nat) (l1 : Int32) (l2 : Int32) (l3 : Int32) (l4 : Int32) (M : MM) (_ : lenO M0 M) (_ : w88_9  n l0 l1 l2 l3 l4 M P), R88 sl sx d M0 P 9 [some (vR (some l0)), some (vI l1), some (vI l2), some (vI l3), some (vI l4), none, none, none] [] M := by
  induction n with
  | zero => intro l0 l1 l2 l3 l4 M hM h; cases h
  | succ n ih =>
    intro l0 l1 l2 l3 l4 M hM h
    refine RN_k (callX_det _) 3 _ _ _ _ (show ((10 : Int32) ≤ l4 → R88 sl sx d M0 P 94 [some (vR (some l0)), some (vI l1), some (vI l2), some (vI l3), some (vI l4), none, none, none] [] M) ∧ (¬ ((10 : Int32) ≤ l4) → R88 sl sx d M0 P 16 [some (vR (some l0)), some (vI l1), some (vI l2), some (vI l3), some (vI l4), none, none, none] [] M) from ⟨fun hc => ?_, fun hc => ?_⟩)
    · replace h := h.1 hc
      exact RN_weak (K := [none, none, some (vI l2), none, none, none, none, none]) (callX_det _) (show _ ∧ True from ⟨rfl, trivial⟩) (t88_94  l2 _ hM h)
    · replace h := h.2 hc
      refine RN_k (callX_det _) 3 _ _ _ _ (show (l3 ≤ l2 → R88 sl sx d M0 P 94 [some (vR (some l0)), some (vI l1), some (vI l2), some (vI l3), some (vI l4), none, none, none] [] M) ∧ (¬ (l3 ≤ l2) → R88 sl sx d M0 P 21 [some (vR (some l0)), some (vI l1), some (vI l2), some (vI l3), some (vI l4), none, none, none] [] M) from ⟨fun hc => ?_, fun hc => ?_⟩)
      · replace h := h.1 hc
        exact RN_weak (K := [none, none, some (vI l2), none, none, none, none, none]) (callX_det _) (show _ ∧ True from ⟨rfl, trivial⟩) (t88_94  l2 _ hM h)
      · replace h := h.2 hc
        refine RN_k (callX_det _) 7 _ _ _ _ (show ¬ (2 : Int32) = 0 ∧ R88 sl sx d M0 P 28 [some (vR (some l0)), some (vI l1), some (vI l2), some (vI l3), some (vI l4), none, none, none] [vI (((l2 + l3) + (1 : Int32)) / (2 : Int32))] M from ⟨h.1, ?_⟩)
        replace h := h.2
        refine RN_k (callX_det _) 4 _ _ _ _ (show kd M l0 7 ∧ R88 sl sx d M0 P 37 [some (vR (some l0)), some (vI l1), some (vI l2), some (vI l3), some (vI l4), some (vI (((l2 + l3) + (1 : Int32)) / (2 : Int32))), none, none] [vL (mL M l0 1), vL (1000 : Int64)] M from ⟨h.1, ?_⟩)
        replace h := h.2
        refine RN_k (callX_det _) 5 _ _ _ _ (show kd M l0 7 ∧ R88 sl sx d M0 P 45 [some (vR (some l0)), some (vI l1), some (vI l2), some (vI l3), some (vI l4), some (vI (((l2 + l3) + (1 : Int32)) / (2 : Int32))), none, none] [vL (mL M l0 0), vL ((((l2 + l3) + (1 : Int32)) / (2 : Int32)).toInt64), vL ((1000 : Int64) * (mL M l0 1))] M from ⟨h.1, ?_⟩)
        replace h := h.2
        refine RN_k (callX_det _) 6 _ _ _ _ (show kd M l0 7 ∧ R88 sl sx d M0 P 55 [some (vR (some l0)), some (vI l1), some (vI l2), some (vI l3), some (vI l4), some (vI (((l2 + l3) + (1 : Int32)) / (2 : Int32))), some (vL (((1000 : Int64) * (mL M l0 1)) - (((((l2 + l3) + (1 : Int32)) / (2 : Int32)).toInt64) * (mL M l0 0)))), none] [vL (mL M l0 5), vL (((1000 : Int64) * (mL M l0 1)) - (((((l2 + l3) + (1 : Int32)) / (2 : Int32)).toInt64) * (mL M l0 0)))] M from ⟨h.1, ?_⟩)
        replace h := h.2
        refine RN_k (callX_det _) 7 _ _ _ _ (show kd M l0 7 ∧ R88 sl sx d M0 P 66 [some (vR (some l0)), some (vI l1), some (vI l2), some (vI l3), some (vI l4), some (vI (((l2 + l3) + (1 : Int32)) / (2 : Int32))), some (vL (((1000 : Int64) * (mL M l0 1)) - (((((l2 + l3) + (1 : Int32)) / (2 : Int32)).toInt64) * (mL M l0 0)))), none] [vL (mL M l0 6), vL (((1000 : Int32) * l1).toInt64), vL ((((1000 : Int64) * (mL M l0 1)) - (((((l2 + l3) + (1 : Int32)) / (2 : Int32)).toInt64) * (mL M l0 0))) * (mL M l0 5))] M from ⟨h.1, ?_⟩)
        replace h := h.2
        refine RN_k (callX_det _) 2 _ _ _ _ (show kd M l0 7 ∧ R88 sl sx d M0 P 70 [some (vR (some l0)), some (vI l1), some (vI l2), some (vI l3), some (vI l4), some (vI (((l2 + l3) + (1 : Int32)) / (2 : Int32))), some (vL (((1000 : Int64) * (mL M l0 1)) - (((((l2 + l3) + (1 : Int32)) / (2 : Int32)).toInt64) * (mL M l0 0)))), none] [vL (mL M l0 5), vL (mL M l0 6), vL (((1000 : Int32) * l1).toInt64), vL ((((1000 : Int64) * (mL M l0 1)) - (((((l2 + l3) + (1 : Int32)) / (2 : Int32)).toInt64) * (mL M l0 0))) * (mL M l0 5))] M from ⟨h.1, ?_⟩)
        replace h := h.2
        refine RN_k (callX_det _) 2 _ _ _ _ (show callX TBg sl sx (d + 1) 86 [vL ((((1000 : Int64) * (mL M l0 1)) - (((((l2 + l3) + (1 : Int32)) / (2 : Int32)).toInt64) * (mL M l0 0))) * (mL M l0 5)), vL (((1000 : Int32) * l1).toInt64), vL ((mL M l0 6) * (mL M l0 5))] M (fun v M9 => R88 sl sx d M0 P 74 [some (vR (some l0)), some (vI l1), some (vI l2), some (vI l3), some (vI l4), some (vI (((l2 + l3) + (1 : Int32)) / (2 : Int32))), some (vL (((1000 : Int64) * (mL M l0 1)) - (((((l2 + l3) + (1 : Int32)) / (2 : Int32)).toInt64) * (mL M l0 0)))), none] (pushO v []) M9) from ?_)
        refine callX_mono (callX_len (d := (d + 1)) rfl rfl rfl (c86 (d := d) h)) ?_
        clear h
        rintro v9 M1 ⟨hl, r2, rfl, h⟩
        replace hM := lenT hM hl
        show R88 sl sx d M0 P 74 [some (vR (some l0)), some (vI l1), some (vI l2), some (vI l3), some (vI l4), some (vI (((l2 + l3) + (1 : Int32)) / (2 : Int32))), some (vL (((1000 : Int64) * (mL M l0 1)) - (((((l2 + l3) + (1 : Int32)) / (2 : Int32)).toInt64) * (mL M l0 0)))), none] [vI r2] M1
        refine RN_k (callX_det _) 1 _ _ _ _ (show (r2 < 0 → R88 sl sx d M0 P 83 [some (vR (some l0)), some (vI l1), some (vI l2), some (vI l3), some (vI l4), some (vI (((l2 + l3) + (1 : Int32)) / (2 : Int32))), some (vL (((1000 : Int64) * (mL M l0 1)) - (((((l2 + l3) + (1 : Int32)) / (2 : Int32)).toInt64) * (mL M l0 0)))), none] [] M1) ∧ (¬ (r2 < 0) → R88 sl sx d M0 P 77 [some (vR (some l0)), some (vI l1), some (vI l2), some (vI l3), some (vI l4), some (vI (((l2 + l3) + (1 : Int32)) / (2 : Int32))), some (vL (((1000 : Int64) * (mL M l0 1)) - (((((l2 + l3) + (1 : Int32)) / (2 : Int32)).toInt64) * (mL M l0 0)))), none] [] M1) from ⟨fun hc => ?_, fun hc => ?_⟩)
        · replace h := h.1 hc
          refine RN_k (callX_det _) 4 _ _ _ _ (show R88 sl sx d M0 P 88 [some (vR (some l0)), some (vI l1), some (vI l2), some (vI ((((l2 + l3) + (1 : Int32)) / (2 : Int32)) - (1 : Int32))), some (vI l4), some (vI (((l2 + l3) + (1 : Int32)) / (2 : Int32))), some (vL (((1000 : Int64) * (mL M l0 1)) - (((((l2 + l3) + (1 : Int32)) / (2 : Int32)).toInt64) * (mL M l0 0)))), none] [] M1 from ?_)
          exact RN_weak (K := [some (vR (some l0)), some (vI l1), some (vI l2), some (vI ((((l2 + l3) + (1 : Int32)) / (2 : Int32)) - (1 : Int32))), some (vI l4), none, none, none]) (callX_det _) (show _ ∧ _ ∧ _ ∧ _ ∧ _ ∧ True from ⟨rfl, rfl, rfl, rfl, rfl, trivial⟩) (t88_88 ih l0 l1 l2 ((((l2 + l3) + (1 : Int32)) / (2 : Int32)) - (1 : Int32)) l4 _ hM h)
        · replace h := h.2 hc
          refine RN_k (callX_det _) 3 _ _ _ _ (show R88 sl sx d M0 P 88 [some (vR (some l0)), some (vI l1), some (vI (((l2 + l3) + (1 : Int32)) / (2 : Int32))), some (vI l3), some (vI l4), some (vI (((l2 + l3) + (1 : Int32)) / (2 : Int32))), some (vL (((1000 : Int64) * (mL M l0 1)) - (((((l2 + l3) + (1 : Int32)) / (2 : Int32)).toInt64) * (mL M l0 0)))), none] [] M1 from ?_)
          exact RN_weak (K := [some (vR (some l0)), some (vI l1), some (vI (((l2 + l3) + (1 : Int32)) / (2 : Int32))), some (vI l3), some (vI l4), none, none, none]) (callX_det _) (show _ ∧ _ ∧ _ ∧ _ ∧ _ ∧ True from ⟨rfl, rfl, rfl, rfl, rfl, trivial⟩) (t88_88 ih l0 l1 (((l2 + l3) + (1 : Int32)) / (2 : Int32)) l3 l4 _ hM h)
def w88 (l0 : Nat) (l1 : Int32) (M : MM) (P : Int32 → MM → Prop) : Prop := ∃ n2, w88_9  n2 l0 l1 (0 : Int32) (1000 : Int32) (0 : Int32) M P
theorem t88_E {sl : Nat} {sx : Nat → Int32} {d : Nat} {M0 : MM} {P : Int32 → MM → Prop} (l0 : Nat) (l1 : Int32) (M : MM) (hM : lenO M0 M) (h : w88  l0 l1 M P) : R88 sl sx d M0 P 0 [some (vR (some l0)), some (vI l1), none, none, none, none, none, none] [] M := by
  refine RN_k (callX_det _) 6 _ _ _ _ (show R88 sl sx d M0 P 9 [some (vR (some l0)), some (vI l1), some (vI (0 : Int32)), some (vI (1000 : Int32)), some (vI (0 : Int32)), none, none, none] [] M from ?_)
  obtain ⟨n2, h⟩ := h
  exact RN_weak (K := [some (vR (some l0)), some (vI l1), some (vI (0 : Int32)), some (vI (1000 : Int32)), some (vI (0 : Int32)), none, none, none]) (callX_det _) (show _ ∧ _ ∧ _ ∧ _ ∧ _ ∧ True from ⟨rfl, rfl, rfl, rfl, rfl, trivial⟩) (t88_9  n2 l0 l1 (0 : Int32) (1000 : Int32) (0 : Int32) _ hM h)
theorem c88 {sl : Nat} {sx : Nat → Int32} {d : Nat} {l0 : Nat} {l1 : Int32} {M : MM} {P : Int32 → MM → Prop} (h : w88 l0 l1 M P) : callX TBg sl sx (d + 2) 88 [vR (some l0), vI l1] M (PI P) :=
  cX (d := d + 1) q88 (false, tb88) rfl rfl rfl (t88_E l0 l1 M lenR h)
-- TwoLeash$Side.firstInThousandths()I
abbrev q87 : MQ7 := (1, 1, 1, 7, 0, 0, 1)
abbrev R87 (sl : Nat) (sx : Nat → Int32) (d : Nat) (M0 : MM) (P : Int32 → MM → Prop) : Nat → LL → List VV → MM → Prop := RN 7 false (mS M0).length (mT M0) 0 0 sl sx (callX TBg sl sx (d + 2)) (rtW q87 M0 (PI P)) (as2 tb87)
def w87_16 (s0 : Int32) (M : MM) (P : Int32 → MM → Prop) : Prop := P s0 M
theorem t87_16 {sl : Nat} {sx : Nat → Int32} {d : Nat} {M0 : MM} {P : Int32 → MM → Prop} (s0 : Int32) (M : MM) (hM : lenO M0 M) (h : w87_16  s0 M P) : R87 sl sx d M0 P 16 [none] [vI s0] M := by
  exact RN_k (callX_det _) 1 _ _ _ _ (show rtW q87 M0 (PI P) (some (vI s0)) M from ⟨⟨_, rfl⟩, hM.1, hM.2, _, rfl, h⟩)
def w87 (l0 : Nat) (M : MM) (P : Int32 → MM → Prop) : Prop := kd M l0 7 ∧ (((mI M l0 7) = 0 → (kd M l0 7 ∧ w88 l0 (-1 : Int32) M (fun r2 M1 => w87_16  r2 M1 P))) ∧ (¬ ((mI M l0 7) = 0) → (w87_16  (0 : Int32) M P)))
theorem t87_E {sl : Nat} {sx : Nat → Int32} {d : Nat} {M0 : MM} {P : Int32 → MM → Prop} (l0 : Nat) (M : MM) (hM : lenO M0 M) (h : w87  l0 M P) : R87 sl sx d M0 P 0 [some (vR (some l0))] [] M := by
  refine RN_k (callX_det _) 2 _ _ _ _ (show kd M l0 7 ∧ R87 sl sx d M0 P 4 [some (vR (some l0))] [vI (mI M l0 7)] M from ⟨h.1, ?_⟩)
  replace h := h.2
  refine RN_k (callX_det _) 1 _ _ _ _ (show ((mI M l0 7) = 0 → R87 sl sx d M0 P 11 [some (vR (some l0))] [] M) ∧ (¬ ((mI M l0 7) = 0) → R87 sl sx d M0 P 7 [some (vR (some l0))] [] M) from ⟨fun hc => ?_, fun hc => ?_⟩)
  · replace h := h.1 hc
    refine RN_k (callX_det _) 3 _ _ _ _ (show kd M l0 7 ∧ callX TBg sl sx (d + 2) 88 [vR (some l0), vI (-1 : Int32)] M (fun v M9 => R87 sl sx d M0 P 16 [some (vR (some l0))] (pushO v []) M9) from ⟨h.1, ?_⟩)
    replace h := h.2
    refine callX_mono (callX_len (d := (d + 2)) rfl rfl rfl (c88 (d := d) h)) ?_
    clear h
    rintro v9 M1 ⟨hl, r2, rfl, h⟩
    replace hM := lenT hM hl
    show R87 sl sx d M0 P 16 [some (vR (some l0))] [vI r2] M1
    exact RN_weak (K := [none]) (callX_det _) (show True from trivial) (t87_16  r2 _ hM h)
  · replace h := h.2 hc
    refine RN_k (callX_det _) 2 _ _ _ _ (show R87 sl sx d M0 P 16 [some (vR (some l0))] [vI (0 : Int32)] M from ?_)
    exact RN_weak (K := [none]) (callX_det _) (show True from trivial) (t87_16  (0 : Int32) _ hM h)
theorem c87 {sl : Nat} {sx : Nat → Int32} {d : Nat} {l0 : Nat} {M : MM} {P : Int32 → MM → Prop} (h : w87 l0 M P) : callX TBg sl sx (d + 3) 87 [vR (some l0)] M (PI P) :=
  cX (d := d + 2) q87 (false, tb87) rfl rfl rfl (t87_E l0 M lenR h)
-- TwoLeash$Side.lastInThousandths()I
abbrev q89 : MQ7 := (1, 1, 1, 7, 0, 0, 1)
abbrev R89 (sl : Nat) (sx : Nat → Int32) (d : Nat) (M0 : MM) (P : Int32 → MM → Prop) : Nat → LL → List VV → MM → Prop := RN 7 false (mS M0).length (mT M0) 0 0 sl sx (callX TBg sl sx (d + 2)) (rtW q89 M0 (PI P)) (as2 tb89)
def w89_18 (s0 : Int32) (M : MM) (P : Int32 → MM → Prop) : Prop := P s0 M
theorem t89_18 {sl : Nat} {sx : Nat → Int32} {d : Nat} {M0 : MM} {P : Int32 → MM → Prop} (s0 : Int32) (M : MM) (hM : lenO M0 M) (h : w89_18  s0 M P) : R89 sl sx d M0 P 18 [none] [vI s0] M := by
  exact RN_k (callX_det _) 1 _ _ _ _ (show rtW q89 M0 (PI P) (some (vI s0)) M from ⟨⟨_, rfl⟩, hM.1, hM.2, _, rfl, h⟩)
def w89 (l0 : Nat) (M : MM) (P : Int32 → MM → Prop) : Prop := kd M l0 7 ∧ (((mI M l0 8) = 0 → (kd M l0 7 ∧ w88 l0 (1 : Int32) M (fun r2 M1 => w89_18  r2 M1 P))) ∧ (¬ ((mI M l0 8) = 0) → (w89_18  (1000 : Int32) M P)))
theorem t89_E {sl : Nat} {sx : Nat → Int32} {d : Nat} {M0 : MM} {P : Int32 → MM → Prop} (l0 : Nat) (M : MM) (hM : lenO M0 M) (h : w89  l0 M P) : R89 sl sx d M0 P 0 [some (vR (some l0))] [] M := by
  refine RN_k (callX_det _) 2 _ _ _ _ (show kd M l0 7 ∧ R89 sl sx d M0 P 4 [some (vR (some l0))] [vI (mI M l0 8)] M from ⟨h.1, ?_⟩)
  replace h := h.2
  refine RN_k (callX_det _) 1 _ _ _ _ (show ((mI M l0 8) = 0 → R89 sl sx d M0 P 13 [some (vR (some l0))] [] M) ∧ (¬ ((mI M l0 8) = 0) → R89 sl sx d M0 P 7 [some (vR (some l0))] [] M) from ⟨fun hc => ?_, fun hc => ?_⟩)
  · replace h := h.1 hc
    refine RN_k (callX_det _) 3 _ _ _ _ (show kd M l0 7 ∧ callX TBg sl sx (d + 2) 88 [vR (some l0), vI (1 : Int32)] M (fun v M9 => R89 sl sx d M0 P 18 [some (vR (some l0))] (pushO v []) M9) from ⟨h.1, ?_⟩)
    replace h := h.2
    refine callX_mono (callX_len (d := (d + 2)) rfl rfl rfl (c88 (d := d) h)) ?_
    clear h
    rintro v9 M1 ⟨hl, r2, rfl, h⟩
    replace hM := lenT hM hl
    show R89 sl sx d M0 P 18 [some (vR (some l0))] [vI r2] M1
    exact RN_weak (K := [none]) (callX_det _) (show True from trivial) (t89_18  r2 _ hM h)
  · replace h := h.2 hc
    refine RN_k (callX_det _) 2 _ _ _ _ (show R89 sl sx d M0 P 18 [some (vR (some l0))] [vI (1000 : Int32)] M from ?_)
    exact RN_weak (K := [none]) (callX_det _) (show True from trivial) (t89_18  (1000 : Int32) _ hM h)
theorem c89 {sl : Nat} {sx : Nat → Int32} {d : Nat} {l0 : Nat} {M : MM} {P : Int32 → MM → Prop} (h : w89 l0 M P) : callX TBg sl sx (d + 3) 89 [vR (some l0)] M (PI P) :=
  cX (d := d + 2) q89 (false, tb89) rfl rfl rfl (t89_E l0 M lenR h)
-- TwoLeash.free(IIZIIIII)I
abbrev q73 : MQ7 := (9, 1, 10, 9, 0, 0, 1)
abbrev R73 (sl : Nat) (sx : Nat → Int32) (d : Nat) (M0 : MM) (P : Int32 → MM → Prop) : Nat → LL → List VV → MM → Prop := RN 9 false (mS M0).length (mT M0) 0 0 sl sx (callX TBg sl sx (d + 6)) (rtW q73 M0 (PI P)) (as2 tb73)
def w73_100 (s0 : Option Nat) (s1 : Int32) (M : MM) (P : Int32 → MM → Prop) : Prop := ∃ a1, s0 = some a1 ∧ (kd M a1 9 ∧ w35 a1 s1 M (fun r3 M2 => P r3 M2))
theorem t73_100 {sl : Nat} {sx : Nat → Int32} {d : Nat} {M0 : MM} {P : Int32 → MM → Prop} (s0 : Option Nat) (s1 : Int32) (M : MM) (hM : lenO M0 M) (h : w73_100  s0 s1 M P) : R73 sl sx d M0 P 100 [none, none, none, none, none, none, none, none, none, none] [vI s1, vR s0] M := by
  obtain ⟨a1, he, h⟩ := h
  subst he
  refine RN_k (callX_det _) 1 _ _ _ _ (show kd M a1 9 ∧ callX TBg sl sx (d + 6) 35 [vR (some a1), vI s1] M (fun v M9 => R73 sl sx d M0 P 103 [none, none, none, none, none, none, none, none, none, none] (pushO v []) M9) from ⟨h.1, ?_⟩)
  replace h := h.2
  refine callX_mono (callX_len (d := (d + 6)) rfl rfl rfl (c35 (d := d + 5) h)) ?_
  clear h
  rintro v9 M2 ⟨hl, r3, rfl, h⟩
  replace hM := lenT hM hl
  show R73 sl sx d M0 P 103 [none, none, none, none, none, none, none, none, none, none] [vI r3] M2
  exact RN_k (callX_det _) 1 _ _ _ _ (show rtW q73 M0 (PI P) (some (vI r3)) M2 from ⟨⟨_, rfl⟩, hM.1, hM.2, _, rfl, h⟩)
def w73_28 (l0 : Nat) (l1 : Int32) (l2 : Int32) (l3 : Int32) (l4 : Int32) (l5 : Int32) (l6 : Int32) (l7 : Int32) (l8 : Int32) (s0 : Option Nat) (s1 : Option Nat) (s2 : Int32) (M : MM) (P : Int32 → MM → Prop) : Prop := ∃ a1, s1 = some a1 ∧ (kd M a1 9 ∧ w75 a1 s2 l1 l2 l3 l4 l5 M (fun r3 M2 => ∃ a4, s0 = some a4 ∧ (kd M2 a4 9 ∧ (kd (sI M2 a4 10 r3) l0 9 ∧ (((mI (sI M2 a4 10 r3) l0 10) = 0 → (kd (sI M2 a4 10 r3) l0 9 ∧ w76 l0 l1 l2 l3 l4 l5 l6 l7 (sI M2 a4 10 r3) (fun r6 M5 => ∃ a7, r6 = some a7 ∧ (kd M5 a7 7 ∧ (((mI M5 a7 9) ≠ 0 → ((l8 ≠ 0 → (kd M5 a7 7 ∧ w89 a7 M5 (fun r9 M8 => w73_100  (some l0) r9 M8 P))) ∧ (¬ (l8 ≠ 0) → (kd M5 a7 7 ∧ w87 a7 M5 (fun r11 M10 => w73_100  (some l0) r11 M10 P))))) ∧ (¬ ((mI M5 a7 9) ≠ 0) → (kd M5 l0 9 ∧ w17 l0 (5 : Int32) M5 (fun r13 M12 => P r13 M12)))))))) ∧ (¬ ((mI (sI M2 a4 10 r3) l0 10) = 0) → (P (-1 : Int32) (sI M2 a4 10 r3))))))))
theorem t73_28 {sl : Nat} {sx : Nat → Int32} {d : Nat} {M0 : MM} {P : Int32 → MM → Prop} (l0 : Nat) (l1 : Int32) (l2 : Int32) (l3 : Int32) (l4 : Int32) (l5 : Int32) (l6 : Int32) (l7 : Int32) (l8 : Int32) (s0 : Option Nat) (s1 : Option Nat) (s2 : Int32) (M : MM) (hM : lenO M0 M) (h : w73_28  l0 l1 l2 l3 l4 l5 l6 l7 l8 s0 s1 s2 M P) : R73 sl sx d M0 P 28 [some (vR (some l0)), some (vI l1), some (vI l2), some (vI l3), some (vI l4), some (vI l5), some (vI l6), some (vI l7), some (vI l8), none] [vI s2, vR s1, vR s0] M := by
  obtain ⟨a1, he, h⟩ := h
  refine RN_k (callX_det _) 5 _ _ _ _ (show R73 sl sx d M0 P 35 [some (vR (some l0)), some (vI l1), some (vI l2), some (vI l3), some (vI l4), some (vI l5), some (vI l6), some (vI l7), some (vI l8), none] [vI l5, vI l4, vI l3, vI l2, vI l1, vI s2, vR s1, vR s0] M from ?_)
  subst he
  refine RN_k (callX_det _) 1 _ _ _ _ (show kd M a1 9 ∧ callX TBg sl sx (d + 6) 75 [vR (some a1), vI s2, vI l1, vI l2, vI l3, vI l4, vI l5] M (fun v M9 => R73 sl sx d M0 P 38 [some (vR (some l0)), some (vI l1), some (vI l2), some (vI l3), some (vI l4), some (vI l5), some (vI l6), some (vI l7), some (vI l8), none] (pushO v [vR s0]) M9) from ⟨h.1, ?_⟩)
  replace h := h.2
  refine callX_mono (callX_len (d := (d + 6)) rfl rfl rfl (c75 (d := d + 3) h)) ?_
  clear h
  rintro v9 M2 ⟨hl, r3, rfl, h⟩
  replace hM := lenT hM hl
  show R73 sl sx d M0 P 38 [some (vR (some l0)), some (vI l1), some (vI l2), some (vI l3), some (vI l4), some (vI l5), some (vI l6), some (vI l7), some (vI l8), none] [vI r3, vR s0] M2
  obtain ⟨a4, he, h⟩ := h
  subst he
  refine RN_k (callX_det _) 1 _ _ _ _ (show kd M2 a4 9 ∧ R73 sl sx d M0 P 41 [some (vR (some l0)), some (vI l1), some (vI l2), some (vI l3), some (vI l4), some (vI l5), some (vI l6), some (vI l7), some (vI l8), none] [] (sI M2 a4 10 r3) from ⟨h.1, ?_⟩)
  replace h := h.2
  refine RN_k (callX_det _) 2 _ _ _ _ (show kd (sI M2 a4 10 r3) l0 9 ∧ R73 sl sx d M0 P 45 [some (vR (some l0)), some (vI l1), some (vI l2), some (vI l3), some (vI l4), some (vI l5), some (vI l6), some (vI l7), some (vI l8), none] [vI (mI (sI M2 a4 10 r3) l0 10)] (sI M2 a4 10 r3) from ⟨h.1, ?_⟩)
  replace h := h.2
  refine RN_k (callX_det _) 1 _ _ _ _ (show ((mI (sI M2 a4 10 r3) l0 10) = 0 → R73 sl sx d M0 P 50 [some (vR (some l0)), some (vI l1), some (vI l2), some (vI l3), some (vI l4), some (vI l5), some (vI l6), some (vI l7), some (vI l8), none] [] (sI M2 a4 10 r3)) ∧ (¬ ((mI (sI M2 a4 10 r3) l0 10) = 0) → R73 sl sx d M0 P 48 [some (vR (some l0)), some (vI l1), some (vI l2), some (vI l3), some (vI l4), some (vI l5), some (vI l6), some (vI l7), some (vI l8), none] [] (sI M2 a4 10 r3)) from ⟨fun hc => ?_, fun hc => ?_⟩)
  · replace h := h.1 hc
    refine RN_k (callX_det _) 9 _ _ _ _ (show kd (sI M2 a4 10 r3) l0 9 ∧ callX TBg sl sx (d + 6) 76 [vR (some l0), vI l1, vI l2, vI l3, vI l4, vI l5, vI l6, vI l7] (sI M2 a4 10 r3) (fun v M9 => R73 sl sx d M0 P 65 [some (vR (some l0)), some (vI l1), some (vI l2), some (vI l3), some (vI l4), some (vI l5), some (vI l6), some (vI l7), some (vI l8), none] (pushO v []) M9) from ⟨h.1, ?_⟩)
    replace h := h.2
    refine callX_mono (callX_len (d := (d + 6)) rfl rfl rfl (c76 (d := d) h)) ?_
    clear h
    rintro v9 M5 ⟨hl, r6, rfl, h⟩
    replace hM := lenT hM hl
    show R73 sl sx d M0 P 65 [some (vR (some l0)), some (vI l1), some (vI l2), some (vI l3), some (vI l4), some (vI l5), some (vI l6), some (vI l7), some (vI l8), none] [vR r6] M5
    obtain ⟨a7, he, h⟩ := h
    refine RN_k (callX_det _) 2 _ _ _ _ (show R73 sl sx d M0 P 69 [some (vR (some l0)), some (vI l1), some (vI l2), some (vI l3), some (vI l4), some (vI l5), some (vI l6), some (vI l7), some (vI l8), some (vR r6)] [vR r6] M5 from ?_)
    subst he
    refine RN_k (callX_det _) 1 _ _ _ _ (show kd M5 a7 7 ∧ R73 sl sx d M0 P 72 [some (vR (some l0)), some (vI l1), some (vI l2), some (vI l3), some (vI l4), some (vI l5), some (vI l6), some (vI l7), some (vI l8), some (vR (some a7))] [vI (mI M5 a7 9)] M5 from ⟨h.1, ?_⟩)
    replace h := h.2
    refine RN_k (callX_det _) 1 _ _ _ _ (show ((mI M5 a7 9) ≠ 0 → R73 sl sx d M0 P 81 [some (vR (some l0)), some (vI l1), some (vI l2), some (vI l3), some (vI l4), some (vI l5), some (vI l6), some (vI l7), some (vI l8), some (vR (some a7))] [] M5) ∧ (¬ ((mI M5 a7 9) ≠ 0) → R73 sl sx d M0 P 75 [some (vR (some l0)), some (vI l1), some (vI l2), some (vI l3), some (vI l4), some (vI l5), some (vI l6), some (vI l7), some (vI l8), some (vR (some a7))] [] M5) from ⟨fun hc => ?_, fun hc => ?_⟩)
    · replace h := h.1 hc
      refine RN_k (callX_det _) 3 _ _ _ _ (show (l8 ≠ 0 → R73 sl sx d M0 P 95 [some (vR (some l0)), some (vI l1), some (vI l2), some (vI l3), some (vI l4), some (vI l5), some (vI l6), some (vI l7), some (vI l8), some (vR (some a7))] [vR (some l0)] M5) ∧ (¬ (l8 ≠ 0) → R73 sl sx d M0 P 87 [some (vR (some l0)), some (vI l1), some (vI l2), some (vI l3), some (vI l4), some (vI l5), some (vI l6), some (vI l7), some (vI l8), some (vR (some a7))] [vR (some l0)] M5) from ⟨fun hc => ?_, fun hc => ?_⟩)
      · replace h := h.1 hc
        refine RN_k (callX_det _) 2 _ _ _ _ (show kd M5 a7 7 ∧ callX TBg sl sx (d + 6) 89 [vR (some a7)] M5 (fun v M9 => R73 sl sx d M0 P 100 [some (vR (some l0)), some (vI l1), some (vI l2), some (vI l3), some (vI l4), some (vI l5), some (vI l6), some (vI l7), some (vI l8), some (vR (some a7))] (pushO v [vR (some l0)]) M9) from ⟨h.1, ?_⟩)
        replace h := h.2
        refine callX_mono (callX_len (d := (d + 6)) rfl rfl rfl (c89 (d := d + 3) h)) ?_
        clear h
        rintro v9 M8 ⟨hl, r9, rfl, h⟩
        replace hM := lenT hM hl
        show R73 sl sx d M0 P 100 [some (vR (some l0)), some (vI l1), some (vI l2), some (vI l3), some (vI l4), some (vI l5), some (vI l6), some (vI l7), some (vI l8), some (vR (some a7))] [vI r9, vR (some l0)] M8
        exact RN_weak (K := [none, none, none, none, none, none, none, none, none, none]) (callX_det _) (show True from trivial) (t73_100  (some l0) r9 _ hM h)
      · replace h := h.2 hc
        refine RN_k (callX_det _) 2 _ _ _ _ (show kd M5 a7 7 ∧ callX TBg sl sx (d + 6) 87 [vR (some a7)] M5 (fun v M9 => R73 sl sx d M0 P 92 [some (vR (some l0)), some (vI l1), some (vI l2), some (vI l3), some (vI l4), some (vI l5), some (vI l6), some (vI l7), some (vI l8), some (vR (some a7))] (pushO v [vR (some l0)]) M9) from ⟨h.1, ?_⟩)
        replace h := h.2
        refine callX_mono (callX_len (d := (d + 6)) rfl rfl rfl (c87 (d := d + 3) h)) ?_
        clear h
        rintro v9 M10 ⟨hl, r11, rfl, h⟩
        replace hM := lenT hM hl
        show R73 sl sx d M0 P 92 [some (vR (some l0)), some (vI l1), some (vI l2), some (vI l3), some (vI l4), some (vI l5), some (vI l6), some (vI l7), some (vI l8), some (vR (some a7))] [vI r11, vR (some l0)] M10
        refine RN_k (callX_det _) 1 _ _ _ _ (show R73 sl sx d M0 P 100 [some (vR (some l0)), some (vI l1), some (vI l2), some (vI l3), some (vI l4), some (vI l5), some (vI l6), some (vI l7), some (vI l8), some (vR (some a7))] [vI r11, vR (some l0)] M10 from ?_)
        exact RN_weak (K := [none, none, none, none, none, none, none, none, none, none]) (callX_det _) (show True from trivial) (t73_100  (some l0) r11 _ hM h)
    · replace h := h.2 hc
      refine RN_k (callX_det _) 3 _ _ _ _ (show kd M5 l0 9 ∧ callX TBg sl sx (d + 6) 17 [vR (some l0), vI (5 : Int32)] M5 (fun v M9 => R73 sl sx d M0 P 80 [some (vR (some l0)), some (vI l1), some (vI l2), some (vI l3), some (vI l4), some (vI l5), some (vI l6), some (vI l7), some (vI l8), some (vR (some a7))] (pushO v []) M9) from ⟨h.1, ?_⟩)
      replace h := h.2
      refine callX_mono (callX_len (d := (d + 6)) rfl rfl rfl (c17 (d := d + 5) h)) ?_
      clear h
      rintro v9 M12 ⟨hl, r13, rfl, h⟩
      replace hM := lenT hM hl
      show R73 sl sx d M0 P 80 [some (vR (some l0)), some (vI l1), some (vI l2), some (vI l3), some (vI l4), some (vI l5), some (vI l6), some (vI l7), some (vI l8), some (vR (some a7))] [vI r13] M12
      exact RN_k (callX_det _) 1 _ _ _ _ (show rtW q73 M0 (PI P) (some (vI r13)) M12 from ⟨⟨_, rfl⟩, hM.1, hM.2, _, rfl, h⟩)
  · replace h := h.2 hc
    exact RN_k (callX_det _) 2 _ _ _ _ (show rtW q73 M0 (PI P) (some (vI (-1 : Int32))) (sI M2 a4 10 r3) from ⟨⟨_, rfl⟩, hM.1, hM.2, _, rfl, h⟩)
def w73_27 (l0 : Nat) (l1 : Int32) (l2 : Int32) (l3 : Int32) (l4 : Int32) (l5 : Int32) (l6 : Int32) (l7 : Int32) (l8 : Int32) (s0 : Option Nat) (s1 : Option Nat) (M : MM) (P : Int32 → MM → Prop) : Prop := w73_28  l0 l1 l2 l3 l4 l5 l6 l7 l8 s0 s1 (0 : Int32) M P
theorem t73_27 {sl : Nat} {sx : Nat → Int32} {d : Nat} {M0 : MM} {P : Int32 → MM → Prop} (l0 : Nat) (l1 : Int32) (l2 : Int32) (l3 : Int32) (l4 : Int32) (l5 : Int32) (l6 : Int32) (l7 : Int32) (l8 : Int32) (s0 : Option Nat) (s1 : Option Nat) (M : MM) (hM : lenO M0 M) (h : w73_27  l0 l1 l2 l3 l4 l5 l6 l7 l8 s0 s1 M P) : R73 sl sx d M0 P 27 [some (vR (some l0)), some (vI l1), some (vI l2), some (vI l3), some (vI l4), some (vI l5), some (vI l6), some (vI l7), some (vI l8), none] [vR s1, vR s0] M := by
  refine RN_k (callX_det _) 1 _ _ _ _ (show R73 sl sx d M0 P 28 [some (vR (some l0)), some (vI l1), some (vI l2), some (vI l3), some (vI l4), some (vI l5), some (vI l6), some (vI l7), some (vI l8), none] [vI (0 : Int32), vR s1, vR s0] M from ?_)
  exact RN_weak (K := [some (vR (some l0)), some (vI l1), some (vI l2), some (vI l3), some (vI l4), some (vI l5), some (vI l6), some (vI l7), some (vI l8), none]) (callX_det _) (show _ ∧ _ ∧ _ ∧ _ ∧ _ ∧ _ ∧ _ ∧ _ ∧ _ ∧ True from ⟨rfl, rfl, rfl, rfl, rfl, rfl, rfl, rfl, rfl, trivial⟩) (t73_28  l0 l1 l2 l3 l4 l5 l6 l7 l8 s0 s1 (0 : Int32) _ hM h)
def w73_23 (l0 : Nat) (l1 : Int32) (l2 : Int32) (l3 : Int32) (l4 : Int32) (l5 : Int32) (l6 : Int32) (l7 : Int32) (l8 : Int32) (s0 : Option Nat) (s1 : Option Nat) (M : MM) (P : Int32 → MM → Prop) : Prop := w73_28  l0 l1 l2 l3 l4 l5 l6 l7 l8 s0 s1 (1 : Int32) M P
theorem t73_23 {sl : Nat} {sx : Nat → Int32} {d : Nat} {M0 : MM} {P : Int32 → MM → Prop} (l0 : Nat) (l1 : Int32) (l2 : Int32) (l3 : Int32) (l4 : Int32) (l5 : Int32) (l6 : Int32) (l7 : Int32) (l8 : Int32) (s0 : Option Nat) (s1 : Option Nat) (M : MM) (hM : lenO M0 M) (h : w73_23  l0 l1 l2 l3 l4 l5 l6 l7 l8 s0 s1 M P) : R73 sl sx d M0 P 23 [some (vR (some l0)), some (vI l1), some (vI l2), some (vI l3), some (vI l4), some (vI l5), some (vI l6), some (vI l7), some (vI l8), none] [vR s1, vR s0] M := by
  refine RN_k (callX_det _) 2 _ _ _ _ (show R73 sl sx d M0 P 28 [some (vR (some l0)), some (vI l1), some (vI l2), some (vI l3), some (vI l4), some (vI l5), some (vI l6), some (vI l7), some (vI l8), none] [vI (1 : Int32), vR s1, vR s0] M from ?_)
  exact RN_weak (K := [some (vR (some l0)), some (vI l1), some (vI l2), some (vI l3), some (vI l4), some (vI l5), some (vI l6), some (vI l7), some (vI l8), none]) (callX_det _) (show _ ∧ _ ∧ _ ∧ _ ∧ _ ∧ _ ∧ _ ∧ _ ∧ _ ∧ True from ⟨rfl, rfl, rfl, rfl, rfl, rfl, rfl, rfl, rfl, trivial⟩) (t73_28  l0 l1 l2 l3 l4 l5 l6 l7 l8 s0 s1 (1 : Int32) _ hM h)
def w73 (l0 : Nat) (l1 : Int32) (l2 : Int32) (l3 : Int32) (l4 : Int32) (l5 : Int32) (l6 : Int32) (l7 : Int32) (l8 : Int32) (M : MM) (P : Int32 → MM → Prop) : Prop := w74 l6 l7 M (fun r2 M1 => (r2 = 0 → (w73_27  l0 l1 l2 l3 l4 l5 l6 l7 l8 (some l0) (some l0) M1 P)) ∧ (¬ (r2 = 0) → ((l8 = 0 → (w73_23  l0 l1 l2 l3 l4 l5 l6 l7 l8 (some l0) (some l0) M1 P)) ∧ (¬ (l8 = 0) → ((l8 ≠ (1 : Int32) → (w73_27  l0 l1 l2 l3 l4 l5 l6 l7 l8 (some l0) (some l0) M1 P)) ∧ (¬ (l8 ≠ (1 : Int32)) → (w73_23  l0 l1 l2 l3 l4 l5 l6 l7 l8 (some l0) (some l0) M1 P)))))))
theorem t73_E {sl : Nat} {sx : Nat → Int32} {d : Nat} {M0 : MM} {P : Int32 → MM → Prop} (l0 : Nat) (l1 : Int32) (l2 : Int32) (l3 : Int32) (l4 : Int32) (l5 : Int32) (l6 : Int32) (l7 : Int32) (l8 : Int32) (M : MM) (hM : lenO M0 M) (h : w73  l0 l1 l2 l3 l4 l5 l6 l7 l8 M P) : R73 sl sx d M0 P 0 [some (vR (some l0)), some (vI l1), some (vI l2), some (vI l3), some (vI l4), some (vI l5), some (vI l6), some (vI l7), some (vI l8), none] [] M := by
  refine RN_k (callX_det _) 5 _ _ _ _ (show callX TBg sl sx (d + 6) 74 [vI l6, vI l7] M (fun v M9 => R73 sl sx d M0 P 9 [some (vR (some l0)), some (vI l1), some (vI l2), some (vI l3), some (vI l4), some (vI l5), some (vI l6), some (vI l7), some (vI l8), none] (pushO v [vR (some l0), vR (some l0)]) M9) from ?_)
  refine callX_mono (callX_len (d := (d + 6)) rfl rfl rfl (c74 (d := d + 5) h)) ?_
  clear h
  rintro v9 M1 ⟨hl, r2, rfl, h⟩
  replace hM := lenT hM hl
  show R73 sl sx d M0 P 9 [some (vR (some l0)), some (vI l1), some (vI l2), some (vI l3), some (vI l4), some (vI l5), some (vI l6), some (vI l7), some (vI l8), none] [vI r2, vR (some l0), vR (some l0)] M1
  refine RN_k (callX_det _) 1 _ _ _ _ (show (r2 = 0 → R73 sl sx d M0 P 27 [some (vR (some l0)), some (vI l1), some (vI l2), some (vI l3), some (vI l4), some (vI l5), some (vI l6), some (vI l7), some (vI l8), none] [vR (some l0), vR (some l0)] M1) ∧ (¬ (r2 = 0) → R73 sl sx d M0 P 12 [some (vR (some l0)), some (vI l1), some (vI l2), some (vI l3), some (vI l4), some (vI l5), some (vI l6), some (vI l7), some (vI l8), none] [vR (some l0), vR (some l0)] M1) from ⟨fun hc => ?_, fun hc => ?_⟩)
  · replace h := h.1 hc
    exact RN_weak (K := [some (vR (some l0)), some (vI l1), some (vI l2), some (vI l3), some (vI l4), some (vI l5), some (vI l6), some (vI l7), some (vI l8), none]) (callX_det _) (show _ ∧ _ ∧ _ ∧ _ ∧ _ ∧ _ ∧ _ ∧ _ ∧ _ ∧ True from ⟨rfl, rfl, rfl, rfl, rfl, rfl, rfl, rfl, rfl, trivial⟩) (t73_27  l0 l1 l2 l3 l4 l5 l6 l7 l8 (some l0) (some l0) _ hM h)
  · replace h := h.2 hc
    refine RN_k (callX_det _) 2 _ _ _ _ (show (l8 = 0 → R73 sl sx d M0 P 23 [some (vR (some l0)), some (vI l1), some (vI l2), some (vI l3), some (vI l4), some (vI l5), some (vI l6), some (vI l7), some (vI l8), none] [vR (some l0), vR (some l0)] M1) ∧ (¬ (l8 = 0) → R73 sl sx d M0 P 17 [some (vR (some l0)), some (vI l1), some (vI l2), some (vI l3), some (vI l4), some (vI l5), some (vI l6), some (vI l7), some (vI l8), none] [vR (some l0), vR (some l0)] M1) from ⟨fun hc => ?_, fun hc => ?_⟩)
    · replace h := h.1 hc
      exact RN_weak (K := [some (vR (some l0)), some (vI l1), some (vI l2), some (vI l3), some (vI l4), some (vI l5), some (vI l6), some (vI l7), some (vI l8), none]) (callX_det _) (show _ ∧ _ ∧ _ ∧ _ ∧ _ ∧ _ ∧ _ ∧ _ ∧ _ ∧ True from ⟨rfl, rfl, rfl, rfl, rfl, rfl, rfl, rfl, rfl, trivial⟩) (t73_23  l0 l1 l2 l3 l4 l5 l6 l7 l8 (some l0) (some l0) _ hM h)
    · replace h := h.2 hc
      refine RN_k (callX_det _) 3 _ _ _ _ (show (l8 ≠ (1 : Int32) → R73 sl sx d M0 P 27 [some (vR (some l0)), some (vI l1), some (vI l2), some (vI l3), some (vI l4), some (vI l5), some (vI l6), some (vI l7), some (vI l8), none] [vR (some l0), vR (some l0)] M1) ∧ (¬ (l8 ≠ (1 : Int32)) → R73 sl sx d M0 P 23 [some (vR (some l0)), some (vI l1), some (vI l2), some (vI l3), some (vI l4), some (vI l5), some (vI l6), some (vI l7), some (vI l8), none] [vR (some l0), vR (some l0)] M1) from ⟨fun hc => ?_, fun hc => ?_⟩)
      · replace h := h.1 hc
        exact RN_weak (K := [some (vR (some l0)), some (vI l1), some (vI l2), some (vI l3), some (vI l4), some (vI l5), some (vI l6), some (vI l7), some (vI l8), none]) (callX_det _) (show _ ∧ _ ∧ _ ∧ _ ∧ _ ∧ _ ∧ _ ∧ _ ∧ _ ∧ True from ⟨rfl, rfl, rfl, rfl, rfl, rfl, rfl, rfl, rfl, trivial⟩) (t73_27  l0 l1 l2 l3 l4 l5 l6 l7 l8 (some l0) (some l0) _ hM h)
      · replace h := h.2 hc
        exact RN_weak (K := [some (vR (some l0)), some (vI l1), some (vI l2), some (vI l3), some (vI l4), some (vI l5), some (vI l6), some (vI l7), some (vI l8), none]) (callX_det _) (show _ ∧ _ ∧ _ ∧ _ ∧ _ ∧ _ ∧ _ ∧ _ ∧ _ ∧ True from ⟨rfl, rfl, rfl, rfl, rfl, rfl, rfl, rfl, rfl, trivial⟩) (t73_23  l0 l1 l2 l3 l4 l5 l6 l7 l8 (some l0) (some l0) _ hM h)
theorem c73 {sl : Nat} {sx : Nat → Int32} {d : Nat} {l0 : Nat} {l1 : Int32} {l2 : Int32} {l3 : Int32} {l4 : Int32} {l5 : Int32} {l6 : Int32} {l7 : Int32} {l8 : Int32} {M : MM} {P : Int32 → MM → Prop} (h : w73 l0 l1 l2 l3 l4 l5 l6 l7 l8 M P) : callX TBg sl sx (d + 7) 73 [vR (some l0), vI l1, vI l2, vI l3, vI l4, vI l5, vI l6, vI l7, vI l8] M (PI P) :=
  cX (d := d + 6) q73 (false, tb73) rfl rfl rfl (t73_E l0 l1 l2 l3 l4 l5 l6 l7 l8 M lenR h)
