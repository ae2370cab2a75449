/-! ===== printed by program: what must hold that a call ends with what is asked ===== -/
-- TwoLeash.groupOf(II)I
abbrev q140 : MQ7 := (3, 1, 6, 9, 0, 0, 1)
abbrev R140 (sl : Nat) (sx : Nat → Int32) (d : Nat) (M0 : MM) (P : Int32 → MM → Prop) : Nat → LL → List VV → MM → Prop := RN 9 false (mS M0).length (mT M0) 0 0 sl sx (callX TBg sl sx (d + 0)) (rtW q140 M0 (PI P)) (as2 tb140)
def w140_46 (k7 : Nat → Int32 → Int32 → Int32 → MM → Prop) (k16 : Nat → Int32 → Int32 → Int32 → Int32 → MM → Prop) (l0 : Nat) (l2 : Int32) (l3 : Int32) (l4 : Int32) (l5 : Int32) (M : MM) (P : Int32 → MM → Prop) : Prop := k16 l0 l2 l3 l4 (l5 + (1 : Int32)) M
theorem t140_46 {sl : Nat} {sx : Nat → Int32} {d : Nat} {M0 : MM} {P : Int32 → MM → Prop} {k7 : Nat → Int32 → Int32 → Int32 → MM → Prop} {k16 : Nat → Int32 → Int32 → Int32 → Int32 → MM → Prop} (hk7 : ∀ (l0 : Nat) (l2 : Int32) (l3 : Int32) (l4 : Int32) (M : MM), lenO M0 M → k7 l0 l2 l3 l4 M → R140 sl sx d M0 P 7 [some (vR (some l0)), none, some (vI l2), some (vI l3), some (vI l4), none] [] M) (hk16 : ∀ (l0 : Nat) (l2 : Int32) (l3 : Int32) (l4 : Int32) (l5 : Int32) (M : MM), lenO M0 M → k16 l0 l2 l3 l4 l5 M → R140 sl sx d M0 P 16 [some (vR (some l0)), none, some (vI l2), some (vI l3), some (vI l4), some (vI l5)] [] M) (l0 : Nat) (l2 : Int32) (l3 : Int32) (l4 : Int32) (l5 : Int32) (M : MM) (hM : lenO M0 M) (h : w140_46 k7 k16 l0 l2 l3 l4 l5 M P) : R140 sl sx d M0 P 46 [some (vR (some l0)), none, some (vI l2), some (vI l3), some (vI l4), some (vI l5)] [] M := by
  refine RN_k (callX_det _) 2 _ _ _ _ (show R140 sl sx d M0 P 16 [some (vR (some l0)), none, some (vI l2), some (vI l3), some (vI l4), some (vI (l5 + (1 : Int32)))] [] M from ?_)
  exact RN_weak (K := [some (vR (some l0)), none, some (vI l2), some (vI l3), some (vI l4), some (vI (l5 + (1 : Int32)))]) (callX_det _) (show _ ∧ _ ∧ _ ∧ _ ∧ _ ∧ True from ⟨rfl, rfl, rfl, rfl, rfl, trivial⟩) (hk16 l0 l2 l3 l4 (l5 + (1 : Int32)) _ hM h)
def w140_16 (k7 : Nat → Int32 → Int32 → Int32 → MM → Prop) : Nat → Nat → Int32 → Int32 → Int32 → Int32 → MM → (Int32 → MM → Prop) → Prop
  | 0 => fun _ _ _ _ _ _ _ => False
  | n + 1 => fun l0 l2 l3 l4 l5 M P => kd M l0 9 ∧ (((mI M l0 6) ≤ l5 → (k7 l0 l2 l3 (l4 + (1 : Int32)) M)) ∧ (¬ ((mI M l0 6) ≤ l5) → ((((l3 >>> (l5 &&& 31)) &&& (1 : Int32)) = 0 → (w140_46 k7 (fun z0 z1 z2 z3 z4 z5 => w140_16 k7 n z0 z1 z2 z3 z4 z5 P) l0 l2 l3 l4 l5 M P)) ∧ (¬ (((l3 >>> (l5 &&& 31)) &&& (1 : Int32)) = 0) → (w140_46 k7 (fun z0 z1 z2 z3 z4 z5 => w140_16 k7 n z0 z1 z2 z3 z4 z5 P) l0 l2 (l3 ||| ((l2 >>> ((l5 * (4 : Int32)) &&& 31)) &&& (15 : Int32))) l4 l5 M P)))))
theorem t140_16 {sl : Nat} {sx : Nat → Int32} {d : Nat} {M0 : MM} {P : Int32 → MM → Prop} {k7 : Nat → Int32 → Int32 → Int32 → MM → Prop} (hk7 : ∀ (l0 : Nat) (l2 : Int32) (l3 : Int32) (l4 : Int32) (M : MM), lenO M0 M → k7 l0 l2 l3 l4 M → R140 sl sx d M0 P 7 [some (vR (some l0)), none, some (vI l2), some (vI l3), some (vI l4), none] [] M) (n : Nat) : ∀ (l0 : Nat) (l2 : Int32) (l3 : Int32) (l4 : Int32) (l5 : Int32) (M : MM) (_ : lenO M0 M) (_ : w140_16 k7 n l0 l2 l3 l4 l5 M P), R140 sl sx d M0 P 16 [some (vR (some l0)), none, some (vI l2), some (vI l3), some (vI l4), some (vI l5)] [] M := by
  induction n with
  | zero => intro l0 l2 l3 l4 l5 M hM h; cases h
  | succ n ih =>
    intro l0 l2 l3 l4 l5 M hM h
    refine RN_k (callX_det _) 3 _ _ _ _ (show kd M l0 9 ∧ R140 sl sx d M0 P 22 [some (vR (some l0)), none, some (vI l2), some (vI l3), some (vI l4), some (vI l5)] [vI (mI M l0 6), vI l5] M from ⟨h.1, ?_⟩)
    replace h := h.2
    refine RN_k (callX_det _) 1 _ _ _ _ (show ((mI M l0 6) ≤ l5 → R140 sl sx d M0 P 52 [some (vR (some l0)), none, some (vI l2), some (vI l3), some (vI l4), some (vI l5)] [] M) ∧ (¬ ((mI M l0 6) ≤ l5) → R140 sl sx d M0 P 25 [some (vR (some l0)), none, some (vI l2), some (vI l3), some (vI l4), some (vI l5)] [] M) from ⟨fun hc => ?_, fun hc => ?_⟩)
    · replace h := h.1 hc
      refine RN_k (callX_det _) 2 _ _ _ _ (show R140 sl sx d M0 P 7 [some (vR (some l0)), none, some (vI l2), some (vI l3), some (vI (l4 + (1 : Int32))), some (vI l5)] [] M from ?_)
      exact RN_weak (K := [some (vR (some l0)), none, some (vI l2), some (vI l3), some (vI (l4 + (1 : Int32))), none]) (callX_det _) (show _ ∧ _ ∧ _ ∧ _ ∧ True from ⟨rfl, rfl, rfl, rfl, trivial⟩) (hk7 l0 l2 l3 (l4 + (1 : Int32)) _ hM h)
    · replace h := h.2 hc
      refine RN_k (callX_det _) 6 _ _ _ _ (show (((l3 >>> (l5 &&& 31)) &&& (1 : Int32)) = 0 → R140 sl sx d M0 P 46 [some (vR (some l0)), none, some (vI l2), some (vI l3), some (vI l4), some (vI l5)] [] M) ∧ (¬ (((l3 >>> (l5 &&& 31)) &&& (1 : Int32)) = 0) → R140 sl sx d M0 P 34 [some (vR (some l0)), none, some (vI l2), some (vI l3), some (vI l4), some (vI l5)] [] M) from ⟨fun hc => ?_, fun hc => ?_⟩)
      · replace h := h.1 hc
        exact RN_weak (K := [some (vR (some l0)), none, some (vI l2), some (vI l3), some (vI l4), some (vI l5)]) (callX_det _) (show _ ∧ _ ∧ _ ∧ _ ∧ _ ∧ True from ⟨rfl, rfl, rfl, rfl, rfl, trivial⟩) (t140_46 hk7 ih l0 l2 l3 l4 l5 _ hM h)
      · replace h := h.2 hc
        refine RN_k (callX_det _) 10 _ _ _ _ (show R140 sl sx d M0 P 46 [some (vR (some l0)), none, some (vI l2), some (vI (l3 ||| ((l2 >>> ((l5 * (4 : Int32)) &&& 31)) &&& (15 : Int32)))), some (vI l4), some (vI l5)] [] M from ?_)
        exact RN_weak (K := [some (vR (some l0)), none, some (vI l2), some (vI (l3 ||| ((l2 >>> ((l5 * (4 : Int32)) &&& 31)) &&& (15 : Int32)))), some (vI l4), some (vI l5)]) (callX_det _) (show _ ∧ _ ∧ _ ∧ _ ∧ _ ∧ True from ⟨rfl, rfl, rfl, rfl, rfl, trivial⟩) (t140_46 hk7 ih l0 l2 (l3 ||| ((l2 >>> ((l5 * (4 : Int32)) &&& 31)) &&& (15 : Int32))) l4 l5 _ hM h)
def w140_7 : Nat → Nat → Int32 → Int32 → Int32 → MM → (Int32 → MM → Prop) → Prop
  | 0 => fun _ _ _ _ _ _ => False
  | n + 1 => fun l0 l2 l3 l4 M P => ((4 : Int32) ≤ l4 → (P l3 M)) ∧ (¬ ((4 : Int32) ≤ l4) → (∃ n2, w140_16 (fun z0 z1 z2 z3 z4 => w140_7  n z0 z1 z2 z3 z4 P) n2 l0 l2 l3 l4 (0 : Int32) M P))
theorem t140_7 {sl : Nat} {sx : Nat → Int32} {d : Nat} {M0 : MM} {P : Int32 → MM → Prop} (n : Nat) : ∀ (l0 : Nat) (l2 : Int32) (l3 : Int32) (l4 : Int32) (M : MM) (_ : lenO M0 M) (_ : w140_7  n l0 l2 l3 l4 M P), R140 sl sx d M0 P 7 [some (vR (some l0)), none, some (vI l2), some (vI l3), some (vI l4), none] [] M := by
  induction n with
  | zero => intro l0 l2 l3 l4 M hM h; cases h
  | succ n ih =>
    intro l0 l2 l3 l4 M hM h
    refine RN_k (callX_det _) 3 _ _ _ _ (show ((4 : Int32) ≤ l4 → R140 sl sx d M0 P 58 [some (vR (some l0)), none, some (vI l2), some (vI l3), some (vI l4), none] [] M) ∧ (¬ ((4 : Int32) ≤ l4) → R140 sl sx d M0 P 13 [some (vR (some l0)), none, some (vI l2), some (vI l3), some (vI l4), none] [] M) from ⟨fun hc => ?_, fun hc => ?_⟩)
    · replace h := h.1 hc
      exact RN_k (callX_det _) 2 _ _ _ _ (show rtW q140 M0 (PI P) (some (vI l3)) M from ⟨⟨_, rfl⟩, hM.1, hM.2, _, rfl, h⟩)
    · replace h := h.2 hc
      refine RN_k (callX_det _) 2 _ _ _ _ (show R140 sl sx d M0 P 16 [some (vR (some l0)), none, some (vI l2), some (vI l3), some (vI l4), some (vI (0 : Int32))] [] M from ?_)
      obtain ⟨n2, h⟩ := h
      exact RN_weak (K := [some (vR (some l0)), none, some (vI l2), some (vI l3), some (vI l4), some (vI (0 : Int32))]) (callX_det _) (show _ ∧ _ ∧ _ ∧ _ ∧ _ ∧ True from ⟨rfl, rfl, rfl, rfl, rfl, trivial⟩) (t140_16 ih n2 l0 l2 l3 l4 (0 : Int32) _ hM h)
def w140 (l0 : Nat) (l1 : Int32) (l2 : Int32) (M : MM) (P : Int32 → MM → Prop) : Prop := ∃ n2, w140_7  n2 l0 l2 ((1 : Int32) <<< (l1 &&& 31)) (0 : Int32) M P
theorem t140_E {sl : Nat} {sx : Nat → Int32} {d : Nat} {M0 : MM} {P : Int32 → MM → Prop} (l0 : Nat) (l1 : Int32) (l2 : Int32) (M : MM) (hM : lenO M0 M) (h : w140  l0 l1 l2 M P) : R140 sl sx d M0 P 0 [some (vR (some l0)), some (vI l1), some (vI l2), none, none, none] [] M := by
  refine RN_k (callX_det _) 6 _ _ _ _ (show R140 sl sx d M0 P 7 [some (vR (some l0)), some (vI l1), some (vI l2), some (vI ((1 : Int32) <<< (l1 &&& 31))), some (vI (0 : Int32)), none] [] M from ?_)
  obtain ⟨n2, h⟩ := h
  exact RN_weak (K := [some (vR (some l0)), none, some (vI l2), some (vI ((1 : Int32) <<< (l1 &&& 31))), some (vI (0 : Int32)), none]) (callX_det _) (show _ ∧ _ ∧ _ ∧ _ ∧ True from ⟨rfl, rfl, rfl, rfl, trivial⟩) (t140_7  n2 l0 l2 ((1 : Int32) <<< (l1 &&& 31)) (0 : Int32) _ hM h)
theorem c140 {sl : Nat} {sx : Nat → Int32} {d : Nat} {l0 : Nat} {l1 : Int32} {l2 : Int32} {M : MM} {P : Int32 → MM → Prop} (h : w140 l0 l1 l2 M P) : callX TBg sl sx (d + 1) 140 [vR (some l0), vI l1, vI l2] M (PI P) :=
  cX (d := d + 0) q140 (false, tb140) rfl rfl rfl (t140_E l0 l1 l2 M lenR h)
-- TwoLeash.groups(III)I
abbrev q138 : MQ7 := (4, 1, 7, 9, 0, 0, 1)
abbrev R138 (sl : Nat) (sx : Nat → Int32) (d : Nat) (M0 : MM) (P : Int32 → MM → Prop) : Nat → LL → List VV → MM → Prop := RN 9 false (mS M0).length (mT M0) 0 0 sl sx (callX TBg sl sx (d + 6)) (rtW q138 M0 (PI P)) (as2 tb138)
def w138_94 (k64 : Nat → Int32 → Int32 → Int32 → MM → Prop) (l0 : Nat) (l4 : Int32) (l5 : Int32) (l6 : Int32) (M : MM) (P : Int32 → MM → Prop) : Prop := k64 l0 l4 l5 (l6 + (1 : Int32)) M
theorem t138_94 {sl : Nat} {sx : Nat → Int32} {d : Nat} {M0 : MM} {P : Int32 → MM → Prop} {k64 : Nat → Int32 → Int32 → Int32 → MM → Prop} (hk64 : ∀ (l0 : Nat) (l4 : Int32) (l5 : Int32) (l6 : Int32) (M : MM), lenO M0 M → k64 l0 l4 l5 l6 M → R138 sl sx d M0 P 64 [some (vR (some l0)), none, none, none, some (vI l4), some (vI l5), some (vI l6)] [] M) (l0 : Nat) (l4 : Int32) (l5 : Int32) (l6 : Int32) (M : MM) (hM : lenO M0 M) (h : w138_94 k64 l0 l4 l5 l6 M P) : R138 sl sx d M0 P 94 [some (vR (some l0)), none, none, none, some (vI l4), some (vI l5), some (vI l6)] [] M := by
  refine RN_k (callX_det _) 2 _ _ _ _ (show R138 sl sx d M0 P 64 [some (vR (some l0)), none, none, none, some (vI l4), some (vI l5), some (vI (l6 + (1 : Int32)))] [] M from ?_)
  exact RN_weak (K := [some (vR (some l0)), none, none, none, some (vI l4), some (vI l5), some (vI (l6 + (1 : Int32)))]) (callX_det _) (show _ ∧ _ ∧ _ ∧ _ ∧ True from ⟨rfl, rfl, rfl, rfl, trivial⟩) (hk64 l0 l4 l5 (l6 + (1 : Int32)) _ hM h)
def w138_64 : Nat → Nat → Int32 → Int32 → Int32 → MM → (Int32 → MM → Prop) → Prop
  | 0 => fun _ _ _ _ _ _ => False
  | n + 1 => fun l0 l4 l5 l6 M P => kd M l0 9 ∧ (((mI M l0 6) ≤ l6 → (kd M l0 9 ∧ w35 l0 l5 M (fun r2 M1 => P r2 M1))) ∧ (¬ ((mI M l0 6) ≤ l6) → (kd M l0 9 ∧ w140 l0 l6 l4 M (fun r4 M3 => ((r4 &&& (((1 : Int32) <<< (l6 &&& 31)) - (1 : Int32))) ≠ 0 → (w138_94 (fun z0 z1 z2 z3 z4 => w138_64  n z0 z1 z2 z3 z4 P) l0 l4 l5 l6 M3 P)) ∧ (¬ ((r4 &&& (((1 : Int32) <<< (l6 &&& 31)) - (1 : Int32))) ≠ 0) → (w138_94 (fun z0 z1 z2 z3 z4 => w138_64  n z0 z1 z2 z3 z4 P) l0 l4 (l5 + (1 : Int32)) l6 M3 P))))))
theorem t138_64 {sl : Nat} {sx : Nat → Int32} {d : Nat} {M0 : MM} {P : Int32 → MM → Prop} (n : Nat) : ∀ (l0 : Nat) (l4 : Int32) (l5 : Int32) (l6 : Int32) (M : MM) (_ : lenO M0 M) (_ : w138_64  n l0 l4 l5 l6 M P), R138 sl sx d M0 P 64 [some (vR (some l0)), none, none, none, some (vI l4), some (vI l5), some (vI l6)] [] M := by
  induction n with
  | zero => intro l0 l4 l5 l6 M hM h; cases h
  | succ n ih =>
    intro l0 l4 l5 l6 M hM h
    refine RN_k (callX_det _) 3 _ _ _ _ (show kd M l0 9 ∧ R138 sl sx d M0 P 70 [some (vR (some l0)), none, none, none, some (vI l4), some (vI l5), some (vI l6)] [vI (mI M l0 6), vI l6] M from ⟨h.1, ?_⟩)
    replace h := h.2
    refine RN_k (callX_det _) 1 _ _ _ _ (show ((mI M l0 6) ≤ l6 → R138 sl sx d M0 P 100 [some (vR (some l0)), none, none, none, some (vI l4), some (vI l5), some (vI l6)] [] M) ∧ (¬ ((mI M l0 6) ≤ l6) → R138 sl sx d M0 P 73 [some (vR (some l0)), none, none, none, some (vI l4), some (vI l5), some (vI l6)] [] M) from ⟨fun hc => ?_, fun hc => ?_⟩)
    · replace h := h.1 hc
      refine RN_k (callX_det _) 3 _ _ _ _ (show kd M l0 9 ∧ callX TBg sl sx (d + 6) 35 [vR (some l0), vI l5] M (fun v M9 => R138 sl sx d M0 P 106 [some (vR (some l0)), none, none, none, some (vI l4), some (vI l5), some (vI l6)] (pushO v []) M9) from ⟨h.1, ?_⟩)
      replace h := h.2
      refine callX_mono (callX_len (d := (d + 6)) rfl rfl rfl (c35 (d := d + 5) h)) ?_
      clear h
      rintro v9 M1 ⟨hl, r2, rfl, h⟩
      replace hM := lenT hM hl
      show R138 sl sx d M0 P 106 [some (vR (some l0)), none, none, none, some (vI l4), some (vI l5), some (vI l6)] [vI r2] M1
      exact RN_k (callX_det _) 1 _ _ _ _ (show rtW q138 M0 (PI P) (some (vI r2)) M1 from ⟨⟨_, rfl⟩, hM.1, hM.2, _, rfl, h⟩)
    · replace h := h.2 hc
      refine RN_k (callX_det _) 4 _ _ _ _ (show kd M l0 9 ∧ callX TBg sl sx (d + 6) 140 [vR (some l0), vI l6, vI l4] M (fun v M9 => R138 sl sx d M0 P 81 [some (vR (some l0)), none, none, none, some (vI l4), some (vI l5), some (vI l6)] (pushO v []) M9) from ⟨h.1, ?_⟩)
      replace h := h.2
      refine callX_mono (callX_len (d := (d + 6)) rfl rfl rfl (c140 (d := d + 5) h)) ?_
      clear h
      rintro v9 M3 ⟨hl, r4, rfl, h⟩
      replace hM := lenT hM hl
      show R138 sl sx d M0 P 81 [some (vR (some l0)), none, none, none, some (vI l4), some (vI l5), some (vI l6)] [vI r4] M3
      refine RN_k (callX_det _) 7 _ _ _ _ (show ((r4 &&& (((1 : Int32) <<< (l6 &&& 31)) - (1 : Int32))) ≠ 0 → R138 sl sx d M0 P 94 [some (vR (some l0)), none, none, none, some (vI l4), some (vI l5), some (vI l6)] [] M3) ∧ (¬ ((r4 &&& (((1 : Int32) <<< (l6 &&& 31)) - (1 : Int32))) ≠ 0) → R138 sl sx d M0 P 91 [some (vR (some l0)), none, none, none, some (vI l4), some (vI l5), some (vI l6)] [] M3) from ⟨fun hc => ?_, fun hc => ?_⟩)
      · replace h := h.1 hc
        exact RN_weak (K := [some (vR (some l0)), none, none, none, some (vI l4), some (vI l5), some (vI l6)]) (callX_det _) (show _ ∧ _ ∧ _ ∧ _ ∧ True from ⟨rfl, rfl, rfl, rfl, trivial⟩) (t138_94 ih l0 l4 l5 l6 _ hM h)
      · replace h := h.2 hc
        refine RN_k (callX_det _) 1 _ _ _ _ (show R138 sl sx d M0 P 94 [some (vR (some l0)), none, none, none, some (vI l4), some (vI (l5 + (1 : Int32))), some (vI l6)] [] M3 from ?_)
        exact RN_weak (K := [some (vR (some l0)), none, none, none, some (vI l4), some (vI (l5 + (1 : Int32))), some (vI l6)]) (callX_det _) (show _ ∧ _ ∧ _ ∧ _ ∧ True from ⟨rfl, rfl, rfl, rfl, trivial⟩) (t138_94 ih l0 l4 (l5 + (1 : Int32)) l6 _ hM h)
def w138_13 (l0 : Nat) (M : MM) (P : Int32 → MM → Prop) : Prop := kd M l0 9 ∧ w17 l0 (1 : Int32) M (fun r2 M1 => P r2 M1)
theorem t138_13 {sl : Nat} {sx : Nat → Int32} {d : Nat} {M0 : MM} {P : Int32 → MM → Prop} (l0 : Nat) (M : MM) (hM : lenO M0 M) (h : w138_13  l0 M P) : R138 sl sx d M0 P 13 [some (vR (some l0)), none, none, none, none, none, none] [] M := by
  refine RN_k (callX_det _) 3 _ _ _ _ (show kd M l0 9 ∧ callX TBg sl sx (d + 6) 17 [vR (some l0), vI (1 : Int32)] M (fun v M9 => R138 sl sx d M0 P 18 [some (vR (some l0)), none, none, none, none, none, none] (pushO v []) M9) from ⟨h.1, ?_⟩)
  replace h := h.2
  refine callX_mono (callX_len (d := (d + 6)) rfl rfl rfl (c17 (d := d + 5) h)) ?_
  clear h
  rintro v9 M1 ⟨hl, r2, rfl, h⟩
  replace hM := lenT hM hl
  show R138 sl sx d M0 P 18 [some (vR (some l0)), none, none, none, none, none, none] [vI r2] M1
  exact RN_k (callX_det _) 1 _ _ _ _ (show rtW q138 M0 (PI P) (some (vI r2)) M1 from ⟨⟨_, rfl⟩, hM.1, hM.2, _, rfl, h⟩)
def w138 (l0 : Nat) (l1 : Int32) (l2 : Int32) (l3 : Int32) (M : MM) (P : Int32 → MM → Prop) : Prop := w74 l2 l3 M (fun r2 M1 => (r2 = 0 → (w138_13  l0 M1 P)) ∧ (¬ (r2 = 0) → (((-1 : Int32) ≤ l1 → (kd M1 l0 9 ∧ ((l1 < (mI M1 l0 6) → (kd M1 l0 9 ∧ w139 l0 l2 l3 M1 (fun r4 M3 => (l1 = (-1 : Int32) → (∃ n2, w138_64  n2 l0 r4 (0 : Int32) (0 : Int32) M3 P)) ∧ (¬ (l1 = (-1 : Int32)) → (kd M3 l0 9 ∧ w140 l0 l1 r4 M3 (fun r6 M5 => kd M5 l0 9 ∧ w35 l0 r6 M5 (fun r8 M7 => P r8 M7))))))) ∧ (¬ (l1 < (mI M1 l0 6)) → (kd M1 l0 9 ∧ w17 l0 (2 : Int32) M1 (fun r10 M9 => P r10 M9)))))) ∧ (¬ ((-1 : Int32) ≤ l1) → (w138_13  l0 M1 P)))))
theorem t138_E {sl : Nat} {sx : Nat → Int32} {d : Nat} {M0 : MM} {P : Int32 → MM → Prop} (l0 : Nat) (l1 : Int32) (l2 : Int32) (l3 : Int32) (M : MM) (hM : lenO M0 M) (h : w138  l0 l1 l2 l3 M P) : R138 sl sx d M0 P 0 [some (vR (some l0)), some (vI l1), some (vI l2), some (vI l3), none, none, none] [] M := by
  refine RN_k (callX_det _) 3 _ _ _ _ (show callX TBg sl sx (d + 6) 74 [vI l2, vI l3] M (fun v M9 => R138 sl sx d M0 P 5 [some (vR (some l0)), some (vI l1), some (vI l2), some (vI l3), none, none, none] (pushO v []) M9) from ?_)
  refine callX_mono (callX_len (d := (d + 6)) rfl rfl rfl (c74 (d := d + 5) h)) ?_
  clear h
  rintro v9 M1 ⟨hl, r2, rfl, h⟩
  replace hM := lenT hM hl
  show R138 sl sx d M0 P 5 [some (vR (some l0)), some (vI l1), some (vI l2), some (vI l3), none, none, none] [vI r2] M1
  refine RN_k (callX_det _) 1 _ _ _ _ (show (r2 = 0 → R138 sl sx d M0 P 13 [some (vR (some l0)), some (vI l1), some (vI l2), some (vI l3), none, none, none] [] M1) ∧ (¬ (r2 = 0) → R138 sl sx d M0 P 8 [some (vR (some l0)), some (vI l1), some (vI l2), some (vI l3), none, none, none] [] M1) from ⟨fun hc => ?_, fun hc => ?_⟩)
  · replace h := h.1 hc
    exact RN_weak (K := [some (vR (some l0)), none, none, none, none, none, none]) (callX_det _) (show _ ∧ True from ⟨rfl, trivial⟩) (t138_13  l0 _ hM h)
  · replace h := h.2 hc
    refine RN_k (callX_det _) 3 _ _ _ _ (show ((-1 : Int32) ≤ l1 → R138 sl sx d M0 P 19 [some (vR (some l0)), some (vI l1), some (vI l2), some (vI l3), none, none, none] [] M1) ∧ (¬ ((-1 : Int32) ≤ l1) → R138 sl sx d M0 P 13 [some (vR (some l0)), some (vI l1), some (vI l2), some (vI l3), none, none, none] [] M1) from ⟨fun hc => ?_, fun hc => ?_⟩)
    · replace h := h.1 hc
      refine RN_k (callX_det _) 3 _ _ _ _ (show kd M1 l0 9 ∧ R138 sl sx d M0 P 24 [some (vR (some l0)), some (vI l1), some (vI l2), some (vI l3), none, none, none] [vI (mI M1 l0 6), vI l1] M1 from ⟨h.1, ?_⟩)
      replace h := h.2
      refine RN_k (callX_det _) 1 _ _ _ _ (show (l1 < (mI M1 l0 6) → R138 sl sx d M0 P 33 [some (vR (some l0)), some (vI l1), some (vI l2), some (vI l3), none, none, none] [] M1) ∧ (¬ (l1 < (mI M1 l0 6)) → R138 sl sx d M0 P 27 [some (vR (some l0)), some (vI l1), some (vI l2), some (vI l3), none, none, none] [] M1) from ⟨fun hc => ?_, fun hc => ?_⟩)
      · replace h := h.1 hc
        refine RN_k (callX_det _) 4 _ _ _ _ (show kd M1 l0 9 ∧ callX TBg sl sx (d + 6) 139 [vR (some l0), vI l2, vI l3] M1 (fun v M9 => R138 sl sx d M0 P 39 [some (vR (some l0)), some (vI l1), some (vI l2), some (vI l3), none, none, none] (pushO v []) M9) from ⟨h.1, ?_⟩)
        replace h := h.2
        refine callX_mono (callX_len (d := (d + 6)) rfl rfl rfl (c139 (d := d) h)) ?_
        clear h
        rintro v9 M3 ⟨hl, r4, rfl, h⟩
        replace hM := lenT hM hl
        show R138 sl sx d M0 P 39 [some (vR (some l0)), some (vI l1), some (vI l2), some (vI l3), none, none, none] [vI r4] M3
        refine RN_k (callX_det _) 4 _ _ _ _ (show (l1 = (-1 : Int32) → R138 sl sx d M0 P 58 [some (vR (some l0)), some (vI l1), some (vI l2), some (vI l3), some (vI r4), none, none] [] M3) ∧ (¬ (l1 = (-1 : Int32)) → R138 sl sx d M0 P 46 [some (vR (some l0)), some (vI l1), some (vI l2), some (vI l3), some (vI r4), none, none] [] M3) from ⟨fun hc => ?_, fun hc => ?_⟩)
        · replace h := h.1 hc
          refine RN_k (callX_det _) 4 _ _ _ _ (show R138 sl sx d M0 P 64 [some (vR (some l0)), some (vI l1), some (vI l2), some (vI l3), some (vI r4), some (vI (0 : Int32)), some (vI (0 : Int32))] [] M3 from ?_)
          obtain ⟨n2, h⟩ := h
          exact RN_weak (K := [some (vR (some l0)), none, none, none, some (vI r4), some (vI (0 : Int32)), some (vI (0 : Int32))]) (callX_det _) (show _ ∧ _ ∧ _ ∧ _ ∧ True from ⟨rfl, rfl, rfl, rfl, trivial⟩) (t138_64  n2 l0 r4 (0 : Int32) (0 : Int32) _ hM h)
        · replace h := h.2 hc
          refine RN_k (callX_det _) 5 _ _ _ _ (show kd M3 l0 9 ∧ callX TBg sl sx (d + 6) 140 [vR (some l0), vI l1, vI r4] M3 (fun v M9 => R138 sl sx d M0 P 54 [some (vR (some l0)), some (vI l1), some (vI l2), some (vI l3), some (vI r4), none, none] (pushO v [vR (some l0)]) M9) from ⟨h.1, ?_⟩)
          replace h := h.2
          refine callX_mono (callX_len (d := (d + 6)) rfl rfl rfl (c140 (d := d + 5) h)) ?_
          clear h
          rintro v9 M5 ⟨hl, r6, rfl, h⟩
          replace hM := lenT hM hl
          show R138 sl sx d M0 P 54 [some (vR (some l0)), some (vI l1), some (vI l2), some (vI l3), some (vI r4), none, none] [vI r6, vR (some l0)] M5
          refine RN_k (callX_det _) 1 _ _ _ _ (show kd M5 l0 9 ∧ callX TBg sl sx (d + 6) 35 [vR (some l0), vI r6] M5 (fun v M9 => R138 sl sx d M0 P 57 [some (vR (some l0)), some (vI l1), some (vI l2), some (vI l3), some (vI r4), none, none] (pushO v []) M9) from ⟨h.1, ?_⟩)
          replace h := h.2
          refine callX_mono (callX_len (d := (d + 6)) rfl rfl rfl (c35 (d := d + 5) h)) ?_
          clear h
          rintro v9 M7 ⟨hl, r8, rfl, h⟩
          replace hM := lenT hM hl
          show R138 sl sx d M0 P 57 [some (vR (some l0)), some (vI l1), some (vI l2), some (vI l3), some (vI r4), none, none] [vI r8] M7
          exact RN_k (callX_det _) 1 _ _ _ _ (show rtW q138 M0 (PI P) (some (vI r8)) M7 from ⟨⟨_, rfl⟩, hM.1, hM.2, _, rfl, h⟩)
      · replace h := h.2 hc
        refine RN_k (callX_det _) 3 _ _ _ _ (show kd M1 l0 9 ∧ callX TBg sl sx (d + 6) 17 [vR (some l0), vI (2 : Int32)] M1 (fun v M9 => R138 sl sx d M0 P 32 [some (vR (some l0)), some (vI l1), some (vI l2), some (vI l3), none, none, none] (pushO v []) M9) from ⟨h.1, ?_⟩)
        replace h := h.2
        refine callX_mono (callX_len (d := (d + 6)) rfl rfl rfl (c17 (d := d + 5) h)) ?_
        clear h
        rintro v9 M9 ⟨hl, r10, rfl, h⟩
        replace hM := lenT hM hl
        show R138 sl sx d M0 P 32 [some (vR (some l0)), some (vI l1), some (vI l2), some (vI l3), none, none, none] [vI r10] M9
        exact RN_k (callX_det _) 1 _ _ _ _ (show rtW q138 M0 (PI P) (some (vI r10)) M9 from ⟨⟨_, rfl⟩, hM.1, hM.2, _, rfl, h⟩)
    · replace h := h.2 hc
      exact RN_weak (K := [some (vR (some l0)), none, none, none, none, none, none]) (callX_det _) (show _ ∧ True from ⟨rfl, trivial⟩) (t138_13  l0 _ hM h)
theorem c138 {sl : Nat} {sx : Nat → Int32} {d : Nat} {l0 : Nat} {l1 : Int32} {l2 : Int32} {l3 : Int32} {M : MM} {P : Int32 → MM → Prop} (h : w138 l0 l1 l2 l3 M P) : callX TBg sl sx (d + 7) 138 [vR (some l0), vI l1, vI l2, vI l3] M (PI P) :=
  cX (d := d + 6) q138 (false, tb138) rfl rfl rfl (t138_E l0 l1 l2 l3 M lenR h)
-- TwoLeash$Track.copyWithout(LTwoLeash$Track;I)V
abbrev q142 : MQ7 := (3, 1, 4, 8, 0, 0, 0)
abbrev R142 (sl : Nat) (sx : Nat → Int32) (d : Nat) (M0 : MM) (P : MM → Prop) : Nat → LL → List VV → MM → Prop := RN 8 false (mS M0).length (mT M0) 0 0 sl sx (callX TBg sl sx (d + 1)) (rtW q142 M0 (PV P)) (as2 tb142)
def w142_39 (k10 : Nat → Option Nat → Int32 → Int32 → MM → Prop) (l0 : Nat) (l1 : Option Nat) (l2 : Int32) (l3 : Int32) (M : MM) (P : MM → Prop) : Prop := k10 l0 l1 l2 (l3 + (1 : Int32)) M
theorem t142_39 {sl : Nat} {sx : Nat → Int32} {d : Nat} {M0 : MM} {P : MM → Prop} {k10 : Nat → Option Nat → Int32 → Int32 → MM → Prop} (hk10 : ∀ (l0 : Nat) (l1 : Option Nat) (l2 : Int32) (l3 : Int32) (M : MM), lenO M0 M → k10 l0 l1 l2 l3 M → R142 sl sx d M0 P 10 [some (vR (some l0)), some (vR l1), some (vI l2), some (vI l3)] [] M) (l0 : Nat) (l1 : Option Nat) (l2 : Int32) (l3 : Int32) (M : MM) (hM : lenO M0 M) (h : w142_39 k10 l0 l1 l2 l3 M P) : R142 sl sx d M0 P 39 [some (vR (some l0)), some (vR l1), some (vI l2), some (vI l3)] [] M := by
  refine RN_k (callX_det _) 2 _ _ _ _ (show R142 sl sx d M0 P 10 [some (vR (some l0)), some (vR l1), some (vI l2), some (vI (l3 + (1 : Int32)))] [] M from ?_)
  exact RN_weak (K := [some (vR (some l0)), some (vR l1), some (vI l2), some (vI (l3 + (1 : Int32)))]) (callX_det _) (show _ ∧ _ ∧ _ ∧ _ ∧ True from ⟨rfl, rfl, rfl, rfl, trivial⟩) (hk10 l0 l1 l2 (l3 + (1 : Int32)) _ hM h)
def w142_10 : Nat → Nat → Option Nat → Int32 → Int32 → MM → (MM → Prop) → Prop
  | 0 => fun _ _ _ _ _ _ => False
  | n + 1 => fun l0 l1 l2 l3 M P => ∃ a1, l1 = some a1 ∧ (kd M a1 8 ∧ (((mI M a1 1) ≤ l3 → (P M)) ∧ (¬ ((mI M a1 1) ≤ l3) → ((l3 = l2 → (w142_39 (fun z0 z1 z2 z3 z4 => w142_10  n z0 z1 z2 z3 z4 P) l0 (some a1) l2 l3 M P)) ∧ (¬ (l3 = l2) → (kd M a1 8 ∧ (∃ a2, mR M a1 2 = some a2 ∧ (inb M a2 11 l3 ∧ (kd M a1 8 ∧ (∃ a3, mR M a1 3 = some a3 ∧ (inb M a3 11 l3 ∧ (kd M l0 8 ∧ w29 l0 (mI M a2 l3.toNatClampNeg) (mI M a3 l3.toNatClampNeg) M (fun M4 => w142_39 (fun z0 z1 z2 z3 z4 => w142_10  n z0 z1 z2 z3 z4 P) l0 (some a1) l2 l3 M4 P)))))))))))))
theorem t142_10 {sl : Nat} {sx : Nat → Int32} {d : Nat} {M0 : MM} {P : MM → Prop} (n : Nat) : ∀ (l0 : Nat) (l1 : Option Nat) (l2 : Int32) (l3 : Int32) (M : MM) (_ : lenO M0 M) (_ : w142_10  n l0 l1 l2 l3 M P), R142 sl sx d M0 P 10 [some (vR (some l0)), some (vR l1), some (vI l2), some (vI l3)] [] M := by
  induction n with
  | zero => intro l0 l1 l2 l3 M hM h; cases h
  | succ n ih =>
    intro l0 l1 l2 l3 M hM h
    obtain ⟨a1, he, h⟩ := h
    refine RN_k (callX_det _) 2 _ _ _ _ (show R142 sl sx d M0 P 12 [some (vR (some l0)), some (vR l1), some (vI l2), some (vI l3)] [vR l1, vI l3] M from ?_)
    subst he
    refine RN_k (callX_det _) 1 _ _ _ _ (show kd M a1 8 ∧ R142 sl sx d M0 P 15 [some (vR (some l0)), some (vR (some a1)), some (vI l2), some (vI l3)] [vI (mI M a1 1), vI l3] M from ⟨h.1, ?_⟩)
    replace h := h.2
    refine RN_k (callX_det _) 1 _ _ _ _ (show ((mI M a1 1) ≤ l3 → R142 sl sx d M0 P 45 [some (vR (some l0)), some (vR (some a1)), some (vI l2), some (vI l3)] [] M) ∧ (¬ ((mI M a1 1) ≤ l3) → R142 sl sx d M0 P 18 [some (vR (some l0)), some (vR (some a1)), some (vI l2), some (vI l3)] [] M) from ⟨fun hc => ?_, fun hc => ?_⟩)
    · replace h := h.1 hc
      exact RN_k (callX_det _) 1 _ _ _ _ (show rtW q142 M0 (PV P) none M from ⟨rfl, hM.1, hM.2, rfl, h⟩)
    · replace h := h.2 hc
      refine RN_k (callX_det _) 3 _ _ _ _ (show (l3 = l2 → R142 sl sx d M0 P 39 [some (vR (some l0)), some (vR (some a1)), some (vI l2), some (vI l3)] [] M) ∧ (¬ (l3 = l2) → R142 sl sx d M0 P 23 [some (vR (some l0)), some (vR (some a1)), some (vI l2), some (vI l3)] [] M) from ⟨fun hc => ?_, fun hc => ?_⟩)
      · replace h := h.1 hc
        exact RN_weak (K := [some (vR (some l0)), some (vR (some a1)), some (vI l2), some (vI l3)]) (callX_det _) (show _ ∧ _ ∧ _ ∧ _ ∧ True from ⟨rfl, rfl, rfl, rfl, trivial⟩) (t142_39 ih l0 (some a1) l2 l3 _ hM h)
      · replace h := h.2 hc
        refine RN_k (callX_det _) 3 _ _ _ _ (show kd M a1 8 ∧ R142 sl sx d M0 P 28 [some (vR (some l0)), some (vR (some a1)), some (vI l2), some (vI l3)] [vR (mR M a1 2), vR (some l0)] M from ⟨h.1, ?_⟩)
        replace h := h.2
        obtain ⟨a2, he, h⟩ := h
        refine RN_k (callX_det _) 1 _ _ _ _ (show R142 sl sx d M0 P 29 [some (vR (some l0)), some (vR (some a1)), some (vI l2), some (vI l3)] [vI l3, vR (mR M a1 2), vR (some l0)] M from ?_)
        rw [he]
        refine RN_k (callX_det _) 1 _ _ _ _ (show inb M a2 11 l3 ∧ R142 sl sx d M0 P 30 [some (vR (some l0)), some (vR (some a1)), some (vI l2), some (vI l3)] [vI (mI M a2 l3.toNatClampNeg), vR (some l0)] M from ⟨h.1, ?_⟩)
        replace h := h.2
        refine RN_k (callX_det _) 2 _ _ _ _ (show kd M a1 8 ∧ R142 sl sx d M0 P 34 [some (vR (some l0)), some (vR (some a1)), some (vI l2), some (vI l3)] [vR (mR M a1 3), vI (mI M a2 l3.toNatClampNeg), vR (some l0)] M from ⟨h.1, ?_⟩)
        replace h := h.2
        obtain ⟨a3, he, h⟩ := h
        refine RN_k (callX_det _) 1 _ _ _ _ (show R142 sl sx d M0 P 35 [some (vR (some l0)), some (vR (some a1)), some (vI l2), some (vI l3)] [vI l3, vR (mR M a1 3), vI (mI M a2 l3.toNatClampNeg), vR (some l0)] M from ?_)
        rw [he]
        refine RN_k (callX_det _) 1 _ _ _ _ (show inb M a3 11 l3 ∧ R142 sl sx d M0 P 36 [some (vR (some l0)), some (vR (some a1)), some (vI l2), some (vI l3)] [vI (mI M a3 l3.toNatClampNeg), vI (mI M a2 l3.toNatClampNeg), vR (some l0)] M from ⟨h.1, ?_⟩)
        replace h := h.2
        refine RN_k (callX_det _) 1 _ _ _ _ (show kd M l0 8 ∧ callX TBg sl sx (d + 1) 29 [vR (some l0), vI (mI M a2 l3.toNatClampNeg), vI (mI M a3 l3.toNatClampNeg)] M (fun v M9 => R142 sl sx d M0 P 39 [some (vR (some l0)), some (vR (some a1)), some (vI l2), some (vI l3)] (pushO v []) M9) from ⟨h.1, ?_⟩)
        replace h := h.2
        refine callX_mono (callX_len (d := (d + 1)) rfl rfl rfl (c29 (d := d) h)) ?_
        clear h
        rintro v9 M4 ⟨hl, rfl, h⟩
        replace hM := lenT hM hl
        show R142 sl sx d M0 P 39 [some (vR (some l0)), some (vR (some a1)), some (vI l2), some (vI l3)] [] M4
        exact RN_weak (K := [some (vR (some l0)), some (vR (some a1)), some (vI l2), some (vI l3)]) (callX_det _) (show _ ∧ _ ∧ _ ∧ _ ∧ True from ⟨rfl, rfl, rfl, rfl, trivial⟩) (t142_39 ih l0 (some a1) l2 l3 _ hM h)
def w142 (l0 : Nat) (l1 : Option Nat) (l2 : Int32) (M : MM) (P : MM → Prop) : Prop := ∃ a1, l1 = some a1 ∧ (kd M a1 8 ∧ (kd M l0 8 ∧ w25 l0 (mL M a1 0) M (fun M2 => ∃ n2, w142_10  n2 l0 (some a1) l2 (0 : Int32) M2 P)))
theorem t142_E {sl : Nat} {sx : Nat → Int32} {d : Nat} {M0 : MM} {P : MM → Prop} (l0 : Nat) (l1 : Option Nat) (l2 : Int32) (M : MM) (hM : lenO M0 M) (h : w142  l0 l1 l2 M P) : R142 sl sx d M0 P 0 [some (vR (some l0)), some (vR l1), some (vI l2), none] [] M := by
  obtain ⟨a1, he, h⟩ := h
  refine RN_k (callX_det _) 2 _ _ _ _ (show R142 sl sx d M0 P 2 [some (vR (some l0)), some (vR l1), some (vI l2), none] [vR l1, vR (some l0)] M from ?_)
  subst he
  refine RN_k (callX_det _) 1 _ _ _ _ (show kd M a1 8 ∧ R142 sl sx d M0 P 5 [some (vR (some l0)), some (vR (some a1)), some (vI l2), none] [vL (mL M a1 0), vR (some l0)] M from ⟨h.1, ?_⟩)
  replace h := h.2
  refine RN_k (callX_det _) 1 _ _ _ _ (show kd M l0 8 ∧ callX TBg sl sx (d + 1) 25 [vR (some l0), vL (mL M a1 0)] M (fun v M9 => R142 sl sx d M0 P 8 [some (vR (some l0)), some (vR (some a1)), some (vI l2), none] (pushO v []) M9) from ⟨h.1, ?_⟩)
  replace h := h.2
  refine callX_mono (callX_len (d := (d + 1)) rfl rfl rfl (c25 (d := d) h)) ?_
  clear h
  rintro v9 M2 ⟨hl, rfl, h⟩
  replace hM := lenT hM hl
  show R142 sl sx d M0 P 8 [some (vR (some l0)), some (vR (some a1)), some (vI l2), none] [] M2
  refine RN_k (callX_det _) 2 _ _ _ _ (show R142 sl sx d M0 P 10 [some (vR (some l0)), some (vR (some a1)), some (vI l2), some (vI (0 : Int32))] [] M2 from ?_)
  obtain ⟨n2, h⟩ := h
  exact RN_weak (K := [some (vR (some l0)), some (vR (some a1)), some (vI l2), some (vI (0 : Int32))]) (callX_det _) (show _ ∧ _ ∧ _ ∧ _ ∧ True from ⟨rfl, rfl, rfl, rfl, trivial⟩) (t142_10  n2 l0 (some a1) l2 (0 : Int32) _ hM h)
theorem c142 {sl : Nat} {sx : Nat → Int32} {d : Nat} {l0 : Nat} {l1 : Option Nat} {l2 : Int32} {M : MM} {P : MM → Prop} (h : w142 l0 l1 l2 M P) : callX TBg sl sx (d + 2) 142 [vR (some l0), vR l1, vI l2] M (PV P) :=
  cX (d := d + 1) q142 (false, tb142) rfl rfl rfl (t142_E l0 l1 l2 M lenR h)
-- TwoLeash.without(III)Z
abbrev q141 : MQ7 := (4, 1, 5, 9, 0, 0, 4)
abbrev R141 (sl : Nat) (sx : Nat → Int32) (d : Nat) (M0 : MM) (P : Int32 → MM → Prop) : Nat → LL → List VV → MM → Prop := RN 9 false (mS M0).length (mT M0) 0 0 sl sx (callX TBg sl sx (d + 5)) (rtW q141 M0 (PI P)) (as2 tb141)
def w141_65 (l0 : Nat) (M : MM) (P : Int32 → MM → Prop) : Prop := kd M l0 9 ∧ w48 l0 (5 : Int32) M (fun r2 M1 => (r2 = 0 ∨ r2 = 1) ∧ P r2 M1)
theorem t141_65 {sl : Nat} {sx : Nat → Int32} {d : Nat} {M0 : MM} {P : Int32 → MM → Prop} (l0 : Nat) (M : MM) (hM : lenO M0 M) (h : w141_65  l0 M P) : R141 sl sx d M0 P 65 [some (vR (some l0)), none, none, none, none] [] M := by
  refine RN_k (callX_det _) 3 _ _ _ _ (show kd M l0 9 ∧ callX TBg sl sx (d + 5) 48 [vR (some l0), vI (5 : Int32)] M (fun v M9 => R141 sl sx d M0 P 70 [some (vR (some l0)), none, none, none, none] (pushO v []) M9) from ⟨h.1, ?_⟩)
  replace h := h.2
  refine callX_mono (callX_len (d := (d + 5)) rfl rfl rfl (c48 (d := d + 4) h)) ?_
  clear h
  rintro v9 M1 ⟨hl, r2, rfl, h⟩
  replace hM := lenT hM hl
  show R141 sl sx d M0 P 70 [some (vR (some l0)), none, none, none, none] [vI r2] M1
  exact RN_k (callX_det _) 1 _ _ _ _ (show rtW q141 M0 (PI P) (some (vI r2)) M1 from ⟨⟨_, rfl, h.1⟩, hM.1, hM.2, _, rfl, h.2⟩)
def w141_17 (l0 : Nat) (M : MM) (P : Int32 → MM → Prop) : Prop := kd M l0 9 ∧ w48 l0 (2 : Int32) M (fun r2 M1 => (r2 = 0 ∨ r2 = 1) ∧ P r2 M1)
theorem t141_17 {sl : Nat} {sx : Nat → Int32} {d : Nat} {M0 : MM} {P : Int32 → MM → Prop} (l0 : Nat) (M : MM) (hM : lenO M0 M) (h : w141_17  l0 M P) : R141 sl sx d M0 P 17 [some (vR (some l0)), none, none, none, none] [] M := by
  refine RN_k (callX_det _) 3 _ _ _ _ (show kd M l0 9 ∧ callX TBg sl sx (d + 5) 48 [vR (some l0), vI (2 : Int32)] M (fun v M9 => R141 sl sx d M0 P 22 [some (vR (some l0)), none, none, none, none] (pushO v []) M9) from ⟨h.1, ?_⟩)
  replace h := h.2
  refine callX_mono (callX_len (d := (d + 5)) rfl rfl rfl (c48 (d := d + 4) h)) ?_
  clear h
  rintro v9 M1 ⟨hl, r2, rfl, h⟩
  replace hM := lenT hM hl
  show R141 sl sx d M0 P 22 [some (vR (some l0)), none, none, none, none] [vI r2] M1
  exact RN_k (callX_det _) 1 _ _ _ _ (show rtW q141 M0 (PI P) (some (vI r2)) M1 from ⟨⟨_, rfl, h.1⟩, hM.1, hM.2, _, rfl, h.2⟩)
def w141 (l0 : Nat) (l1 : Int32) (l2 : Int32) (l3 : Int32) (M : MM) (P : Int32 → MM → Prop) : Prop := kd M l0 9 ∧ w45 l0 l1 l2 M (fun r2 M1 => (r2 = 0 → (w141_17  l0 M1 P)) ∧ (¬ (r2 = 0) → (kd M1 l0 9 ∧ w40 l0 l3 M1 (fun r4 M3 => (r4 ≠ 0 → ((l1 ≠ l3 → (kd M3 l0 9 ∧ (∃ a5, mR M3 l0 5 = some a5 ∧ (inb M3 a5 16 l1 ∧ (∃ a6, mR M3 a5 l1.toNatClampNeg = some a6 ∧ (kd M3 a6 8 ∧ (((mI M3 a6 1) ≤ (2 : Int32) → (w141_65  l0 M3 P)) ∧ (¬ ((mI M3 a6 1) ≤ (2 : Int32)) → (kd M3 a6 8 ∧ w128 a6 (l2 - (1 : Int32)) (l2 + (1 : Int32)) M3 (fun r8 M7 => (r8 = 0 → (kd M7 l0 9 ∧ (∃ a9, mR M7 l0 17 = some a9 ∧ (kd M7 a9 8 ∧ w142 a9 (some a6) l2 M7 (fun M10 => kd M10 l0 9 ∧ (kd M10 l0 9 ∧ (kd M10 l0 9 ∧ (∃ a11, mR M10 l0 5 = some a11 ∧ (inb M10 a11 16 l3 ∧ (kd M10 l0 9 ∧ (∃ a12, mR M10 l0 15 = some a12 ∧ (kd M10 a12 5 ∧ w106 a12 (mR M10 l0 17) (mR M10 a11 l3.toNatClampNeg) (0 : Int32) (mR M10 l0 12) M10 (fun M13 => kd M13 l0 9 ∧ (kd M13 l0 9 ∧ w55 l0 (mR M13 l0 12) M13 (fun r15 M14 => (r15 = 0 ∨ r15 = 1) ∧ P r15 M14))))))))))))))) ∧ (¬ (r8 = 0) → (w141_65  l0 M7 P)))))))))))) ∧ (¬ (l1 ≠ l3) → (kd M3 l0 9 ∧ w48 l0 (4 : Int32) M3 (fun r17 M16 => (r17 = 0 ∨ r17 = 1) ∧ P r17 M16))))) ∧ (¬ (r4 ≠ 0) → (w141_17  l0 M3 P))))))
theorem t141_E {sl : Nat} {sx : Nat → Int32} {d : Nat} {M0 : MM} {P : Int32 → MM → Prop} (l0 : Nat) (l1 : Int32) (l2 : Int32) (l3 : Int32) (M : MM) (hM : lenO M0 M) (h : w141  l0 l1 l2 l3 M P) : R141 sl sx d M0 P 0 [some (vR (some l0)), some (vI l1), some (vI l2), some (vI l3), none] [] M := by
  refine RN_k (callX_det _) 4 _ _ _ _ (show kd M l0 9 ∧ callX TBg sl sx (d + 5) 45 [vR (some l0), vI l1, vI l2] M (fun v M9 => R141 sl sx d M0 P 6 [some (vR (some l0)), some (vI l1), some (vI l2), some (vI l3), none] (pushO v []) M9) from ⟨h.1, ?_⟩)
  replace h := h.2
  refine callX_mono (callX_len (d := (d + 5)) rfl rfl rfl (c45 (d := d + 3) h)) ?_
  clear h
  rintro v9 M1 ⟨hl, r2, rfl, h⟩
  replace hM := lenT hM hl
  show R141 sl sx d M0 P 6 [some (vR (some l0)), some (vI l1), some (vI l2), some (vI l3), none] [vI r2] M1
  refine RN_k (callX_det _) 1 _ _ _ _ (show (r2 = 0 → R141 sl sx d M0 P 17 [some (vR (some l0)), some (vI l1), some (vI l2), some (vI l3), none] [] M1) ∧ (¬ (r2 = 0) → R141 sl sx d M0 P 9 [some (vR (some l0)), some (vI l1), some (vI l2), some (vI l3), none] [] M1) from ⟨fun hc => ?_, fun hc => ?_⟩)
  · replace h := h.1 hc
    exact RN_weak (K := [some (vR (some l0)), none, none, none, none]) (callX_det _) (show _ ∧ True from ⟨rfl, trivial⟩) (t141_17  l0 _ hM h)
  · replace h := h.2 hc
    refine RN_k (callX_det _) 3 _ _ _ _ (show kd M1 l0 9 ∧ callX TBg sl sx (d + 5) 40 [vR (some l0), vI l3] M1 (fun v M9 => R141 sl sx d M0 P 14 [some (vR (some l0)), some (vI l1), some (vI l2), some (vI l3), none] (pushO v []) M9) from ⟨h.1, ?_⟩)
    replace h := h.2
    refine callX_mono (callX_len (d := (d + 5)) rfl rfl rfl (c40 (d := d + 4) h)) ?_
    clear h
    rintro v9 M3 ⟨hl, r4, rfl, h⟩
    replace hM := lenT hM hl
    show R141 sl sx d M0 P 14 [some (vR (some l0)), some (vI l1), some (vI l2), some (vI l3), none] [vI r4] M3
    refine RN_k (callX_det _) 1 _ _ _ _ (show (r4 ≠ 0 → R141 sl sx d M0 P 23 [some (vR (some l0)), some (vI l1), some (vI l2), some (vI l3), none] [] M3) ∧ (¬ (r4 ≠ 0) → R141 sl sx d M0 P 17 [some (vR (some l0)), some (vI l1), some (vI l2), some (vI l3), none] [] M3) from ⟨fun hc => ?_, fun hc => ?_⟩)
    · replace h := h.1 hc
      refine RN_k (callX_det _) 3 _ _ _ _ (show (l1 ≠ l3 → R141 sl sx d M0 P 34 [some (vR (some l0)), some (vI l1), some (vI l2), some (vI l3), none] [] M3) ∧ (¬ (l1 ≠ l3) → R141 sl sx d M0 P 28 [some (vR (some l0)), some (vI l1), some (vI l2), some (vI l3), none] [] M3) from ⟨fun hc => ?_, fun hc => ?_⟩)
      · replace h := h.1 hc
        refine RN_k (callX_det _) 2 _ _ _ _ (show kd M3 l0 9 ∧ R141 sl sx d M0 P 38 [some (vR (some l0)), some (vI l1), some (vI l2), some (vI l3), none] [vR (mR M3 l0 5)] M3 from ⟨h.1, ?_⟩)
        replace h := h.2
        obtain ⟨a5, he, h⟩ := h
        refine RN_k (callX_det _) 1 _ _ _ _ (show R141 sl sx d M0 P 39 [some (vR (some l0)), some (vI l1), some (vI l2), some (vI l3), none] [vI l1, vR (mR M3 l0 5)] M3 from ?_)
        rw [he]
        refine RN_k (callX_det _) 1 _ _ _ _ (show inb M3 a5 16 l1 ∧ R141 sl sx d M0 P 40 [some (vR (some l0)), some (vI l1), some (vI l2), some (vI l3), none] [vR (mR M3 a5 l1.toNatClampNeg)] M3 from ⟨h.1, ?_⟩)
        replace h := h.2
        obtain ⟨a6, he, h⟩ := h
        refine RN_k (callX_det _) 2 _ _ _ _ (show R141 sl sx d M0 P 44 [some (vR (some l0)), some (vI l1), some (vI l2), some (vI l3), some (vR (mR M3 a5 l1.toNatClampNeg))] [vR (mR M3 a5 l1.toNatClampNeg)] M3 from ?_)
        rw [he]
        refine RN_k (callX_det _) 1 _ _ _ _ (show kd M3 a6 8 ∧ R141 sl sx d M0 P 47 [some (vR (some l0)), some (vI l1), some (vI l2), some (vI l3), some (vR (some a6))] [vI (mI M3 a6 1)] M3 from ⟨h.1, ?_⟩)
        replace h := h.2
        refine RN_k (callX_det _) 2 _ _ _ _ (show ((mI M3 a6 1) ≤ (2 : Int32) → R141 sl sx d M0 P 65 [some (vR (some l0)), some (vI l1), some (vI l2), some (vI l3), some (vR (some a6))] [] M3) ∧ (¬ ((mI M3 a6 1) ≤ (2 : Int32)) → R141 sl sx d M0 P 51 [some (vR (some l0)), some (vI l1), some (vI l2), some (vI l3), some (vR (some a6))] [] M3) from ⟨fun hc => ?_, fun hc => ?_⟩)
        · replace h := h.1 hc
          exact RN_weak (K := [some (vR (some l0)), none, none, none, none]) (callX_det _) (show _ ∧ True from ⟨rfl, trivial⟩) (t141_65  l0 _ hM h)
        · replace h := h.2 hc
          refine RN_k (callX_det _) 8 _ _ _ _ (show kd M3 a6 8 ∧ callX TBg sl sx (d + 5) 128 [vR (some a6), vI (l2 - (1 : Int32)), vI (l2 + (1 : Int32))] M3 (fun v M9 => R141 sl sx d M0 P 62 [some (vR (some l0)), some (vI l1), some (vI l2), some (vI l3), some (vR (some a6))] (pushO v []) M9) from ⟨h.1, ?_⟩)
          replace h := h.2
          refine callX_mono (callX_len (d := (d + 5)) rfl rfl rfl (c128 (d := d + 3) h)) ?_
          clear h
          rintro v9 M7 ⟨hl, r8, rfl, h⟩
          replace hM := lenT hM hl
          show R141 sl sx d M0 P 62 [some (vR (some l0)), some (vI l1), some (vI l2), some (vI l3), some (vR (some a6))] [vI r8] M7
          refine RN_k (callX_det _) 1 _ _ _ _ (show (r8 = 0 → R141 sl sx d M0 P 71 [some (vR (some l0)), some (vI l1), some (vI l2), some (vI l3), some (vR (some a6))] [] M7) ∧ (¬ (r8 = 0) → R141 sl sx d M0 P 65 [some (vR (some l0)), some (vI l1), some (vI l2), some (vI l3), some (vR (some a6))] [] M7) from ⟨fun hc => ?_, fun hc => ?_⟩)
          · replace h := h.1 hc
            refine RN_k (callX_det _) 2 _ _ _ _ (show kd M7 l0 9 ∧ R141 sl sx d M0 P 75 [some (vR (some l0)), some (vI l1), some (vI l2), some (vI l3), some (vR (some a6))] [vR (mR M7 l0 17)] M7 from ⟨h.1, ?_⟩)
            replace h := h.2
            obtain ⟨a9, he, h⟩ := h
            refine RN_k (callX_det _) 2 _ _ _ _ (show R141 sl sx d M0 P 78 [some (vR (some l0)), some (vI l1), some (vI l2), some (vI l3), some (vR (some a6))] [vI l2, vR (some a6), vR (mR M7 l0 17)] M7 from ?_)
            rw [he]
            refine RN_k (callX_det _) 1 _ _ _ _ (show kd M7 a9 8 ∧ callX TBg sl sx (d + 5) 142 [vR (some a9), vR (some a6), vI l2] M7 (fun v M9 => R141 sl sx d M0 P 81 [some (vR (some l0)), some (vI l1), some (vI l2), some (vI l3), some (vR (some a6))] (pushO v []) M9) from ⟨h.1, ?_⟩)
            replace h := h.2
            refine callX_mono (callX_len (d := (d + 5)) rfl rfl rfl (c142 (d := d + 3) h)) ?_
            clear h
            rintro v9 M10 ⟨hl, rfl, h⟩
            replace hM := lenT hM hl
            show R141 sl sx d M0 P 81 [some (vR (some l0)), some (vI l1), some (vI l2), some (vI l3), some (vR (some a6))] [] M10
            refine RN_k (callX_det _) 2 _ _ _ _ (show kd M10 l0 9 ∧ R141 sl sx d M0 P 85 [some (vR (some l0)), some (vI l1), some (vI l2), some (vI l3), some (vR (some a6))] [vR (mR M10 l0 15)] M10 from ⟨h.1, ?_⟩)
            replace h := h.2
            refine RN_k (callX_det _) 2 _ _ _ _ (show kd M10 l0 9 ∧ R141 sl sx d M0 P 89 [some (vR (some l0)), some (vI l1), some (vI l2), some (vI l3), some (vR (some a6))] [vR (mR M10 l0 17), vR (mR M10 l0 15)] M10 from ⟨h.1, ?_⟩)
            replace h := h.2
            refine RN_k (callX_det _) 2 _ _ _ _ (show kd M10 l0 9 ∧ R141 sl sx d M0 P 93 [some (vR (some l0)), some (vI l1), some (vI l2), some (vI l3), some (vR (some a6))] [vR (mR M10 l0 5), vR (mR M10 l0 17), vR (mR M10 l0 15)] M10 from ⟨h.1, ?_⟩)
            replace h := h.2
            obtain ⟨a11, he, h⟩ := h
            refine RN_k (callX_det _) 1 _ _ _ _ (show R141 sl sx d M0 P 94 [some (vR (some l0)), some (vI l1), some (vI l2), some (vI l3), some (vR (some a6))] [vI l3, vR (mR M10 l0 5), vR (mR M10 l0 17), vR (mR M10 l0 15)] M10 from ?_)
            rw [he]
            refine RN_k (callX_det _) 1 _ _ _ _ (show inb M10 a11 16 l3 ∧ R141 sl sx d M0 P 95 [some (vR (some l0)), some (vI l1), some (vI l2), some (vI l3), some (vR (some a6))] [vR (mR M10 a11 l3.toNatClampNeg), vR (mR M10 l0 17), vR (mR M10 l0 15)] M10 from ⟨h.1, ?_⟩)
            replace h := h.2
            refine RN_k (callX_det _) 3 _ _ _ _ (show kd M10 l0 9 ∧ R141 sl sx d M0 P 100 [some (vR (some l0)), some (vI l1), some (vI l2), some (vI l3), some (vR (some a6))] [vR (mR M10 l0 12), vI (0 : Int32), vR (mR M10 a11 l3.toNatClampNeg), vR (mR M10 l0 17), vR (mR M10 l0 15)] M10 from ⟨h.1, ?_⟩)
            replace h := h.2
            obtain ⟨a12, he, h⟩ := h
            rw [he]
            refine RN_k (callX_det _) 1 _ _ _ _ (show kd M10 a12 5 ∧ callX TBg sl sx (d + 5) 106 [vR (some a12), vR (mR M10 l0 17), vR (mR M10 a11 l3.toNatClampNeg), vI (0 : Int32), vR (mR M10 l0 12)] M10 (fun v M9 => R141 sl sx d M0 P 103 [some (vR (some l0)), some (vI l1), some (vI l2), some (vI l3), some (vR (some a6))] (pushO v []) M9) from ⟨h.1, ?_⟩)
            replace h := h.2
            refine callX_mono (callX_len (d := (d + 5)) rfl rfl rfl (c106 (d := d) h)) ?_
            clear h
            rintro v9 M13 ⟨hl, rfl, h⟩
            replace hM := lenT hM hl
            show R141 sl sx d M0 P 103 [some (vR (some l0)), some (vI l1), some (vI l2), some (vI l3), some (vR (some a6))] [] M13
            refine RN_k (callX_det _) 3 _ _ _ _ (show kd M13 l0 9 ∧ R141 sl sx d M0 P 108 [some (vR (some l0)), some (vI l1), some (vI l2), some (vI l3), some (vR (some a6))] [vR (mR M13 l0 12), vR (some l0)] M13 from ⟨h.1, ?_⟩)
            replace h := h.2
            refine RN_k (callX_det _) 1 _ _ _ _ (show kd M13 l0 9 ∧ callX TBg sl sx (d + 5) 55 [vR (some l0), vR (mR M13 l0 12)] M13 (fun v M9 => R141 sl sx d M0 P 111 [some (vR (some l0)), some (vI l1), some (vI l2), some (vI l3), some (vR (some a6))] (pushO v []) M9) from ⟨h.1, ?_⟩)
            replace h := h.2
            refine callX_mono (callX_len (d := (d + 5)) rfl rfl rfl (c55 (d := d + 3) h)) ?_
            clear h
            rintro v9 M14 ⟨hl, r15, rfl, h⟩
            replace hM := lenT hM hl
            show R141 sl sx d M0 P 111 [some (vR (some l0)), some (vI l1), some (vI l2), some (vI l3), some (vR (some a6))] [vI r15] M14
            exact RN_k (callX_det _) 1 _ _ _ _ (show rtW q141 M0 (PI P) (some (vI r15)) M14 from ⟨⟨_, rfl, h.1⟩, hM.1, hM.2, _, rfl, h.2⟩)
          · replace h := h.2 hc
            exact RN_weak (K := [some (vR (some l0)), none, none, none, none]) (callX_det _) (show _ ∧ True from ⟨rfl, trivial⟩) (t141_65  l0 _ hM h)
      · replace h := h.2 hc
        refine RN_k (callX_det _) 3 _ _ _ _ (show kd M3 l0 9 ∧ callX TBg sl sx (d + 5) 48 [vR (some l0), vI (4 : Int32)] M3 (fun v M9 => R141 sl sx d M0 P 33 [some (vR (some l0)), some (vI l1), some (vI l2), some (vI l3), none] (pushO v []) M9) from ⟨h.1, ?_⟩)
        replace h := h.2
        refine callX_mono (callX_len (d := (d + 5)) rfl rfl rfl (c48 (d := d + 4) h)) ?_
        clear h
        rintro v9 M16 ⟨hl, r17, rfl, h⟩
        replace hM := lenT hM hl
        show R141 sl sx d M0 P 33 [some (vR (some l0)), some (vI l1), some (vI l2), some (vI l3), none] [vI r17] M16
        exact RN_k (callX_det _) 1 _ _ _ _ (show rtW q141 M0 (PI P) (some (vI r17)) M16 from ⟨⟨_, rfl, h.1⟩, hM.1, hM.2, _, rfl, h.2⟩)
    · replace h := h.2 hc
      exact RN_weak (K := [some (vR (some l0)), none, none, none, none]) (callX_det _) (show _ ∧ True from ⟨rfl, trivial⟩) (t141_17  l0 _ hM h)
theorem c141 {sl : Nat} {sx : Nat → Int32} {d : Nat} {l0 : Nat} {l1 : Int32} {l2 : Int32} {l3 : Int32} {M : MM} {P : Int32 → MM → Prop} (h : w141 l0 l1 l2 l3 M P) : callX TBg sl sx (d + 6) 141 [vR (some l0), vI l1, vI l2, vI l3] M (PI P) :=
  cX (d := d + 5) q141 (false, tb141) rfl rfl rfl (t141_E l0 l1 l2 l3 M lenR h)
-- TwoLeash$Track.copyTurned(LTwoLeash$Track;)V
abbrev q144 : MQ7 := (2, 1, 3, 8, 0, 0, 0)
abbrev R144 (sl : Nat) (sx : Nat → Int32) (d : Nat) (M0 : MM) (P : MM → Prop) : Nat → LL → List VV → MM → Prop := RN 8 false (mS M0).length (mT M0) 0 0 sl sx (callX TBg sl sx (d + 1)) (rtW q144 M0 (PV P)) (as2 tb144)
def w144_15 : Nat → Nat → Option Nat → Int32 → MM → (MM → Prop) → Prop
  | 0 => fun _ _ _ _ _ => False
  | n + 1 => fun l0 l1 l2 M P => (l2 < 0 → (P M)) ∧ (¬ (l2 < 0) → (∃ a1, l1 = some a1 ∧ (kd M a1 8 ∧ (∃ a2, mR M a1 2 = some a2 ∧ (inb M a2 11 l2 ∧ (kd M a1 8 ∧ (∃ a3, mR M a1 3 = some a3 ∧ (inb M a3 11 l2 ∧ (kd M l0 8 ∧ w29 l0 (mI M a2 l2.toNatClampNeg) (mI M a3 l2.toNatClampNeg) M (fun M4 => w144_15  n l0 (some a1) (l2 + (-1 : Int32)) M4 P))))))))))
theorem t144_15 {sl : Nat} {sx : Nat → Int32} {d : Nat} {M0 : MM} {P : MM → Prop} (n : Nat) : ∀ (l0 : Nat) (l1 : Option Nat) (l2 : Int32) (M : MM) (_ : lenO M0 M) (_ : w144_15  n l0 l1 l2 M P), R144 sl sx d M0 P 15 [some (vR (some l0)), some (vR l1), some (vI l2)] [] M := by
  induction n with
  | zero => intro l0 l1 l2 M hM h; cases h
  | succ n ih =>
    intro l0 l1 l2 M hM h
    refine RN_k (callX_det _) 2 _ _ _ _ (show (l2 < 0 → R144 sl sx d M0 P 41 [some (vR (some l0)), some (vR l1), some (vI l2)] [] M) ∧ (¬ (l2 < 0) → R144 sl sx d M0 P 19 [some (vR (some l0)), some (vR l1), some (vI l2)] [] M) from ⟨fun hc => ?_, fun hc => ?_⟩)
    · replace h := h.1 hc
      exact RN_k (callX_det _) 1 _ _ _ _ (show rtW q144 M0 (PV P) none M from ⟨rfl, hM.1, hM.2, rfl, h⟩)
    · replace h := h.2 hc
      obtain ⟨a1, he, h⟩ := h
      refine RN_k (callX_det _) 2 _ _ _ _ (show R144 sl sx d M0 P 21 [some (vR (some l0)), some (vR l1), some (vI l2)] [vR l1, vR (some l0)] M from ?_)
      subst he
      refine RN_k (callX_det _) 1 _ _ _ _ (show kd M a1 8 ∧ R144 sl sx d M0 P 24 [some (vR (some l0)), some (vR (some a1)), some (vI l2)] [vR (mR M a1 2), vR (some l0)] M from ⟨h.1, ?_⟩)
      replace h := h.2
      obtain ⟨a2, he, h⟩ := h
      refine RN_k (callX_det _) 1 _ _ _ _ (show R144 sl sx d M0 P 25 [some (vR (some l0)), some (vR (some a1)), some (vI l2)] [vI l2, vR (mR M a1 2), vR (some l0)] M from ?_)
      rw [he]
      refine RN_k (callX_det _) 1 _ _ _ _ (show inb M a2 11 l2 ∧ R144 sl sx d M0 P 26 [some (vR (some l0)), some (vR (some a1)), some (vI l2)] [vI (mI M a2 l2.toNatClampNeg), vR (some l0)] M from ⟨h.1, ?_⟩)
      replace h := h.2
      refine RN_k (callX_det _) 2 _ _ _ _ (show kd M a1 8 ∧ R144 sl sx d M0 P 30 [some (vR (some l0)), some (vR (some a1)), some (vI l2)] [vR (mR M a1 3), vI (mI M a2 l2.toNatClampNeg), vR (some l0)] M from ⟨h.1, ?_⟩)
      replace h := h.2
      obtain ⟨a3, he, h⟩ := h
      refine RN_k (callX_det _) 1 _ _ _ _ (show R144 sl sx d M0 P 31 [some (vR (some l0)), some (vR (some a1)), some (vI l2)] [vI l2, vR (mR M a1 3), vI (mI M a2 l2.toNatClampNeg), vR (some l0)] M from ?_)
      rw [he]
      refine RN_k (callX_det _) 1 _ _ _ _ (show inb M a3 11 l2 ∧ R144 sl sx d M0 P 32 [some (vR (some l0)), some (vR (some a1)), some (vI l2)] [vI (mI M a3 l2.toNatClampNeg), vI (mI M a2 l2.toNatClampNeg), vR (some l0)] M from ⟨h.1, ?_⟩)
      replace h := h.2
      refine RN_k (callX_det _) 1 _ _ _ _ (show kd M l0 8 ∧ callX TBg sl sx (d + 1) 29 [vR (some l0), vI (mI M a2 l2.toNatClampNeg), vI (mI M a3 l2.toNatClampNeg)] M (fun v M9 => R144 sl sx d M0 P 35 [some (vR (some l0)), some (vR (some a1)), some (vI l2)] (pushO v []) M9) from ⟨h.1, ?_⟩)
      replace h := h.2
      refine callX_mono (callX_len (d := (d + 1)) rfl rfl rfl (c29 (d := d) h)) ?_
      clear h
      rintro v9 M4 ⟨hl, rfl, h⟩
      replace hM := lenT hM hl
      show R144 sl sx d M0 P 35 [some (vR (some l0)), some (vR (some a1)), some (vI l2)] [] M4
      refine RN_k (callX_det _) 2 _ _ _ _ (show R144 sl sx d M0 P 15 [some (vR (some l0)), some (vR (some a1)), some (vI (l2 + (-1 : Int32)))] [] M4 from ?_)
      exact RN_weak (K := [some (vR (some l0)), some (vR (some a1)), some (vI (l2 + (-1 : Int32)))]) (callX_det _) (show _ ∧ _ ∧ _ ∧ True from ⟨rfl, rfl, rfl, trivial⟩) (ih l0 (some a1) (l2 + (-1 : Int32)) _ hM h)
def w144 (l0 : Nat) (l1 : Option Nat) (M : MM) (P : MM → Prop) : Prop := ∃ a1, l1 = some a1 ∧ (kd M a1 8 ∧ (kd M l0 8 ∧ w25 l0 (mL M a1 0) M (fun M2 => kd M2 a1 8 ∧ (∃ n2, w144_15  n2 l0 (some a1) ((mI M2 a1 1) - (1 : Int32)) M2 P))))
theorem t144_E {sl : Nat} {sx : Nat → Int32} {d : Nat} {M0 : MM} {P : MM → Prop} (l0 : Nat) (l1 : Option Nat) (M : MM) (hM : lenO M0 M) (h : w144  l0 l1 M P) : R144 sl sx d M0 P 0 [some (vR (some l0)), some (vR l1), none] [] M := by
  obtain ⟨a1, he, h⟩ := h
  refine RN_k (callX_det _) 2 _ _ _ _ (show R144 sl sx d M0 P 2 [some (vR (some l0)), some (vR l1), none] [vR l1, vR (some l0)] M from ?_)
  subst he
  refine RN_k (callX_det _) 1 _ _ _ _ (show kd M a1 8 ∧ R144 sl sx d M0 P 5 [some (vR (some l0)), some (vR (some a1)), none] [vL (mL M a1 0), vR (some l0)] M from ⟨h.1, ?_⟩)
  replace h := h.2
  refine RN_k (callX_det _) 1 _ _ _ _ (show kd M l0 8 ∧ callX TBg sl sx (d + 1) 25 [vR (some l0), vL (mL M a1 0)] M (fun v M9 => R144 sl sx d M0 P 8 [some (vR (some l0)), some (vR (some a1)), none] (pushO v []) M9) from ⟨h.1, ?_⟩)
  replace h := h.2
  refine callX_mono (callX_len (d := (d + 1)) rfl rfl rfl (c25 (d := d) h)) ?_
  clear h
  rintro v9 M2 ⟨hl, rfl, h⟩
  replace hM := lenT hM hl
  show R144 sl sx d M0 P 8 [some (vR (some l0)), some (vR (some a1)), none] [] M2
  refine RN_k (callX_det _) 2 _ _ _ _ (show kd M2 a1 8 ∧ R144 sl sx d M0 P 12 [some (vR (some l0)), some (vR (some a1)), none] [vI (mI M2 a1 1)] M2 from ⟨h.1, ?_⟩)
  replace h := h.2
  refine RN_k (callX_det _) 3 _ _ _ _ (show R144 sl sx d M0 P 15 [some (vR (some l0)), some (vR (some a1)), some (vI ((mI M2 a1 1) - (1 : Int32)))] [] M2 from ?_)
  obtain ⟨n2, h⟩ := h
  exact RN_weak (K := [some (vR (some l0)), some (vR (some a1)), some (vI ((mI M2 a1 1) - (1 : Int32)))]) (callX_det _) (show _ ∧ _ ∧ _ ∧ True from ⟨rfl, rfl, rfl, trivial⟩) (t144_15  n2 l0 (some a1) ((mI M2 a1 1) - (1 : Int32)) _ hM h)
theorem c144 {sl : Nat} {sx : Nat → Int32} {d : Nat} {l0 : Nat} {l1 : Option Nat} {M : MM} {P : MM → Prop} (h : w144 l0 l1 M P) : callX TBg sl sx (d + 2) 144 [vR (some l0), vR l1] M (PV P) :=
  cX (d := d + 1) q144 (false, tb144) rfl rfl rfl (t144_E l0 l1 M lenR h)
-- TwoLeash.turned(III)Z
abbrev q143 : MQ7 := (4, 1, 4, 9, 0, 0, 4)
abbrev R143 (sl : Nat) (sx : Nat → Int32) (d : Nat) (M0 : MM) (P : Int32 → MM → Prop) : Nat → LL → List VV → MM → Prop := RN 9 false (mS M0).length (mT M0) 0 0 sl sx (callX TBg sl sx (d + 5)) (rtW q143 M0 (PI P)) (as2 tb143)
def w143 (l0 : Nat) (l1 : Int32) (l2 : Int32) (l3 : Int32) (M : MM) (P : Int32 → MM → Prop) : Prop := w94 l3 M (fun r2 M1 => kd M1 l0 9 ∧ w62 l0 r2 l1 l2 M1 (fun r4 M3 => kd M3 l0 9 ∧ (kd (sI M3 l0 10 r4) l0 9 ∧ (((mI (sI M3 l0 10 r4) l0 10) = 0 → (kd (sI M3 l0 10 r4) l0 9 ∧ (kd (sI M3 l0 10 r4) l0 9 ∧ (∃ a5, mR (sI M3 l0 10 r4) l0 5 = some a5 ∧ (inb (sI M3 l0 10 r4) a5 16 l2 ∧ (∃ a6, mR (sI M3 l0 10 r4) l0 17 = some a6 ∧ (kd (sI M3 l0 10 r4) a6 8 ∧ w144 a6 (mR (sI M3 l0 10 r4) a5 l2.toNatClampNeg) (sI M3 l0 10 r4) (fun M7 => kd M7 l0 9 ∧ (kd M7 l0 9 ∧ (∃ a8, mR M7 l0 5 = some a8 ∧ (inb M7 a8 16 l1 ∧ (kd M7 l0 9 ∧ (kd M7 l0 9 ∧ (∃ a9, mR M7 l0 15 = some a9 ∧ (kd M7 a9 5 ∧ w106 a9 (mR M7 a8 l1.toNatClampNeg) (mR M7 l0 17) l3 (mR M7 l0 12) M7 (fun M10 => kd M10 l0 9 ∧ (kd M10 l0 9 ∧ w55 l0 (mR M10 l0 12) M10 (fun r12 M11 => (r12 = 0 ∨ r12 = 1) ∧ P r12 M11)))))))))))))))))) ∧ (¬ ((mI (sI M3 l0 10 r4) l0 10) = 0) → (P (0 : Int32) (sI M3 l0 10 r4)))))))
theorem t143_E {sl : Nat} {sx : Nat → Int32} {d : Nat} {M0 : MM} {P : Int32 → MM → Prop} (l0 : Nat) (l1 : Int32) (l2 : Int32) (l3 : Int32) (M : MM) (hM : lenO M0 M) (h : w143  l0 l1 l2 l3 M P) : R143 sl sx d M0 P 0 [some (vR (some l0)), some (vI l1), some (vI l2), some (vI l3)] [] M := by
  refine RN_k (callX_det _) 4 _ _ _ _ (show callX TBg sl sx (d + 5) 94 [vI l3] M (fun v M9 => R143 sl sx d M0 P 6 [some (vR (some l0)), some (vI l1), some (vI l2), some (vI l3)] (pushO v [vR (some l0), vR (some l0)]) M9) from ?_)
  refine callX_mono (callX_len (d := (d + 5)) rfl rfl rfl (c94 (d := d + 4) h)) ?_
  clear h
  rintro v9 M1 ⟨hl, r2, rfl, h⟩
  replace hM := lenT hM hl
  show R143 sl sx d M0 P 6 [some (vR (some l0)), some (vI l1), some (vI l2), some (vI l3)] [vI r2, vR (some l0), vR (some l0)] M1
  refine RN_k (callX_det _) 3 _ _ _ _ (show kd M1 l0 9 ∧ callX TBg sl sx (d + 5) 62 [vR (some l0), vI r2, vI l1, vI l2] M1 (fun v M9 => R143 sl sx d M0 P 11 [some (vR (some l0)), some (vI l1), some (vI l2), some (vI l3)] (pushO v [vR (some l0)]) M9) from ⟨h.1, ?_⟩)
  replace h := h.2
  refine callX_mono (callX_len (d := (d + 5)) rfl rfl rfl (c62 (d := d + 3) h)) ?_
  clear h
  rintro v9 M3 ⟨hl, r4, rfl, h⟩
  replace hM := lenT hM hl
  show R143 sl sx d M0 P 11 [some (vR (some l0)), some (vI l1), some (vI l2), some (vI l3)] [vI r4, vR (some l0)] M3
  refine RN_k (callX_det _) 1 _ _ _ _ (show kd M3 l0 9 ∧ R143 sl sx d M0 P 14 [some (vR (some l0)), some (vI l1), some (vI l2), some (vI l3)] [] (sI M3 l0 10 r4) from ⟨h.1, ?_⟩)
  replace h := h.2
  refine RN_k (callX_det _) 2 _ _ _ _ (show kd (sI M3 l0 10 r4) l0 9 ∧ R143 sl sx d M0 P 18 [some (vR (some l0)), some (vI l1), some (vI l2), some (vI l3)] [vI (mI (sI M3 l0 10 r4) l0 10)] (sI M3 l0 10 r4) from ⟨h.1, ?_⟩)
  replace h := h.2
  refine RN_k (callX_det _) 1 _ _ _ _ (show ((mI (sI M3 l0 10 r4) l0 10) = 0 → R143 sl sx d M0 P 23 [some (vR (some l0)), some (vI l1), some (vI l2), some (vI l3)] [] (sI M3 l0 10 r4)) ∧ (¬ ((mI (sI M3 l0 10 r4) l0 10) = 0) → R143 sl sx d M0 P 21 [some (vR (some l0)), some (vI l1), some (vI l2), some (vI l3)] [] (sI M3 l0 10 r4)) from ⟨fun hc => ?_, fun hc => ?_⟩)
  · replace h := h.1 hc
    refine RN_k (callX_det _) 2 _ _ _ _ (show kd (sI M3 l0 10 r4) l0 9 ∧ R143 sl sx d M0 P 27 [some (vR (some l0)), some (vI l1), some (vI l2), some (vI l3)] [vR (mR (sI M3 l0 10 r4) l0 17)] (sI M3 l0 10 r4) from ⟨h.1, ?_⟩)
    replace h := h.2
    refine RN_k (callX_det _) 2 _ _ _ _ (show kd (sI M3 l0 10 r4) l0 9 ∧ R143 sl sx d M0 P 31 [some (vR (some l0)), some (vI l1), some (vI l2), some (vI l3)] [vR (mR (sI M3 l0 10 r4) l0 5), vR (mR (sI M3 l0 10 r4) l0 17)] (sI M3 l0 10 r4) from ⟨h.1, ?_⟩)
    replace h := h.2
    obtain ⟨a5, he, h⟩ := h
    refine RN_k (callX_det _) 1 _ _ _ _ (show R143 sl sx d M0 P 32 [some (vR (some l0)), some (vI l1), some (vI l2), some (vI l3)] [vI l2, vR (mR (sI M3 l0 10 r4) l0 5), vR (mR (sI M3 l0 10 r4) l0 17)] (sI M3 l0 10 r4) from ?_)
    rw [he]
    refine RN_k (callX_det _) 1 _ _ _ _ (show inb (sI M3 l0 10 r4) a5 16 l2 ∧ R143 sl sx d M0 P 33 [some (vR (some l0)), some (vI l1), some (vI l2), some (vI l3)] [vR (mR (sI M3 l0 10 r4) a5 l2.toNatClampNeg), vR (mR (sI M3 l0 10 r4) l0 17)] (sI M3 l0 10 r4) from ⟨h.1, ?_⟩)
    replace h := h.2
    obtain ⟨a6, he, h⟩ := h
    rw [he]
    refine RN_k (callX_det _) 1 _ _ _ _ (show kd (sI M3 l0 10 r4) a6 8 ∧ callX TBg sl sx (d + 5) 144 [vR (some a6), vR (mR (sI M3 l0 10 r4) a5 l2.toNatClampNeg)] (sI M3 l0 10 r4) (fun v M9 => R143 sl sx d M0 P 36 [some (vR (some l0)), some (vI l1), some (vI l2), some (vI l3)] (pushO v []) M9) from ⟨h.1, ?_⟩)
    replace h := h.2
    refine callX_mono (callX_len (d := (d + 5)) rfl rfl rfl (c144 (d := d + 3) h)) ?_
    clear h
    rintro v9 M7 ⟨hl, rfl, h⟩
    replace hM := lenT hM hl
    show R143 sl sx d M0 P 36 [some (vR (some l0)), some (vI l1), some (vI l2), some (vI l3)] [] M7
    refine RN_k (callX_det _) 2 _ _ _ _ (show kd M7 l0 9 ∧ R143 sl sx d M0 P 40 [some (vR (some l0)), some (vI l1), some (vI l2), some (vI l3)] [vR (mR M7 l0 15)] M7 from ⟨h.1, ?_⟩)
    replace h := h.2
    refine RN_k (callX_det _) 2 _ _ _ _ (show kd M7 l0 9 ∧ R143 sl sx d M0 P 44 [some (vR (some l0)), some (vI l1), some (vI l2), some (vI l3)] [vR (mR M7 l0 5), vR (mR M7 l0 15)] M7 from ⟨h.1, ?_⟩)
    replace h := h.2
    obtain ⟨a8, he, h⟩ := h
    refine RN_k (callX_det _) 1 _ _ _ _ (show R143 sl sx d M0 P 45 [some (vR (some l0)), some (vI l1), some (vI l2), some (vI l3)] [vI l1, vR (mR M7 l0 5), vR (mR M7 l0 15)] M7 from ?_)
    rw [he]
    refine RN_k (callX_det _) 1 _ _ _ _ (show inb M7 a8 16 l1 ∧ R143 sl sx d M0 P 46 [some (vR (some l0)), some (vI l1), some (vI l2), some (vI l3)] [vR (mR M7 a8 l1.toNatClampNeg), vR (mR M7 l0 15)] M7 from ⟨h.1, ?_⟩)
    replace h := h.2
    refine RN_k (callX_det _) 2 _ _ _ _ (show kd M7 l0 9 ∧ R143 sl sx d M0 P 50 [some (vR (some l0)), some (vI l1), some (vI l2), some (vI l3)] [vR (mR M7 l0 17), vR (mR M7 a8 l1.toNatClampNeg), vR (mR M7 l0 15)] M7 from ⟨h.1, ?_⟩)
    replace h := h.2
    refine RN_k (callX_det _) 3 _ _ _ _ (show kd M7 l0 9 ∧ R143 sl sx d M0 P 55 [some (vR (some l0)), some (vI l1), some (vI l2), some (vI l3)] [vR (mR M7 l0 12), vI l3, vR (mR M7 l0 17), vR (mR M7 a8 l1.toNatClampNeg), vR (mR M7 l0 15)] M7 from ⟨h.1, ?_⟩)
    replace h := h.2
    obtain ⟨a9, he, h⟩ := h
    rw [he]
    refine RN_k (callX_det _) 1 _ _ _ _ (show kd M7 a9 5 ∧ callX TBg sl sx (d + 5) 106 [vR (some a9), vR (mR M7 a8 l1.toNatClampNeg), vR (mR M7 l0 17), vI l3, vR (mR M7 l0 12)] M7 (fun v M9 => R143 sl sx d M0 P 58 [some (vR (some l0)), some (vI l1), some (vI l2), some (vI l3)] (pushO v []) M9) from ⟨h.1, ?_⟩)
    replace h := h.2
    refine callX_mono (callX_len (d := (d + 5)) rfl rfl rfl (c106 (d := d) h)) ?_
    clear h
    rintro v9 M10 ⟨hl, rfl, h⟩
    replace hM := lenT hM hl
    show R143 sl sx d M0 P 58 [some (vR (some l0)), some (vI l1), some (vI l2), some (vI l3)] [] M10
    refine RN_k (callX_det _) 3 _ _ _ _ (show kd M10 l0 9 ∧ R143 sl sx d M0 P 63 [some (vR (some l0)), some (vI l1), some (vI l2), some (vI l3)] [vR (mR M10 l0 12), vR (some l0)] M10 from ⟨h.1, ?_⟩)
    replace h := h.2
    refine RN_k (callX_det _) 1 _ _ _ _ (show kd M10 l0 9 ∧ callX TBg sl sx (d + 5) 55 [vR (some l0), vR (mR M10 l0 12)] M10 (fun v M9 => R143 sl sx d M0 P 66 [some (vR (some l0)), some (vI l1), some (vI l2), some (vI l3)] (pushO v []) M9) from ⟨h.1, ?_⟩)
    replace h := h.2
    refine callX_mono (callX_len (d := (d + 5)) rfl rfl rfl (c55 (d := d + 3) h)) ?_
    clear h
    rintro v9 M11 ⟨hl, r12, rfl, h⟩
    replace hM := lenT hM hl
    show R143 sl sx d M0 P 66 [some (vR (some l0)), some (vI l1), some (vI l2), some (vI l3)] [vI r12] M11
    exact RN_k (callX_det _) 1 _ _ _ _ (show rtW q143 M0 (PI P) (some (vI r12)) M11 from ⟨⟨_, rfl, h.1⟩, hM.1, hM.2, _, rfl, h.2⟩)
  · replace h := h.2 hc
    exact RN_k (callX_det _) 2 _ _ _ _ (show rtW q143 M0 (PI P) (some (vI (0 : Int32))) (sI M3 l0 10 r4) from ⟨⟨_, rfl, Or.inl rfl⟩, hM.1, hM.2, _, rfl, h⟩)
theorem c143 {sl : Nat} {sx : Nat → Int32} {d : Nat} {l0 : Nat} {l1 : Int32} {l2 : Int32} {l3 : Int32} {M : MM} {P : Int32 → MM → Prop} (h : w143 l0 l1 l2 l3 M P) : callX TBg sl sx (d + 6) 143 [vR (some l0), vI l1, vI l2, vI l3] M (PI P) :=
  cX (d := d + 5) q143 (false, tb143) rfl rfl rfl (t143_E l0 l1 l2 l3 M lenR h)
-- TwoLeash.writeByte(I)V
abbrev q147 : MQ7 := (2, 1, 2, 9, 0, 0, 0)
abbrev R147 (sl : Nat) (sx : Nat → Int32) (d : Nat) (M0 : MM) (P : MM → Prop) : Nat → LL → List VV → MM → Prop := RN 9 false (mS M0).length (mT M0) 0 0 sl sx (callX TBg sl sx (d + 0)) (rtW q147 M0 (PV P)) (as2 tb147)
def w147_31 (M : MM) (P : MM → Prop) : Prop := P M
theorem t147_31 {sl : Nat} {sx : Nat → Int32} {d : Nat} {M0 : MM} {P : MM → Prop}  (M : MM) (hM : lenO M0 M) (h : w147_31   M P) : R147 sl sx d M0 P 31 [none, none] [] M := by
  exact RN_k (callX_det _) 1 _ _ _ _ (show rtW q147 M0 (PV P) none M from ⟨rfl, hM.1, hM.2, rfl, h⟩)
def w147 (l0 : Nat) (l1 : Int32) (M : MM) (P : MM → Prop) : Prop := kd M l0 9 ∧ (((256 : Int32) ≤ (mI M l0 9) → (w147_31  M P)) ∧ (¬ ((256 : Int32) ≤ (mI M l0 9)) → (kd M l0 9 ∧ (kd M l0 9 ∧ (∃ a1, mR M l0 8 = some a1 ∧ (inb M a1 13 (mI M l0 9) ∧ (kd (sI M a1 (mI M l0 9).toNatClampNeg l1.toInt8.toInt32.toInt8.toInt32) l0 9 ∧ (kd (sI M a1 (mI M l0 9).toNatClampNeg l1.toInt8.toInt32.toInt8.toInt32) l0 9 ∧ (w147_31  (sI (sI M a1 (mI M l0 9).toNatClampNeg l1.toInt8.toInt32.toInt8.toInt32) l0 9 ((mI (sI M a1 (mI M l0 9).toNatClampNeg l1.toInt8.toInt32.toInt8.toInt32) l0 9) + (1 : Int32))) P)))))))))
theorem t147_E {sl : Nat} {sx : Nat → Int32} {d : Nat} {M0 : MM} {P : MM → Prop} (l0 : Nat) (l1 : Int32) (M : MM) (hM : lenO M0 M) (h : w147  l0 l1 M P) : R147 sl sx d M0 P 0 [some (vR (some l0)), some (vI l1)] [] M := by
  refine RN_k (callX_det _) 2 _ _ _ _ (show kd M l0 9 ∧ R147 sl sx d M0 P 4 [some (vR (some l0)), some (vI l1)] [vI (mI M l0 9)] M from ⟨h.1, ?_⟩)
  replace h := h.2
  refine RN_k (callX_det _) 2 _ _ _ _ (show ((256 : Int32) ≤ (mI M l0 9) → R147 sl sx d M0 P 31 [some (vR (some l0)), some (vI l1)] [] M) ∧ (¬ ((256 : Int32) ≤ (mI M l0 9)) → R147 sl sx d M0 P 10 [some (vR (some l0)), some (vI l1)] [] M) from ⟨fun hc => ?_, fun hc => ?_⟩)
  · replace h := h.1 hc
    exact RN_weak (K := [none, none]) (callX_det _) (show True from trivial) (t147_31   _ hM h)
  · replace h := h.2 hc
    refine RN_k (callX_det _) 2 _ _ _ _ (show kd M l0 9 ∧ R147 sl sx d M0 P 14 [some (vR (some l0)), some (vI l1)] [vR (mR M l0 8)] M from ⟨h.1, ?_⟩)
    replace h := h.2
    refine RN_k (callX_det _) 2 _ _ _ _ (show kd M l0 9 ∧ R147 sl sx d M0 P 18 [some (vR (some l0)), some (vI l1)] [vI (mI M l0 9), vR (mR M l0 8)] M from ⟨h.1, ?_⟩)
    replace h := h.2
    obtain ⟨a1, he, h⟩ := h
    refine RN_k (callX_det _) 2 _ _ _ _ (show R147 sl sx d M0 P 20 [some (vR (some l0)), some (vI l1)] [vI l1.toInt8.toInt32, vI (mI M l0 9), vR (mR M l0 8)] M from ?_)
    rw [he]
    refine RN_k (callX_det _) 1 _ _ _ _ (show inb M a1 13 (mI M l0 9) ∧ R147 sl sx d M0 P 21 [some (vR (some l0)), some (vI l1)] [] (sI M a1 (mI M l0 9).toNatClampNeg l1.toInt8.toInt32.toInt8.toInt32) from ⟨h.1, ?_⟩)
    replace h := h.2
    refine RN_k (callX_det _) 3 _ _ _ _ (show kd (sI M a1 (mI M l0 9).toNatClampNeg l1.toInt8.toInt32.toInt8.toInt32) l0 9 ∧ R147 sl sx d M0 P 26 [some (vR (some l0)), some (vI l1)] [vI (mI (sI M a1 (mI M l0 9).toNatClampNeg l1.toInt8.toInt32.toInt8.toInt32) l0 9), vR (some l0)] (sI M a1 (mI M l0 9).toNatClampNeg l1.toInt8.toInt32.toInt8.toInt32) from ⟨h.1, ?_⟩)
    replace h := h.2
    refine RN_k (callX_det _) 3 _ _ _ _ (show kd (sI M a1 (mI M l0 9).toNatClampNeg l1.toInt8.toInt32.toInt8.toInt32) l0 9 ∧ R147 sl sx d M0 P 31 [some (vR (some l0)), some (vI l1)] [] (sI (sI M a1 (mI M l0 9).toNatClampNeg l1.toInt8.toInt32.toInt8.toInt32) l0 9 ((mI (sI M a1 (mI M l0 9).toNatClampNeg l1.toInt8.toInt32.toInt8.toInt32) l0 9) + (1 : Int32))) from ⟨h.1, ?_⟩)
    replace h := h.2
    exact RN_weak (K := [none, none]) (callX_det _) (show True from trivial) (t147_31   _ hM h)
theorem c147 {sl : Nat} {sx : Nat → Int32} {d : Nat} {l0 : Nat} {l1 : Int32} {M : MM} {P : MM → Prop} (h : w147 l0 l1 M P) : callX TBg sl sx (d + 1) 147 [vR (some l0), vI l1] M (PV P) :=
  cX (d := d + 0) q147 (false, tb147) rfl rfl rfl (t147_E l0 l1 M lenR h)
-- TwoLeash.writeWord(J)V
abbrev q146 : MQ7 := (2, 1, 5, 9, 0, 0, 0)
abbrev R146 (sl : Nat) (sx : Nat → Int32) (d : Nat) (M0 : MM) (P : MM → Prop) : Nat → LL → List VV → MM → Prop := RN 9 false (mS M0).length (mT M0) 0 0 sl sx (callX TBg sl sx (d + 1)) (rtW q146 M0 (PV P)) (as2 tb146)
def w146_28 (k3 : Nat → Int64 → Int32 → MM → Prop) (l0 : Nat) (l1 : Int64) (l3 : Int32) (M : MM) (P : MM → Prop) : Prop := k3 l0 l1 (l3 + (-8 : Int32)) M
theorem t146_28 {sl : Nat} {sx : Nat → Int32} {d : Nat} {M0 : MM} {P : MM → Prop} {k3 : Nat → Int64 → Int32 → MM → Prop} (hk3 : ∀ (l0 : Nat) (l1 : Int64) (l3 : Int32) (M : MM), lenO M0 M → k3 l0 l1 l3 M → R146 sl sx d M0 P 3 [some (vR (some l0)), some (vL l1), none, some (vI l3), none] [] M) (l0 : Nat) (l1 : Int64) (l3 : Int32) (M : MM) (hM : lenO M0 M) (h : w146_28 k3 l0 l1 l3 M P) : R146 sl sx d M0 P 28 [some (vR (some l0)), some (vL l1), none, some (vI l3), none] [] M := by
  refine RN_k (callX_det _) 2 _ _ _ _ (show R146 sl sx d M0 P 3 [some (vR (some l0)), some (vL l1), none, some (vI (l3 + (-8 : Int32))), none] [] M from ?_)
  exact RN_weak (K := [some (vR (some l0)), some (vL l1), none, some (vI (l3 + (-8 : Int32))), none]) (callX_det _) (show _ ∧ _ ∧ _ ∧ True from ⟨rfl, rfl, rfl, trivial⟩) (hk3 l0 l1 (l3 + (-8 : Int32)) _ hM h)
def w146_3 : Nat → Nat → Int64 → Int32 → MM → (MM → Prop) → Prop
  | 0 => fun _ _ _ _ _ => False
  | n + 1 => fun l0 l1 l3 M P => (l3 < 0 → (P M)) ∧ (¬ (l3 < 0) → ((((((l1.toUInt64 >>> (l3.toInt64.toUInt64 &&& Int64.toUInt64 63)).toInt64).toInt32) &&& (255 : Int32)) = 0 → (w146_28 (fun z0 z1 z2 z3 => w146_3  n z0 z1 z2 z3 P) l0 l1 l3 M P)) ∧ (¬ (((((l1.toUInt64 >>> (l3.toInt64.toUInt64 &&& Int64.toUInt64 63)).toInt64).toInt32) &&& (255 : Int32)) = 0) → (kd M l0 9 ∧ w147 l0 ((((l1.toUInt64 >>> (l3.toInt64.toUInt64 &&& Int64.toUInt64 63)).toInt64).toInt32) &&& (255 : Int32)) M (fun M1 => w146_28 (fun z0 z1 z2 z3 => w146_3  n z0 z1 z2 z3 P) l0 l1 l3 M1 P)))))
theorem t146_3 {sl : Nat} {sx : Nat → Int32} {d : Nat} {M0 : MM} {P : MM → Prop} (n : Nat) : ∀ (l0 : Nat) (l1 : Int64) (l3 : Int32) (M : MM) (_ : lenO M0 M) (_ : w146_3  n l0 l1 l3 M P), R146 sl sx d M0 P 3 [some (vR (some l0)), some (vL l1), none, some (vI l3), none] [] M := by
  induction n with
  | zero => intro l0 l1 l3 M hM h; cases h
  | succ n ih =>
    intro l0 l1 l3 M hM h
    refine RN_k (callX_det _) 2 _ _ _ _ (show (l3 < 0 → R146 sl sx d M0 P 34 [some (vR (some l0)), some (vL l1), none, some (vI l3), none] [] M) ∧ (¬ (l3 < 0) → R146 sl sx d M0 P 7 [some (vR (some l0)), some (vL l1), none, some (vI l3), none] [] M) from ⟨fun hc => ?_, fun hc => ?_⟩)
    · replace h := h.1 hc
      exact RN_k (callX_det _) 1 _ _ _ _ (show rtW q146 M0 (PV P) none M from ⟨rfl, hM.1, hM.2, rfl, h⟩)
    · replace h := h.2 hc
      refine RN_k (callX_det _) 9 _ _ _ _ (show (((((l1.toUInt64 >>> (l3.toInt64.toUInt64 &&& Int64.toUInt64 63)).toInt64).toInt32) &&& (255 : Int32)) = 0 → R146 sl sx d M0 P 28 [some (vR (some l0)), some (vL l1), none, some (vI l3), some (vI ((((l1.toUInt64 >>> (l3.toInt64.toUInt64 &&& Int64.toUInt64 63)).toInt64).toInt32) &&& (255 : Int32)))] [] M) ∧ (¬ (((((l1.toUInt64 >>> (l3.toInt64.toUInt64 &&& Int64.toUInt64 63)).toInt64).toInt32) &&& (255 : Int32)) = 0) → R146 sl sx d M0 P 22 [some (vR (some l0)), some (vL l1), none, some (vI l3), some (vI ((((l1.toUInt64 >>> (l3.toInt64.toUInt64 &&& Int64.toUInt64 63)).toInt64).toInt32) &&& (255 : Int32)))] [] M) from ⟨fun hc => ?_, fun hc => ?_⟩)
      · replace h := h.1 hc
        exact RN_weak (K := [some (vR (some l0)), some (vL l1), none, some (vI l3), none]) (callX_det _) (show _ ∧ _ ∧ _ ∧ True from ⟨rfl, rfl, rfl, trivial⟩) (t146_28 ih l0 l1 l3 _ hM h)
      · replace h := h.2 hc
        refine RN_k (callX_det _) 3 _ _ _ _ (show kd M l0 9 ∧ callX TBg sl sx (d + 1) 147 [vR (some l0), vI ((((l1.toUInt64 >>> (l3.toInt64.toUInt64 &&& Int64.toUInt64 63)).toInt64).toInt32) &&& (255 : Int32))] M (fun v M9 => R146 sl sx d M0 P 28 [some (vR (some l0)), some (vL l1), none, some (vI l3), some (vI ((((l1.toUInt64 >>> (l3.toInt64.toUInt64 &&& Int64.toUInt64 63)).toInt64).toInt32) &&& (255 : Int32)))] (pushO v []) M9) from ⟨h.1, ?_⟩)
        replace h := h.2
        refine callX_mono (callX_len (d := (d + 1)) rfl rfl rfl (c147 (d := d) h)) ?_
        clear h
        rintro v9 M1 ⟨hl, rfl, h⟩
        replace hM := lenT hM hl
        show R146 sl sx d M0 P 28 [some (vR (some l0)), some (vL l1), none, some (vI l3), some (vI ((((l1.toUInt64 >>> (l3.toInt64.toUInt64 &&& Int64.toUInt64 63)).toInt64).toInt32) &&& (255 : Int32)))] [] M1
        exact RN_weak (K := [some (vR (some l0)), some (vL l1), none, some (vI l3), none]) (callX_det _) (show _ ∧ _ ∧ _ ∧ True from ⟨rfl, rfl, rfl, trivial⟩) (t146_28 ih l0 l1 l3 _ hM h)
def w146 (l0 : Nat) (l1 : Int64) (M : MM) (P : MM → Prop) : Prop := ∃ n2, w146_3  n2 l0 l1 (56 : Int32) M P
theorem t146_E {sl : Nat} {sx : Nat → Int32} {d : Nat} {M0 : MM} {P : MM → Prop} (l0 : Nat) (l1 : Int64) (M : MM) (hM : lenO M0 M) (h : w146  l0 l1 M P) : R146 sl sx d M0 P 0 [some (vR (some l0)), some (vL l1), none, none, none] [] M := by
  refine RN_k (callX_det _) 2 _ _ _ _ (show R146 sl sx d M0 P 3 [some (vR (some l0)), some (vL l1), none, some (vI (56 : Int32)), none] [] M from ?_)
  obtain ⟨n2, h⟩ := h
  exact RN_weak (K := [some (vR (some l0)), some (vL l1), none, some (vI (56 : Int32)), none]) (callX_det _) (show _ ∧ _ ∧ _ ∧ True from ⟨rfl, rfl, rfl, trivial⟩) (t146_3  n2 l0 l1 (56 : Int32) _ hM h)
theorem c146 {sl : Nat} {sx : Nat → Int32} {d : Nat} {l0 : Nat} {l1 : Int64} {M : MM} {P : MM → Prop} (h : w146 l0 l1 M P) : callX TBg sl sx (d + 2) 146 [vR (some l0), vL l1] M (PV P) :=
  cX (d := d + 1) q146 (false, tb146) rfl rfl rfl (t146_E l0 l1 M lenR h)
-- TwoLeash.writeNumber(I)V
abbrev q148 : MQ7 := (2, 1, 2, 9, 0, 0, 0)
abbrev R148 (sl : Nat) (sx : Nat → Int32) (d : Nat) (M0 : MM) (P : MM → Prop) : Nat → LL → List VV → MM → Prop := RN 9 false (mS M0).length (mT M0) 0 0 sl sx (callX TBg sl sx (d + 1)) (rtW q148 M0 (PV P)) (as2 tb148)
def w148_23 (l0 : Nat) (l1 : Int32) (M : MM) (P : MM → Prop) : Prop := ¬ (10 : Int32) = 0 ∧ (kd M l0 9 ∧ w147 l0 ((48 : Int32) + (l1 - l1 / (10 : Int32) * (10 : Int32))) M (fun M1 => P M1))
theorem t148_23 {sl : Nat} {sx : Nat → Int32} {d : Nat} {M0 : MM} {P : MM → Prop} (l0 : Nat) (l1 : Int32) (M : MM) (hM : lenO M0 M) (h : w148_23  l0 l1 M P) : R148 sl sx d M0 P 23 [some (vR (some l0)), some (vI l1)] [] M := by
  refine RN_k (callX_det _) 5 _ _ _ _ (show ¬ (10 : Int32) = 0 ∧ R148 sl sx d M0 P 30 [some (vR (some l0)), some (vI l1)] [vI (l1 - l1 / (10 : Int32) * (10 : Int32)), vI (48 : Int32), vR (some l0)] M from ⟨h.1, ?_⟩)
  replace h := h.2
  refine RN_k (callX_det _) 2 _ _ _ _ (show kd M l0 9 ∧ callX TBg sl sx (d + 1) 147 [vR (some l0), vI ((48 : Int32) + (l1 - l1 / (10 : Int32) * (10 : Int32)))] M (fun v M9 => R148 sl sx d M0 P 34 [some (vR (some l0)), some (vI l1)] (pushO v []) M9) from ⟨h.1, ?_⟩)
  replace h := h.2
  refine callX_mono (callX_len (d := (d + 1)) rfl rfl rfl (c147 (d := d) h)) ?_
  clear h
  rintro v9 M1 ⟨hl, rfl, h⟩
  replace hM := lenT hM hl
  show R148 sl sx d M0 P 34 [some (vR (some l0)), some (vI l1)] [] M1
  exact RN_k (callX_det _) 1 _ _ _ _ (show rtW q148 M0 (PV P) none M1 from ⟨rfl, hM.1, hM.2, rfl, h⟩)
def w148 (l0 : Nat) (l1 : Int32) (M : MM) (P : MM → Prop) : Prop := kd M l0 9 ∧ w147 l0 (32 : Int32) M (fun M1 => (l1 < (10 : Int32) → (w148_23  l0 l1 M1 P)) ∧ (¬ (l1 < (10 : Int32)) → (¬ (10 : Int32) = 0 ∧ (kd M1 l0 9 ∧ w147 l0 ((48 : Int32) + (l1 / (10 : Int32))) M1 (fun M2 => w148_23  l0 l1 M2 P)))))
theorem t148_E {sl : Nat} {sx : Nat → Int32} {d : Nat} {M0 : MM} {P : MM → Prop} (l0 : Nat) (l1 : Int32) (M : MM) (hM : lenO M0 M) (h : w148  l0 l1 M P) : R148 sl sx d M0 P 0 [some (vR (some l0)), some (vI l1)] [] M := by
  refine RN_k (callX_det _) 3 _ _ _ _ (show kd M l0 9 ∧ callX TBg sl sx (d + 1) 147 [vR (some l0), vI (32 : Int32)] M (fun v M9 => R148 sl sx d M0 P 6 [some (vR (some l0)), some (vI l1)] (pushO v []) M9) from ⟨h.1, ?_⟩)
  replace h := h.2
  refine callX_mono (callX_len (d := (d + 1)) rfl rfl rfl (c147 (d := d) h)) ?_
  clear h
  rintro v9 M1 ⟨hl, rfl, h⟩
  replace hM := lenT hM hl
  show R148 sl sx d M0 P 6 [some (vR (some l0)), some (vI l1)] [] M1
  refine RN_k (callX_det _) 3 _ _ _ _ (show (l1 < (10 : Int32) → R148 sl sx d M0 P 23 [some (vR (some l0)), some (vI l1)] [] M1) ∧ (¬ (l1 < (10 : Int32)) → R148 sl sx d M0 P 12 [some (vR (some l0)), some (vI l1)] [] M1) from ⟨fun hc => ?_, fun hc => ?_⟩)
  · replace h := h.1 hc
    exact RN_weak (K := [some (vR (some l0)), some (vI l1)]) (callX_det _) (show _ ∧ _ ∧ True from ⟨rfl, rfl, trivial⟩) (t148_23  l0 l1 _ hM h)
  · replace h := h.2 hc
    refine RN_k (callX_det _) 5 _ _ _ _ (show ¬ (10 : Int32) = 0 ∧ R148 sl sx d M0 P 19 [some (vR (some l0)), some (vI l1)] [vI (l1 / (10 : Int32)), vI (48 : Int32), vR (some l0)] M1 from ⟨h.1, ?_⟩)
    replace h := h.2
    refine RN_k (callX_det _) 2 _ _ _ _ (show kd M1 l0 9 ∧ callX TBg sl sx (d + 1) 147 [vR (some l0), vI ((48 : Int32) + (l1 / (10 : Int32)))] M1 (fun v M9 => R148 sl sx d M0 P 23 [some (vR (some l0)), some (vI l1)] (pushO v []) M9) from ⟨h.1, ?_⟩)
    replace h := h.2
    refine callX_mono (callX_len (d := (d + 1)) rfl rfl rfl (c147 (d := d) h)) ?_
    clear h
    rintro v9 M2 ⟨hl, rfl, h⟩
    replace hM := lenT hM hl
    show R148 sl sx d M0 P 23 [some (vR (some l0)), some (vI l1)] [] M2
    exact RN_weak (K := [some (vR (some l0)), some (vI l1)]) (callX_det _) (show _ ∧ _ ∧ True from ⟨rfl, rfl, trivial⟩) (t148_23  l0 l1 _ hM h)
theorem c148 {sl : Nat} {sx : Nat → Int32} {d : Nat} {l0 : Nat} {l1 : Int32} {M : MM} {P : MM → Prop} (h : w148 l0 l1 M P) : callX TBg sl sx (d + 2) 148 [vR (some l0), vI l1] M (PV P) :=
  cX (d := d + 1) q148 (false, tb148) rfl rfl rfl (t148_E l0 l1 M lenR h)
-- TwoLeash.print()I
abbrev q145 : MQ7 := (1, 1, 4, 9, 0, 0, 1)
abbrev R145 (sl : Nat) (sx : Nat → Int32) (d : Nat) (M0 : MM) (P : Int32 → MM → Prop) : Nat → LL → List VV → MM → Prop := RN 9 false (mS M0).length (mT M0) 0 0 sl sx (callX TBg sl sx (d + 2)) (rtW q145 M0 (PI P)) (as2 tb145)
def w145_45 (k7 : Nat → Int32 → MM → Prop) : Nat → Nat → Int32 → Option Nat → Int32 → MM → (Int32 → MM → Prop) → Prop
  | 0 => fun _ _ _ _ _ _ => False
  | n + 1 => fun l0 l1 l2 l3 M P => ∃ a1, l2 = some a1 ∧ (kd M a1 8 ∧ (((mI M a1 1) ≤ l3 → (kd M l0 9 ∧ w147 l0 (59 : Int32) M (fun M2 => k7 l0 (l1 + (1 : Int32)) M2))) ∧ (¬ ((mI M a1 1) ≤ l3) → (kd M a1 8 ∧ (∃ a3, mR M a1 2 = some a3 ∧ (inb M a3 11 l3 ∧ (kd M l0 9 ∧ w148 l0 (mI M a3 l3.toNatClampNeg) M (fun M4 => kd M4 a1 8 ∧ (∃ a5, mR M4 a1 3 = some a5 ∧ (inb M4 a5 11 l3 ∧ (kd M4 l0 9 ∧ w148 l0 (mI M4 a5 l3.toNatClampNeg) M4 (fun M6 => w145_45 k7 n l0 l1 (some a1) (l3 + (1 : Int32)) M6 P))))))))))))
theorem t145_45 {sl : Nat} {sx : Nat → Int32} {d : Nat} {M0 : MM} {P : Int32 → MM → Prop} {k7 : Nat → Int32 → MM → Prop} (hk7 : ∀ (l0 : Nat) (l1 : Int32) (M : MM), lenO M0 M → k7 l0 l1 M → R145 sl sx d M0 P 7 [some (vR (some l0)), some (vI l1), none, none] [] M) (n : Nat) : ∀ (l0 : Nat) (l1 : Int32) (l2 : Option Nat) (l3 : Int32) (M : MM) (_ : lenO M0 M) (_ : w145_45 k7 n l0 l1 l2 l3 M P), R145 sl sx d M0 P 45 [some (vR (some l0)), some (vI l1), some (vR l2), some (vI l3)] [] M := by
  induction n with
  | zero => intro l0 l1 l2 l3 M hM h; cases h
  | succ n ih =>
    intro l0 l1 l2 l3 M hM h
    obtain ⟨a1, he, h⟩ := h
    refine RN_k (callX_det _) 2 _ _ _ _ (show R145 sl sx d M0 P 47 [some (vR (some l0)), some (vI l1), some (vR l2), some (vI l3)] [vR l2, vI l3] M from ?_)
    subst he
    refine RN_k (callX_det _) 1 _ _ _ _ (show kd M a1 8 ∧ R145 sl sx d M0 P 50 [some (vR (some l0)), some (vI l1), some (vR (some a1)), some (vI l3)] [vI (mI M a1 1), vI l3] M from ⟨h.1, ?_⟩)
    replace h := h.2
    refine RN_k (callX_det _) 1 _ _ _ _ (show ((mI M a1 1) ≤ l3 → R145 sl sx d M0 P 79 [some (vR (some l0)), some (vI l1), some (vR (some a1)), some (vI l3)] [] M) ∧ (¬ ((mI M a1 1) ≤ l3) → R145 sl sx d M0 P 53 [some (vR (some l0)), some (vI l1), some (vR (some a1)), some (vI l3)] [] M) from ⟨fun hc => ?_, fun hc => ?_⟩)
    · replace h := h.1 hc
      refine RN_k (callX_det _) 3 _ _ _ _ (show kd M l0 9 ∧ callX TBg sl sx (d + 2) 147 [vR (some l0), vI (59 : Int32)] M (fun v M9 => R145 sl sx d M0 P 85 [some (vR (some l0)), some (vI l1), some (vR (some a1)), some (vI l3)] (pushO v []) M9) from ⟨h.1, ?_⟩)
      replace h := h.2
      refine callX_mono (callX_len (d := (d + 2)) rfl rfl rfl (c147 (d := d + 1) h)) ?_
      clear h
      rintro v9 M2 ⟨hl, rfl, h⟩
      replace hM := lenT hM hl
      show R145 sl sx d M0 P 85 [some (vR (some l0)), some (vI l1), some (vR (some a1)), some (vI l3)] [] M2
      refine RN_k (callX_det _) 2 _ _ _ _ (show R145 sl sx d M0 P 7 [some (vR (some l0)), some (vI (l1 + (1 : Int32))), some (vR (some a1)), some (vI l3)] [] M2 from ?_)
      exact RN_weak (K := [some (vR (some l0)), some (vI (l1 + (1 : Int32))), none, none]) (callX_det _) (show _ ∧ _ ∧ True from ⟨rfl, rfl, trivial⟩) (hk7 l0 (l1 + (1 : Int32)) _ hM h)
    · replace h := h.2 hc
      refine RN_k (callX_det _) 3 _ _ _ _ (show kd M a1 8 ∧ R145 sl sx d M0 P 58 [some (vR (some l0)), some (vI l1), some (vR (some a1)), some (vI l3)] [vR (mR M a1 2), vR (some l0)] M from ⟨h.1, ?_⟩)
      replace h := h.2
      obtain ⟨a3, he, h⟩ := h
      refine RN_k (callX_det _) 1 _ _ _ _ (show R145 sl sx d M0 P 59 [some (vR (some l0)), some (vI l1), some (vR (some a1)), some (vI l3)] [vI l3, vR (mR M a1 2), vR (some l0)] M from ?_)
      rw [he]
      refine RN_k (callX_det _) 1 _ _ _ _ (show inb M a3 11 l3 ∧ R145 sl sx d M0 P 60 [some (vR (some l0)), some (vI l1), some (vR (some a1)), some (vI l3)] [vI (mI M a3 l3.toNatClampNeg), vR (some l0)] M from ⟨h.1, ?_⟩)
      replace h := h.2
      refine RN_k (callX_det _) 1 _ _ _ _ (show kd M l0 9 ∧ callX TBg sl sx (d + 2) 148 [vR (some l0), vI (mI M a3 l3.toNatClampNeg)] M (fun v M9 => R145 sl sx d M0 P 63 [some (vR (some l0)), some (vI l1), some (vR (some a1)), some (vI l3)] (pushO v []) M9) from ⟨h.1, ?_⟩)
      replace h := h.2
      refine callX_mono (callX_len (d := (d + 2)) rfl rfl rfl (c148 (d := d) h)) ?_
      clear h
      rintro v9 M4 ⟨hl, rfl, h⟩
      replace hM := lenT hM hl
      show R145 sl sx d M0 P 63 [some (vR (some l0)), some (vI l1), some (vR (some a1)), some (vI l3)] [] M4
      refine RN_k (callX_det _) 3 _ _ _ _ (show kd M4 a1 8 ∧ R145 sl sx d M0 P 68 [some (vR (some l0)), some (vI l1), some (vR (some a1)), some (vI l3)] [vR (mR M4 a1 3), vR (some l0)] M4 from ⟨h.1, ?_⟩)
      replace h := h.2
      obtain ⟨a5, he, h⟩ := h
      refine RN_k (callX_det _) 1 _ _ _ _ (show R145 sl sx d M0 P 69 [some (vR (some l0)), some (vI l1), some (vR (some a1)), some (vI l3)] [vI l3, vR (mR M4 a1 3), vR (some l0)] M4 from ?_)
      rw [he]
      refine RN_k (callX_det _) 1 _ _ _ _ (show inb M4 a5 11 l3 ∧ R145 sl sx d M0 P 70 [some (vR (some l0)), some (vI l1), some (vR (some a1)), some (vI l3)] [vI (mI M4 a5 l3.toNatClampNeg), vR (some l0)] M4 from ⟨h.1, ?_⟩)
      replace h := h.2
      refine RN_k (callX_det _) 1 _ _ _ _ (show kd M4 l0 9 ∧ callX TBg sl sx (d + 2) 148 [vR (some l0), vI (mI M4 a5 l3.toNatClampNeg)] M4 (fun v M9 => R145 sl sx d M0 P 73 [some (vR (some l0)), some (vI l1), some (vR (some a1)), some (vI l3)] (pushO v []) M9) from ⟨h.1, ?_⟩)
      replace h := h.2
      refine callX_mono (callX_len (d := (d + 2)) rfl rfl rfl (c148 (d := d) h)) ?_
      clear h
      rintro v9 M6 ⟨hl, rfl, h⟩
      replace hM := lenT hM hl
      show R145 sl sx d M0 P 73 [some (vR (some l0)), some (vI l1), some (vR (some a1)), some (vI l3)] [] M6
      refine RN_k (callX_det _) 2 _ _ _ _ (show R145 sl sx d M0 P 45 [some (vR (some l0)), some (vI l1), some (vR (some a1)), some (vI (l3 + (1 : Int32)))] [] M6 from ?_)
      exact RN_weak (K := [some (vR (some l0)), some (vI l1), some (vR (some a1)), some (vI (l3 + (1 : Int32)))]) (callX_det _) (show _ ∧ _ ∧ _ ∧ _ ∧ True from ⟨rfl, rfl, rfl, rfl, trivial⟩) (ih l0 l1 (some a1) (l3 + (1 : Int32)) _ hM h)
def w145_7 : Nat → Nat → Int32 → MM → (Int32 → MM → Prop) → Prop
  | 0 => fun _ _ _ _ => False
  | n + 1 => fun l0 l1 M P => kd M l0 9 ∧ (((mI M l0 6) ≤ l1 → (kd M l0 9 ∧ (kd M l0 9 ∧ w35 l0 (mI M l0 9) M (fun r2 M1 => P r2 M1)))) ∧ (¬ ((mI M l0 6) ≤ l1) → (kd M l0 9 ∧ (∃ a3, mR M l0 5 = some a3 ∧ (inb M a3 16 l1 ∧ (kd M l0 9 ∧ w146 l0 (7823737 : Int64) M (fun M4 => kd M4 l0 9 ∧ w147 l0 (32 : Int32) M4 (fun M5 => ∃ a6, mR M a3 l1.toNatClampNeg = some a6 ∧ (kd M5 a6 8 ∧ (kd M5 l0 9 ∧ w146 l0 (mL M5 a6 0) M5 (fun M7 => ∃ n2, w145_45 (fun z0 z1 z2 => w145_7  n z0 z1 z2 P) n2 l0 l1 (some a6) (0 : Int32) M7 P)))))))))))
theorem t145_7 {sl : Nat} {sx : Nat → Int32} {d : Nat} {M0 : MM} {P : Int32 → MM → Prop} (n : Nat) : ∀ (l0 : Nat) (l1 : Int32) (M : MM) (_ : lenO M0 M) (_ : w145_7  n l0 l1 M P), R145 sl sx d M0 P 7 [some (vR (some l0)), some (vI l1), none, none] [] M := by
  induction n with
  | zero => intro l0 l1 M hM h; cases h
  | succ n ih =>
    intro l0 l1 M hM h
    refine RN_k (callX_det _) 3 _ _ _ _ (show kd M l0 9 ∧ R145 sl sx d M0 P 12 [some (vR (some l0)), some (vI l1), none, none] [vI (mI M l0 6), vI l1] M from ⟨h.1, ?_⟩)
    replace h := h.2
    refine RN_k (callX_det _) 1 _ _ _ _ (show ((mI M l0 6) ≤ l1 → R145 sl sx d M0 P 91 [some (vR (some l0)), some (vI l1), none, none] [] M) ∧ (¬ ((mI M l0 6) ≤ l1) → R145 sl sx d M0 P 15 [some (vR (some l0)), some (vI l1), none, none] [] M) from ⟨fun hc => ?_, fun hc => ?_⟩)
    · replace h := h.1 hc
      refine RN_k (callX_det _) 3 _ _ _ _ (show kd M l0 9 ∧ R145 sl sx d M0 P 96 [some (vR (some l0)), some (vI l1), none, none] [vI (mI M l0 9), vR (some l0)] M from ⟨h.1, ?_⟩)
      replace h := h.2
      refine RN_k (callX_det _) 1 _ _ _ _ (show kd M l0 9 ∧ callX TBg sl sx (d + 2) 35 [vR (some l0), vI (mI M l0 9)] M (fun v M9 => R145 sl sx d M0 P 99 [some (vR (some l0)), some (vI l1), none, none] (pushO v []) M9) from ⟨h.1, ?_⟩)
      replace h := h.2
      refine callX_mono (callX_len (d := (d + 2)) rfl rfl rfl (c35 (d := d + 1) h)) ?_
      clear h
      rintro v9 M1 ⟨hl, r2, rfl, h⟩
      replace hM := lenT hM hl
      show R145 sl sx d M0 P 99 [some (vR (some l0)), some (vI l1), none, none] [vI r2] M1
      exact RN_k (callX_det _) 1 _ _ _ _ (show rtW q145 M0 (PI P) (some (vI r2)) M1 from ⟨⟨_, rfl⟩, hM.1, hM.2, _, rfl, h⟩)
    · replace h := h.2 hc
      refine RN_k (callX_det _) 2 _ _ _ _ (show kd M l0 9 ∧ R145 sl sx d M0 P 19 [some (vR (some l0)), some (vI l1), none, none] [vR (mR M l0 5)] M from ⟨h.1, ?_⟩)
      replace h := h.2
      obtain ⟨a3, he, h⟩ := h
      refine RN_k (callX_det _) 1 _ _ _ _ (show R145 sl sx d M0 P 20 [some (vR (some l0)), some (vI l1), none, none] [vI l1, vR (mR M l0 5)] M from ?_)
      rw [he]
      refine RN_k (callX_det _) 1 _ _ _ _ (show inb M a3 16 l1 ∧ R145 sl sx d M0 P 21 [some (vR (some l0)), some (vI l1), none, none] [vR (mR M a3 l1.toNatClampNeg)] M from ⟨h.1, ?_⟩)
      replace h := h.2
      refine RN_k (callX_det _) 4 _ _ _ _ (show kd M l0 9 ∧ callX TBg sl sx (d + 2) 146 [vR (some l0), vL (7823737 : Int64)] M (fun v M9 => R145 sl sx d M0 P 29 [some (vR (some l0)), some (vI l1), some (vR (mR M a3 l1.toNatClampNeg)), none] (pushO v []) M9) from ⟨h.1, ?_⟩)
      replace h := h.2
      refine callX_mono (callX_len (d := (d + 2)) rfl rfl rfl (c146 (d := d) h)) ?_
      clear h
      rintro v9 M4 ⟨hl, rfl, h⟩
      replace hM := lenT hM hl
      show R145 sl sx d M0 P 29 [some (vR (some l0)), some (vI l1), some (vR (mR M a3 l1.toNatClampNeg)), none] [] M4
      refine RN_k (callX_det _) 3 _ _ _ _ (show kd M4 l0 9 ∧ callX TBg sl sx (d + 2) 147 [vR (some l0), vI (32 : Int32)] M4 (fun v M9 => R145 sl sx d M0 P 35 [some (vR (some l0)), some (vI l1), some (vR (mR M a3 l1.toNatClampNeg)), none] (pushO v []) M9) from ⟨h.1, ?_⟩)
      replace h := h.2
      refine callX_mono (callX_len (d := (d + 2)) rfl rfl rfl (c147 (d := d + 1) h)) ?_
      clear h
      rintro v9 M5 ⟨hl, rfl, h⟩
      replace hM := lenT hM hl
      show R145 sl sx d M0 P 35 [some (vR (some l0)), some (vI l1), some (vR (mR M a3 l1.toNatClampNeg)), none] [] M5
      obtain ⟨a6, he, h⟩ := h
      refine RN_k (callX_det _) 2 _ _ _ _ (show R145 sl sx d M0 P 37 [some (vR (some l0)), some (vI l1), some (vR (mR M a3 l1.toNatClampNeg)), none] [vR (mR M a3 l1.toNatClampNeg), vR (some l0)] M5 from ?_)
      rw [he]
      refine RN_k (callX_det _) 1 _ _ _ _ (show kd M5 a6 8 ∧ R145 sl sx d M0 P 40 [some (vR (some l0)), some (vI l1), some (vR (some a6)), none] [vL (mL M5 a6 0), vR (some l0)] M5 from ⟨h.1, ?_⟩)
      replace h := h.2
      refine RN_k (callX_det _) 1 _ _ _ _ (show kd M5 l0 9 ∧ callX TBg sl sx (d + 2) 146 [vR (some l0), vL (mL M5 a6 0)] M5 (fun v M9 => R145 sl sx d M0 P 43 [some (vR (some l0)), some (vI l1), some (vR (some a6)), none] (pushO v []) M9) from ⟨h.1, ?_⟩)
      replace h := h.2
      refine callX_mono (callX_len (d := (d + 2)) rfl rfl rfl (c146 (d := d) h)) ?_
      clear h
      rintro v9 M7 ⟨hl, rfl, h⟩
      replace hM := lenT hM hl
      show R145 sl sx d M0 P 43 [some (vR (some l0)), some (vI l1), some (vR (some a6)), none] [] M7
      refine RN_k (callX_det _) 2 _ _ _ _ (show R145 sl sx d M0 P 45 [some (vR (some l0)), some (vI l1), some (vR (some a6)), some (vI (0 : Int32))] [] M7 from ?_)
      obtain ⟨n2, h⟩ := h
      exact RN_weak (K := [some (vR (some l0)), some (vI l1), some (vR (some a6)), some (vI (0 : Int32))]) (callX_det _) (show _ ∧ _ ∧ _ ∧ _ ∧ True from ⟨rfl, rfl, rfl, rfl, trivial⟩) (t145_45 ih n2 l0 l1 (some a6) (0 : Int32) _ hM h)
def w145 (l0 : Nat) (M : MM) (P : Int32 → MM → Prop) : Prop := kd M l0 9 ∧ (∃ n2, w145_7  n2 l0 (0 : Int32) (sI M l0 9 (0 : Int32)) P)
theorem t145_E {sl : Nat} {sx : Nat → Int32} {d : Nat} {M0 : MM} {P : Int32 → MM → Prop} (l0 : Nat) (M : MM) (hM : lenO M0 M) (h : w145  l0 M P) : R145 sl sx d M0 P 0 [some (vR (some l0)), none, none, none] [] M := by
  refine RN_k (callX_det _) 3 _ _ _ _ (show kd M l0 9 ∧ R145 sl sx d M0 P 5 [some (vR (some l0)), none, none, none] [] (sI M l0 9 (0 : Int32)) from ⟨h.1, ?_⟩)
  replace h := h.2
  refine RN_k (callX_det _) 2 _ _ _ _ (show R145 sl sx d M0 P 7 [some (vR (some l0)), some (vI (0 : Int32)), none, none] [] (sI M l0 9 (0 : Int32)) from ?_)
  obtain ⟨n2, h⟩ := h
  exact RN_weak (K := [some (vR (some l0)), some (vI (0 : Int32)), none, none]) (callX_det _) (show _ ∧ _ ∧ True from ⟨rfl, rfl, trivial⟩) (t145_7  n2 l0 (0 : Int32) _ hM h)
theorem c145 {sl : Nat} {sx : Nat → Int32} {d : Nat} {l0 : Nat} {M : MM} {P : Int32 → MM → Prop} (h : w145 l0 M P) : callX TBg sl sx (d + 3) 145 [vR (some l0)] M (PI P) :=
  cX (d := d + 2) q145 (false, tb145) rfl rfl rfl (t145_E l0 M lenR h)
-- TwoLeash.out(I)I
abbrev q149 : MQ7 := (2, 1, 2, 9, 0, 0, 1)
abbrev R149 (sl : Nat) (sx : Nat → Int32) (d : Nat) (M0 : MM) (P : Int32 → MM → Prop) : Nat → LL → List VV → MM → Prop := RN 9 false (mS M0).length (mT M0) 0 0 sl sx (callX TBg sl sx (d + 1)) (rtW q149 M0 (PI P)) (as2 tb149)
def w149 (l0 : Nat) (l1 : Int32) (M : MM) (P : Int32 → MM → Prop) : Prop := (0 ≤ l1 → (kd M l0 9 ∧ ((l1 < (mI M l0 9) → (kd M l0 9 ∧ (∃ a1, mR M l0 8 = some a1 ∧ (inb M a1 13 l1 ∧ (kd M l0 9 ∧ w35 l0 (mI M a1 l1.toNatClampNeg) M (fun r3 M2 => P r3 M2)))))) ∧ (¬ (l1 < (mI M l0 9)) → (kd M l0 9 ∧ w17 l0 (5 : Int32) M (fun r5 M4 => P r5 M4)))))) ∧ (¬ (0 ≤ l1) → (kd M l0 9 ∧ w17 l0 (1 : Int32) M (fun r7 M6 => P r7 M6)))
theorem t149_E {sl : Nat} {sx : Nat → Int32} {d : Nat} {M0 : MM} {P : Int32 → MM → Prop} (l0 : Nat) (l1 : Int32) (M : MM) (hM : lenO M0 M) (h : w149  l0 l1 M P) : R149 sl sx d M0 P 0 [some (vR (some l0)), some (vI l1)] [] M := by
  refine RN_k (callX_det _) 2 _ _ _ _ (show (0 ≤ l1 → R149 sl sx d M0 P 10 [some (vR (some l0)), some (vI l1)] [] M) ∧ (¬ (0 ≤ l1) → R149 sl sx d M0 P 4 [some (vR (some l0)), some (vI l1)] [] M) from ⟨fun hc => ?_, fun hc => ?_⟩)
  · replace h := h.1 hc
    refine RN_k (callX_det _) 3 _ _ _ _ (show kd M l0 9 ∧ R149 sl sx d M0 P 15 [some (vR (some l0)), some (vI l1)] [vI (mI M l0 9), vI l1] M from ⟨h.1, ?_⟩)
    replace h := h.2
    refine RN_k (callX_det _) 1 _ _ _ _ (show (l1 < (mI M l0 9) → R149 sl sx d M0 P 24 [some (vR (some l0)), some (vI l1)] [] M) ∧ (¬ (l1 < (mI M l0 9)) → R149 sl sx d M0 P 18 [some (vR (some l0)), some (vI l1)] [] M) from ⟨fun hc => ?_, fun hc => ?_⟩)
    · replace h := h.1 hc
      refine RN_k (callX_det _) 3 _ _ _ _ (show kd M l0 9 ∧ R149 sl sx d M0 P 29 [some (vR (some l0)), some (vI l1)] [vR (mR M l0 8), vR (some l0)] M from ⟨h.1, ?_⟩)
      replace h := h.2
      obtain ⟨a1, he, h⟩ := h
      refine RN_k (callX_det _) 1 _ _ _ _ (show R149 sl sx d M0 P 30 [some (vR (some l0)), some (vI l1)] [vI l1, vR (mR M l0 8), vR (some l0)] M from ?_)
      rw [he]
      refine RN_k (callX_det _) 1 _ _ _ _ (show inb M a1 13 l1 ∧ R149 sl sx d M0 P 31 [some (vR (some l0)), some (vI l1)] [vI (mI M a1 l1.toNatClampNeg), vR (some l0)] M from ⟨h.1, ?_⟩)
      replace h := h.2
      refine RN_k (callX_det _) 1 _ _ _ _ (show kd M l0 9 ∧ callX TBg sl sx (d + 1) 35 [vR (some l0), vI (mI M a1 l1.toNatClampNeg)] M (fun v M9 => R149 sl sx d M0 P 34 [some (vR (some l0)), some (vI l1)] (pushO v []) M9) from ⟨h.1, ?_⟩)
      replace h := h.2
      refine callX_mono (callX_len (d := (d + 1)) rfl rfl rfl (c35 (d := d) h)) ?_
      clear h
      rintro v9 M2 ⟨hl, r3, rfl, h⟩
      replace hM := lenT hM hl
      show R149 sl sx d M0 P 34 [some (vR (some l0)), some (vI l1)] [vI r3] M2
      exact RN_k (callX_det _) 1 _ _ _ _ (show rtW q149 M0 (PI P) (some (vI r3)) M2 from ⟨⟨_, rfl⟩, hM.1, hM.2, _, rfl, h⟩)
    · replace h := h.2 hc
      refine RN_k (callX_det _) 3 _ _ _ _ (show kd M l0 9 ∧ callX TBg sl sx (d + 1) 17 [vR (some l0), vI (5 : Int32)] M (fun v M9 => R149 sl sx d M0 P 23 [some (vR (some l0)), some (vI l1)] (pushO v []) M9) from ⟨h.1, ?_⟩)
      replace h := h.2
      refine callX_mono (callX_len (d := (d + 1)) rfl rfl rfl (c17 (d := d) h)) ?_
      clear h
      rintro v9 M4 ⟨hl, r5, rfl, h⟩
      replace hM := lenT hM hl
      show R149 sl sx d M0 P 23 [some (vR (some l0)), some (vI l1)] [vI r5] M4
      exact RN_k (callX_det _) 1 _ _ _ _ (show rtW q149 M0 (PI P) (some (vI r5)) M4 from ⟨⟨_, rfl⟩, hM.1, hM.2, _, rfl, h⟩)
  · replace h := h.2 hc
    refine RN_k (callX_det _) 3 _ _ _ _ (show kd M l0 9 ∧ callX TBg sl sx (d + 1) 17 [vR (some l0), vI (1 : Int32)] M (fun v M9 => R149 sl sx d M0 P 9 [some (vR (some l0)), some (vI l1)] (pushO v []) M9) from ⟨h.1, ?_⟩)
    replace h := h.2
    refine callX_mono (callX_len (d := (d + 1)) rfl rfl rfl (c17 (d := d) h)) ?_
    clear h
    rintro v9 M6 ⟨hl, r7, rfl, h⟩
    replace hM := lenT hM hl
    show R149 sl sx d M0 P 9 [some (vR (some l0)), some (vI l1)] [vI r7] M6
    exact RN_k (callX_det _) 1 _ _ _ _ (show rtW q149 M0 (PI P) (some (vI r7)) M6 from ⟨⟨_, rfl⟩, hM.1, hM.2, _, rfl, h⟩)
theorem c149 {sl : Nat} {sx : Nat → Int32} {d : Nat} {l0 : Nat} {l1 : Int32} {M : MM} {P : Int32 → MM → Prop} (h : w149 l0 l1 M P) : callX TBg sl sx (d + 2) 149 [vR (some l0), vI l1] M (PI P) :=
  cX (d := d + 1) q149 (false, tb149) rfl rfl rfl (t149_E l0 l1 M lenR h)
-- TwoLeash.isNumber(I)Z
abbrev q151 : MQ7 := (1, 0, 1, 9, 0, 0, 4)
abbrev R151 (sl : Nat) (sx : Nat → Int32) (d : Nat) (M0 : MM) (P : Int32 → MM → Prop) : Nat → LL → List VV → MM → Prop := RN 9 false (mS M0).length (mT M0) 0 0 sl sx (callX TBg sl sx (d + 0)) (rtW q151 M0 (PI P)) (as2 tb151)
def w151_15 (s0 : Int32) (M : MM) (P : Int32 → MM → Prop) : Prop := (s0 = 0 ∨ s0 = 1) ∧ P s0 M
theorem t151_15 {sl : Nat} {sx : Nat → Int32} {d : Nat} {M0 : MM} {P : Int32 → MM → Prop} (s0 : Int32) (M : MM) (hM : lenO M0 M) (h : w151_15  s0 M P) : R151 sl sx d M0 P 15 [none] [vI s0] M := by
  exact RN_k (callX_det _) 1 _ _ _ _ (show rtW q151 M0 (PI P) (some (vI s0)) M from ⟨⟨_, rfl, h.1⟩, hM.1, hM.2, _, rfl, h.2⟩)
def w151_14 (M : MM) (P : Int32 → MM → Prop) : Prop := w151_15  (0 : Int32) M P
theorem t151_14 {sl : Nat} {sx : Nat → Int32} {d : Nat} {M0 : MM} {P : Int32 → MM → Prop}  (M : MM) (hM : lenO M0 M) (h : w151_14   M P) : R151 sl sx d M0 P 14 [none] [] M := by
  refine RN_k (callX_det _) 1 _ _ _ _ (show R151 sl sx d M0 P 15 [none] [vI (0 : Int32)] M from ?_)
  exact RN_weak (K := [none]) (callX_det _) (show True from trivial) (t151_15  (0 : Int32) _ hM h)
def w151 (l0 : Int32) (M : MM) (P : Int32 → MM → Prop) : Prop := (l0 < 0 → (w151_14  M P)) ∧ (¬ (l0 < 0) → (((18 : Int32) < l0 → (w151_14  M P)) ∧ (¬ ((18 : Int32) < l0) → (w151_15  (1 : Int32) M P))))
theorem t151_E {sl : Nat} {sx : Nat → Int32} {d : Nat} {M0 : MM} {P : Int32 → MM → Prop} (l0 : Int32) (M : MM) (hM : lenO M0 M) (h : w151  l0 M P) : R151 sl sx d M0 P 0 [some (vI l0)] [] M := by
  refine RN_k (callX_det _) 2 _ _ _ _ (show (l0 < 0 → R151 sl sx d M0 P 14 [some (vI l0)] [] M) ∧ (¬ (l0 < 0) → R151 sl sx d M0 P 4 [some (vI l0)] [] M) from ⟨fun hc => ?_, fun hc => ?_⟩)
  · replace h := h.1 hc
    exact RN_weak (K := [none]) (callX_det _) (show True from trivial) (t151_14   _ hM h)
  · replace h := h.2 hc
    refine RN_k (callX_det _) 3 _ _ _ _ (show ((18 : Int32) < l0 → R151 sl sx d M0 P 14 [some (vI l0)] [] M) ∧ (¬ ((18 : Int32) < l0) → R151 sl sx d M0 P 10 [some (vI l0)] [] M) from ⟨fun hc => ?_, fun hc => ?_⟩)
    · replace h := h.1 hc
      exact RN_weak (K := [none]) (callX_det _) (show True from trivial) (t151_14   _ hM h)
    · replace h := h.2 hc
      refine RN_k (callX_det _) 2 _ _ _ _ (show R151 sl sx d M0 P 15 [some (vI l0)] [vI (1 : Int32)] M from ?_)
      exact RN_weak (K := [none]) (callX_det _) (show True from trivial) (t151_15  (1 : Int32) _ hM h)
theorem c151 {sl : Nat} {sx : Nat → Int32} {d : Nat} {l0 : Int32} {M : MM} {P : Int32 → MM → Prop} (h : w151 l0 M P) : callX TBg sl sx (d + 1) 151 [vI l0] M (PI P) :=
  cX (d := d + 0) q151 (false, tb151) rfl rfl rfl (t151_E l0 M lenR h)
-- TwoLeash$Acts.keep(ILTwoLeash$Track;)V
abbrev q152 : MQ7 := (3, 1, 3, 0, 0, 0, 0)
abbrev R152 (sl : Nat) (sx : Nat → Int32) (d : Nat) (M0 : MM) (P : MM → Prop) : Nat → LL → List VV → MM → Prop := RN 0 false (mS M0).length (mT M0) 0 0 sl sx (callX TBg sl sx (d + 3)) (rtW q152 M0 (PV P)) (as2 tb152)
def w152_43 (l0 : Nat) (s0 : Option Nat) (s1 : Int32) (M : MM) (P : MM → Prop) : Prop := ∃ a1, s0 = some a1 ∧ (kd M a1 0 ∧ (kd (sI M a1 2 s1) l0 0 ∧ (w70 ((mI (sI M a1 2 s1) l0 3) + (1 : Int32)) (10 : Int32) (sI M a1 2 s1) (fun r3 M2 => kd M2 l0 0 ∧ (P (sI M2 l0 3 r3))))))
theorem t152_43 {sl : Nat} {sx : Nat → Int32} {d : Nat} {M0 : MM} {P : MM → Prop} (l0 : Nat) (s0 : Option Nat) (s1 : Int32) (M : MM) (hM : lenO M0 M) (h : w152_43  l0 s0 s1 M P) : R152 sl sx d M0 P 43 [some (vR (some l0)), none, none] [vI s1, vR s0] M := by
  obtain ⟨a1, he, h⟩ := h
  subst he
  refine RN_k (callX_det _) 1 _ _ _ _ (show kd M a1 0 ∧ R152 sl sx d M0 P 46 [some (vR (some l0)), none, none] [] (sI M a1 2 s1) from ⟨h.1, ?_⟩)
  replace h := h.2
  refine RN_k (callX_det _) 3 _ _ _ _ (show kd (sI M a1 2 s1) l0 0 ∧ R152 sl sx d M0 P 51 [some (vR (some l0)), none, none] [vI (mI (sI M a1 2 s1) l0 3), vR (some l0)] (sI M a1 2 s1) from ⟨h.1, ?_⟩)
  replace h := h.2
  refine RN_k (callX_det _) 4 _ _ _ _ (show callX TBg sl sx (d + 3) 70 [vI ((mI (sI M a1 2 s1) l0 3) + (1 : Int32)), vI (10 : Int32)] (sI M a1 2 s1) (fun v M9 => R152 sl sx d M0 P 58 [some (vR (some l0)), none, none] (pushO v [vR (some l0)]) M9) from ?_)
  refine callX_mono (callX_len (d := (d + 3)) rfl rfl rfl (c70 (d := d + 2) h)) ?_
  clear h
  rintro v9 M2 ⟨hl, r3, rfl, h⟩
  replace hM := lenT hM hl
  show R152 sl sx d M0 P 58 [some (vR (some l0)), none, none] [vI r3, vR (some l0)] M2
  refine RN_k (callX_det _) 1 _ _ _ _ (show kd M2 l0 0 ∧ R152 sl sx d M0 P 61 [some (vR (some l0)), none, none] [] (sI M2 l0 3 r3) from ⟨h.1, ?_⟩)
  replace h := h.2
  exact RN_k (callX_det _) 1 _ _ _ _ (show rtW q152 M0 (PV P) none (sI M2 l0 3 r3) from ⟨rfl, hM.1, hM.2, rfl, h⟩)
def w152 (l0 : Nat) (l1 : Int32) (l2 : Option Nat) (M : MM) (P : MM → Prop) : Prop := kd M l0 0 ∧ (kd M l0 0 ∧ (∃ a1, mR M l0 0 = some a1 ∧ (inb M a1 16 (mI M l0 2) ∧ (∃ a2, mR M a1 (mI M l0 2).toNatClampNeg = some a2 ∧ (kd M a2 8 ∧ w31 a2 l2 M (fun M3 => kd M3 l0 0 ∧ (kd M3 l0 0 ∧ (∃ a4, mR M3 l0 1 = some a4 ∧ (inb M3 a4 11 (mI M3 l0 2) ∧ (kd (sI M3 a4 (mI M3 l0 2).toNatClampNeg l1) l0 0 ∧ (((mI (sI M3 a4 (mI M3 l0 2).toNatClampNeg l1) l0 2) ≠ (9 : Int32) → (kd (sI M3 a4 (mI M3 l0 2).toNatClampNeg l1) l0 0 ∧ (w152_43  l0 (some l0) ((mI (sI M3 a4 (mI M3 l0 2).toNatClampNeg l1) l0 2) + (1 : Int32)) (sI M3 a4 (mI M3 l0 2).toNatClampNeg l1) P))) ∧ (¬ ((mI (sI M3 a4 (mI M3 l0 2).toNatClampNeg l1) l0 2) ≠ (9 : Int32)) → (w152_43  l0 (some l0) (0 : Int32) (sI M3 a4 (mI M3 l0 2).toNatClampNeg l1) P)))))))))))))
theorem t152_E {sl : Nat} {sx : Nat → Int32} {d : Nat} {M0 : MM} {P : MM → Prop} (l0 : Nat) (l1 : Int32) (l2 : Option Nat) (M : MM) (hM : lenO M0 M) (h : w152  l0 l1 l2 M P) : R152 sl sx d M0 P 0 [some (vR (some l0)), some (vI l1), some (vR l2)] [] M := by
  refine RN_k (callX_det _) 2 _ _ _ _ (show kd M l0 0 ∧ R152 sl sx d M0 P 4 [some (vR (some l0)), some (vI l1), some (vR l2)] [vR (mR M l0 0)] M from ⟨h.1, ?_⟩)
  replace h := h.2
  refine RN_k (callX_det _) 2 _ _ _ _ (show kd M l0 0 ∧ R152 sl sx d M0 P 8 [some (vR (some l0)), some (vI l1), some (vR l2)] [vI (mI M l0 2), vR (mR M l0 0)] M from ⟨h.1, ?_⟩)
  replace h := h.2
  obtain ⟨a1, he, h⟩ := h
  rw [he]
  refine RN_k (callX_det _) 1 _ _ _ _ (show inb M a1 16 (mI M l0 2) ∧ R152 sl sx d M0 P 9 [some (vR (some l0)), some (vI l1), some (vR l2)] [vR (mR M a1 (mI M l0 2).toNatClampNeg)] M from ⟨h.1, ?_⟩)
  replace h := h.2
  obtain ⟨a2, he, h⟩ := h
  refine RN_k (callX_det _) 1 _ _ _ _ (show R152 sl sx d M0 P 10 [some (vR (some l0)), some (vI l1), some (vR l2)] [vR l2, vR (mR M a1 (mI M l0 2).toNatClampNeg)] M from ?_)
  rw [he]
  refine RN_k (callX_det _) 1 _ _ _ _ (show kd M a2 8 ∧ callX TBg sl sx (d + 3) 31 [vR (some a2), vR l2] M (fun v M9 => R152 sl sx d M0 P 13 [some (vR (some l0)), some (vI l1), some (vR l2)] (pushO v []) M9) from ⟨h.1, ?_⟩)
  replace h := h.2
  refine callX_mono (callX_len (d := (d + 3)) rfl rfl rfl (c31 (d := d) h)) ?_
  clear h
  rintro v9 M3 ⟨hl, rfl, h⟩
  replace hM := lenT hM hl
  show R152 sl sx d M0 P 13 [some (vR (some l0)), some (vI l1), some (vR l2)] [] M3
  refine RN_k (callX_det _) 2 _ _ _ _ (show kd M3 l0 0 ∧ R152 sl sx d M0 P 17 [some (vR (some l0)), some (vI l1), some (vR l2)] [vR (mR M3 l0 1)] M3 from ⟨h.1, ?_⟩)
  replace h := h.2
  refine RN_k (callX_det _) 2 _ _ _ _ (show kd M3 l0 0 ∧ R152 sl sx d M0 P 21 [some (vR (some l0)), some (vI l1), some (vR l2)] [vI (mI M3 l0 2), vR (mR M3 l0 1)] M3 from ⟨h.1, ?_⟩)
  replace h := h.2
  obtain ⟨a4, he, h⟩ := h
  refine RN_k (callX_det _) 1 _ _ _ _ (show R152 sl sx d M0 P 22 [some (vR (some l0)), some (vI l1), some (vR l2)] [vI l1, vI (mI M3 l0 2), vR (mR M3 l0 1)] M3 from ?_)
  rw [he]
  refine RN_k (callX_det _) 1 _ _ _ _ (show inb M3 a4 11 (mI M3 l0 2) ∧ R152 sl sx d M0 P 23 [some (vR (some l0)), some (vI l1), some (vR l2)] [] (sI M3 a4 (mI M3 l0 2).toNatClampNeg l1) from ⟨h.1, ?_⟩)
  replace h := h.2
  refine RN_k (callX_det _) 3 _ _ _ _ (show kd (sI M3 a4 (mI M3 l0 2).toNatClampNeg l1) l0 0 ∧ R152 sl sx d M0 P 28 [some (vR (some l0)), some (vI l1), some (vR l2)] [vI (mI (sI M3 a4 (mI M3 l0 2).toNatClampNeg l1) l0 2), vR (some l0)] (sI M3 a4 (mI M3 l0 2).toNatClampNeg l1) from ⟨h.1, ?_⟩)
  replace h := h.2
  refine RN_k (callX_det _) 2 _ _ _ _ (show ((mI (sI M3 a4 (mI M3 l0 2).toNatClampNeg l1) l0 2) ≠ (9 : Int32) → R152 sl sx d M0 P 37 [some (vR (some l0)), some (vI l1), some (vR l2)] [vR (some l0)] (sI M3 a4 (mI M3 l0 2).toNatClampNeg l1)) ∧ (¬ ((mI (sI M3 a4 (mI M3 l0 2).toNatClampNeg l1) l0 2) ≠ (9 : Int32)) → R152 sl sx d M0 P 33 [some (vR (some l0)), some (vI l1), some (vR l2)] [vR (some l0)] (sI M3 a4 (mI M3 l0 2).toNatClampNeg l1)) from ⟨fun hc => ?_, fun hc => ?_⟩)
  · replace h := h.1 hc
    refine RN_k (callX_det _) 2 _ _ _ _ (show kd (sI M3 a4 (mI M3 l0 2).toNatClampNeg l1) l0 0 ∧ R152 sl sx d M0 P 41 [some (vR (some l0)), some (vI l1), some (vR l2)] [vI (mI (sI M3 a4 (mI M3 l0 2).toNatClampNeg l1) l0 2), vR (some l0)] (sI M3 a4 (mI M3 l0 2).toNatClampNeg l1) from ⟨h.1, ?_⟩)
    replace h := h.2
    refine RN_k (callX_det _) 2 _ _ _ _ (show R152 sl sx d M0 P 43 [some (vR (some l0)), some (vI l1), some (vR l2)] [vI ((mI (sI M3 a4 (mI M3 l0 2).toNatClampNeg l1) l0 2) + (1 : Int32)), vR (some l0)] (sI M3 a4 (mI M3 l0 2).toNatClampNeg l1) from ?_)
    exact RN_weak (K := [some (vR (some l0)), none, none]) (callX_det _) (show _ ∧ True from ⟨rfl, trivial⟩) (t152_43  l0 (some l0) ((mI (sI M3 a4 (mI M3 l0 2).toNatClampNeg l1) l0 2) + (1 : Int32)) _ hM h)
  · replace h := h.2 hc
    refine RN_k (callX_det _) 2 _ _ _ _ (show R152 sl sx d M0 P 43 [some (vR (some l0)), some (vI l1), some (vR l2)] [vI (0 : Int32), vR (some l0)] (sI M3 a4 (mI M3 l0 2).toNatClampNeg l1) from ?_)
    exact RN_weak (K := [some (vR (some l0)), none, none]) (callX_det _) (show _ ∧ True from ⟨rfl, trivial⟩) (t152_43  l0 (some l0) (0 : Int32) _ hM h)
theorem c152 {sl : Nat} {sx : Nat → Int32} {d : Nat} {l0 : Nat} {l1 : Int32} {l2 : Option Nat} {M : MM} {P : MM → Prop} (h : w152 l0 l1 l2 M P) : callX TBg sl sx (d + 4) 152 [vR (some l0), vI l1, vR l2] M (PV P) :=
  cX (d := d + 3) q152 (false, tb152) rfl rfl rfl (t152_E l0 l1 l2 M lenR h)
-- TwoLeash.move(IIII)I
abbrev q150 : MQ7 := (5, 1, 8, 9, 0, 0, 1)
abbrev R150 (sl : Nat) (sx : Nat → Int32) (d : Nat) (M0 : MM) (P : Int32 → MM → Prop) : Nat → LL → List VV → MM → Prop := RN 9 false (mS M0).length (mT M0) 0 0 sl sx (callX TBg sl sx (d + 4)) (rtW q150 M0 (PI P)) (as2 tb150)
def w150_84 (l0 : Nat) (M : MM) (P : Int32 → MM → Prop) : Prop := kd M l0 9 ∧ w17 l0 (4 : Int32) M (fun r2 M1 => P r2 M1)
theorem t150_84 {sl : Nat} {sx : Nat → Int32} {d : Nat} {M0 : MM} {P : Int32 → MM → Prop} (l0 : Nat) (M : MM) (hM : lenO M0 M) (h : w150_84  l0 M P) : R150 sl sx d M0 P 84 [some (vR (some l0)), none, none, none, none, none, none, none] [] M := by
  refine RN_k (callX_det _) 3 _ _ _ _ (show kd M l0 9 ∧ callX TBg sl sx (d + 4) 17 [vR (some l0), vI (4 : Int32)] M (fun v M9 => R150 sl sx d M0 P 89 [some (vR (some l0)), none, none, none, none, none, none, none] (pushO v []) M9) from ⟨h.1, ?_⟩)
  replace h := h.2
  refine callX_mono (callX_len (d := (d + 4)) rfl rfl rfl (c17 (d := d + 3) h)) ?_
  clear h
  rintro v9 M1 ⟨hl, r2, rfl, h⟩
  replace hM := lenT hM hl
  show R150 sl sx d M0 P 89 [some (vR (some l0)), none, none, none, none, none, none, none] [vI r2] M1
  exact RN_k (callX_det _) 1 _ _ _ _ (show rtW q150 M0 (PI P) (some (vI r2)) M1 from ⟨⟨_, rfl⟩, hM.1, hM.2, _, rfl, h⟩)
def w150_15 (l0 : Nat) (M : MM) (P : Int32 → MM → Prop) : Prop := kd M l0 9 ∧ w17 l0 (1 : Int32) M (fun r2 M1 => P r2 M1)
theorem t150_15 {sl : Nat} {sx : Nat → Int32} {d : Nat} {M0 : MM} {P : Int32 → MM → Prop} (l0 : Nat) (M : MM) (hM : lenO M0 M) (h : w150_15  l0 M P) : R150 sl sx d M0 P 15 [some (vR (some l0)), none, none, none, none, none, none, none] [] M := by
  refine RN_k (callX_det _) 3 _ _ _ _ (show kd M l0 9 ∧ callX TBg sl sx (d + 4) 17 [vR (some l0), vI (1 : Int32)] M (fun v M9 => R150 sl sx d M0 P 20 [some (vR (some l0)), none, none, none, none, none, none, none] (pushO v []) M9) from ⟨h.1, ?_⟩)
  replace h := h.2
  refine callX_mono (callX_len (d := (d + 4)) rfl rfl rfl (c17 (d := d + 3) h)) ?_
  clear h
  rintro v9 M1 ⟨hl, r2, rfl, h⟩
  replace hM := lenT hM hl
  show R150 sl sx d M0 P 20 [some (vR (some l0)), none, none, none, none, none, none, none] [vI r2] M1
  exact RN_k (callX_det _) 1 _ _ _ _ (show rtW q150 M0 (PI P) (some (vI r2)) M1 from ⟨⟨_, rfl⟩, hM.1, hM.2, _, rfl, h⟩)
def w150 (l0 : Nat) (l1 : Int32) (l2 : Int32) (l3 : Int32) (l4 : Int32) (M : MM) (P : Int32 → MM → Prop) : Prop := w151 l3 M (fun r2 M1 => (r2 = 0 → (w150_15  l0 M1 P)) ∧ (¬ (r2 = 0) → (w151 l4 M1 (fun r4 M3 => (r4 ≠ 0 → (kd M3 l0 9 ∧ w45 l0 l1 l2 M3 (fun r6 M5 => (r6 ≠ 0 → (kd M5 l0 9 ∧ (∃ a7, mR M5 l0 5 = some a7 ∧ (inb M5 a7 16 l1 ∧ (∃ a8, mR M5 a7 l1.toNatClampNeg = some a8 ∧ (kd M5 a8 8 ∧ w28 a8 (l2 - (1 : Int32)) l3 l4 M5 (fun r10 M9 => (r10 ≠ 0 → (w150_84  l0 M9 P)) ∧ (¬ (r10 ≠ 0) → (kd M9 a8 8 ∧ w28 a8 l2 l3 l4 M9 (fun r12 M11 => (r12 ≠ 0 → (w150_84  l0 M11 P)) ∧ (¬ (r12 ≠ 0) → (kd M11 a8 8 ∧ w28 a8 (l2 + (1 : Int32)) l3 l4 M11 (fun r14 M13 => (r14 = 0 → (kd M13 l0 9 ∧ (∃ a15, mR M13 l0 7 = some a15 ∧ (kd M13 a15 0 ∧ w152 a15 l1 (some a8) M13 (fun M16 => kd M16 a8 8 ∧ (∃ a17, mR M16 a8 2 = some a17 ∧ (inb M16 a17 11 l2 ∧ (kd M16 a8 8 ∧ (∃ a18, mR M16 a8 3 = some a18 ∧ (inb M16 a18 11 l2 ∧ (kd M16 a8 8 ∧ (∃ a19, mR M16 a8 2 = some a19 ∧ (inb M16 a19 11 l2 ∧ (kd (sI M16 a19 l2.toNatClampNeg l3) a8 8 ∧ (∃ a20, mR (sI M16 a19 l2.toNatClampNeg l3) a8 3 = some a20 ∧ (inb (sI M16 a19 l2.toNatClampNeg l3) a20 11 l2 ∧ (kd (sI (sI M16 a19 l2.toNatClampNeg l3) a20 l2.toNatClampNeg l4) l0 9 ∧ w35 l0 (((l3 - (mI M16 a17 l2.toNatClampNeg)) * (l3 - (mI M16 a17 l2.toNatClampNeg))) + ((l4 - (mI M16 a18 l2.toNatClampNeg)) * (l4 - (mI M16 a18 l2.toNatClampNeg)))) (sI (sI M16 a19 l2.toNatClampNeg l3) a20 l2.toNatClampNeg l4) (fun r22 M21 => P r22 M21)))))))))))))))))) ∧ (¬ (r14 = 0) → (w150_84  l0 M13 P))))))))))))))) ∧ (¬ (r6 ≠ 0) → (kd M5 l0 9 ∧ w17 l0 (2 : Int32) M5 (fun r24 M23 => P r24 M23)))))) ∧ (¬ (r4 ≠ 0) → (w150_15  l0 M3 P))))))
theorem t150_E {sl : Nat} {sx : Nat → Int32} {d : Nat} {M0 : MM} {P : Int32 → MM → Prop} (l0 : Nat) (l1 : Int32) (l2 : Int32) (l3 : Int32) (l4 : Int32) (M : MM) (hM : lenO M0 M) (h : w150  l0 l1 l2 l3 l4 M P) : R150 sl sx d M0 P 0 [some (vR (some l0)), some (vI l1), some (vI l2), some (vI l3), some (vI l4), none, none, none] [] M := by
  refine RN_k (callX_det _) 2 _ _ _ _ (show callX TBg sl sx (d + 4) 151 [vI l3] M (fun v M9 => R150 sl sx d M0 P 4 [some (vR (some l0)), some (vI l1), some (vI l2), some (vI l3), some (vI l4), none, none, none] (pushO v []) M9) from ?_)
  refine callX_mono (callX_len (d := (d + 4)) rfl rfl rfl (c151 (d := d + 3) h)) ?_
  clear h
  rintro v9 M1 ⟨hl, r2, rfl, h⟩
  replace hM := lenT hM hl
  show R150 sl sx d M0 P 4 [some (vR (some l0)), some (vI l1), some (vI l2), some (vI l3), some (vI l4), none, none, none] [vI r2] M1
  refine RN_k (callX_det _) 1 _ _ _ _ (show (r2 = 0 → R150 sl sx d M0 P 15 [some (vR (some l0)), some (vI l1), some (vI l2), some (vI l3), some (vI l4), none, none, none] [] M1) ∧ (¬ (r2 = 0) → R150 sl sx d M0 P 7 [some (vR (some l0)), some (vI l1), some (vI l2), some (vI l3), some (vI l4), none, none, none] [] M1) from ⟨fun hc => ?_, fun hc => ?_⟩)
  · replace h := h.1 hc
    exact RN_weak (K := [some (vR (some l0)), none, none, none, none, none, none, none]) (callX_det _) (show _ ∧ True from ⟨rfl, trivial⟩) (t150_15  l0 _ hM h)
  · replace h := h.2 hc
    refine RN_k (callX_det _) 2 _ _ _ _ (show callX TBg sl sx (d + 4) 151 [vI l4] M1 (fun v M9 => R150 sl sx d M0 P 12 [some (vR (some l0)), some (vI l1), some (vI l2), some (vI l3), some (vI l4), none, none, none] (pushO v []) M9) from ?_)
    refine callX_mono (callX_len (d := (d + 4)) rfl rfl rfl (c151 (d := d + 3) h)) ?_
    clear h
    rintro v9 M3 ⟨hl, r4, rfl, h⟩
    replace hM := lenT hM hl
    show R150 sl sx d M0 P 12 [some (vR (some l0)), some (vI l1), some (vI l2), some (vI l3), some (vI l4), none, none, none] [vI r4] M3
    refine RN_k (callX_det _) 1 _ _ _ _ (show (r4 ≠ 0 → R150 sl sx d M0 P 21 [some (vR (some l0)), some (vI l1), some (vI l2), some (vI l3), some (vI l4), none, none, none] [] M3) ∧ (¬ (r4 ≠ 0) → R150 sl sx d M0 P 15 [some (vR (some l0)), some (vI l1), some (vI l2), some (vI l3), some (vI l4), none, none, none] [] M3) from ⟨fun hc => ?_, fun hc => ?_⟩)
    · replace h := h.1 hc
      refine RN_k (callX_det _) 4 _ _ _ _ (show kd M3 l0 9 ∧ callX TBg sl sx (d + 4) 45 [vR (some l0), vI l1, vI l2] M3 (fun v M9 => R150 sl sx d M0 P 27 [some (vR (some l0)), some (vI l1), some (vI l2), some (vI l3), some (vI l4), none, none, none] (pushO v []) M9) from ⟨h.1, ?_⟩)
      replace h := h.2
      refine callX_mono (callX_len (d := (d + 4)) rfl rfl rfl (c45 (d := d + 2) h)) ?_
      clear h
      rintro v9 M5 ⟨hl, r6, rfl, h⟩
      replace hM := lenT hM hl
      show R150 sl sx d M0 P 27 [some (vR (some l0)), some (vI l1), some (vI l2), some (vI l3), some (vI l4), none, none, none] [vI r6] M5
      refine RN_k (callX_det _) 1 _ _ _ _ (show (r6 ≠ 0 → R150 sl sx d M0 P 36 [some (vR (some l0)), some (vI l1), some (vI l2), some (vI l3), some (vI l4), none, none, none] [] M5) ∧ (¬ (r6 ≠ 0) → R150 sl sx d M0 P 30 [some (vR (some l0)), some (vI l1), some (vI l2), some (vI l3), some (vI l4), none, none, none] [] M5) from ⟨fun hc => ?_, fun hc => ?_⟩)
      · replace h := h.1 hc
        refine RN_k (callX_det _) 2 _ _ _ _ (show kd M5 l0 9 ∧ R150 sl sx d M0 P 40 [some (vR (some l0)), some (vI l1), some (vI l2), some (vI l3), some (vI l4), none, none, none] [vR (mR M5 l0 5)] M5 from ⟨h.1, ?_⟩)
        replace h := h.2
        obtain ⟨a7, he, h⟩ := h
        refine RN_k (callX_det _) 1 _ _ _ _ (show R150 sl sx d M0 P 41 [some (vR (some l0)), some (vI l1), some (vI l2), some (vI l3), some (vI l4), none, none, none] [vI l1, vR (mR M5 l0 5)] M5 from ?_)
        rw [he]
        refine RN_k (callX_det _) 1 _ _ _ _ (show inb M5 a7 16 l1 ∧ R150 sl sx d M0 P 42 [some (vR (some l0)), some (vI l1), some (vI l2), some (vI l3), some (vI l4), none, none, none] [vR (mR M5 a7 l1.toNatClampNeg)] M5 from ⟨h.1, ?_⟩)
        replace h := h.2
        obtain ⟨a8, he, h⟩ := h
        refine RN_k (callX_det _) 7 _ _ _ _ (show R150 sl sx d M0 P 52 [some (vR (some l0)), some (vI l1), some (vI l2), some (vI l3), some (vI l4), some (vR (mR M5 a7 l1.toNatClampNeg)), none, none] [vI l4, vI l3, vI (l2 - (1 : Int32)), vR (mR M5 a7 l1.toNatClampNeg)] M5 from ?_)
        rw [he]
        refine RN_k (callX_det _) 1 _ _ _ _ (show kd M5 a8 8 ∧ callX TBg sl sx (d + 4) 28 [vR (some a8), vI (l2 - (1 : Int32)), vI l3, vI l4] M5 (fun v M9 => R150 sl sx d M0 P 55 [some (vR (some l0)), some (vI l1), some (vI l2), some (vI l3), some (vI l4), some (vR (some a8)), none, none] (pushO v []) M9) from ⟨h.1, ?_⟩)
        replace h := h.2
        refine callX_mono (callX_len (d := (d + 4)) rfl rfl rfl (c28 (d := d + 3) h)) ?_
        clear h
        rintro v9 M9 ⟨hl, r10, rfl, h⟩
        replace hM := lenT hM hl
        show R150 sl sx d M0 P 55 [some (vR (some l0)), some (vI l1), some (vI l2), some (vI l3), some (vI l4), some (vR (some a8)), none, none] [vI r10] M9
        refine RN_k (callX_det _) 1 _ _ _ _ (show (r10 ≠ 0 → R150 sl sx d M0 P 84 [some (vR (some l0)), some (vI l1), some (vI l2), some (vI l3), some (vI l4), some (vR (some a8)), none, none] [] M9) ∧ (¬ (r10 ≠ 0) → R150 sl sx d M0 P 58 [some (vR (some l0)), some (vI l1), some (vI l2), some (vI l3), some (vI l4), some (vR (some a8)), none, none] [] M9) from ⟨fun hc => ?_, fun hc => ?_⟩)
        · replace h := h.1 hc
          exact RN_weak (K := [some (vR (some l0)), none, none, none, none, none, none, none]) (callX_det _) (show _ ∧ True from ⟨rfl, trivial⟩) (t150_84  l0 _ hM h)
        · replace h := h.2 hc
          refine RN_k (callX_det _) 5 _ _ _ _ (show kd M9 a8 8 ∧ callX TBg sl sx (d + 4) 28 [vR (some a8), vI l2, vI l3, vI l4] M9 (fun v M9 => R150 sl sx d M0 P 67 [some (vR (some l0)), some (vI l1), some (vI l2), some (vI l3), some (vI l4), some (vR (some a8)), none, none] (pushO v []) M9) from ⟨h.1, ?_⟩)
          replace h := h.2
          refine callX_mono (callX_len (d := (d + 4)) rfl rfl rfl (c28 (d := d + 3) h)) ?_
          clear h
          rintro v9 M11 ⟨hl, r12, rfl, h⟩
          replace hM := lenT hM hl
          show R150 sl sx d M0 P 67 [some (vR (some l0)), some (vI l1), some (vI l2), some (vI l3), some (vI l4), some (vR (some a8)), none, none] [vI r12] M11
          refine RN_k (callX_det _) 1 _ _ _ _ (show (r12 ≠ 0 → R150 sl sx d M0 P 84 [some (vR (some l0)), some (vI l1), some (vI l2), some (vI l3), some (vI l4), some (vR (some a8)), none, none] [] M11) ∧ (¬ (r12 ≠ 0) → R150 sl sx d M0 P 70 [some (vR (some l0)), some (vI l1), some (vI l2), some (vI l3), some (vI l4), some (vR (some a8)), none, none] [] M11) from ⟨fun hc => ?_, fun hc => ?_⟩)
          · replace h := h.1 hc
            exact RN_weak (K := [some (vR (some l0)), none, none, none, none, none, none, none]) (callX_det _) (show _ ∧ True from ⟨rfl, trivial⟩) (t150_84  l0 _ hM h)
          · replace h := h.2 hc
            refine RN_k (callX_det _) 7 _ _ _ _ (show kd M11 a8 8 ∧ callX TBg sl sx (d + 4) 28 [vR (some a8), vI (l2 + (1 : Int32)), vI l3, vI l4] M11 (fun v M9 => R150 sl sx d M0 P 81 [some (vR (some l0)), some (vI l1), some (vI l2), some (vI l3), some (vI l4), some (vR (some a8)), none, none] (pushO v []) M9) from ⟨h.1, ?_⟩)
            replace h := h.2
            refine callX_mono (callX_len (d := (d + 4)) rfl rfl rfl (c28 (d := d + 3) h)) ?_
            clear h
            rintro v9 M13 ⟨hl, r14, rfl, h⟩
            replace hM := lenT hM hl
            show R150 sl sx d M0 P 81 [some (vR (some l0)), some (vI l1), some (vI l2), some (vI l3), some (vI l4), some (vR (some a8)), none, none] [vI r14] M13
            refine RN_k (callX_det _) 1 _ _ _ _ (show (r14 = 0 → R150 sl sx d M0 P 90 [some (vR (some l0)), some (vI l1), some (vI l2), some (vI l3), some (vI l4), some (vR (some a8)), none, none] [] M13) ∧ (¬ (r14 = 0) → R150 sl sx d M0 P 84 [some (vR (some l0)), some (vI l1), some (vI l2), some (vI l3), some (vI l4), some (vR (some a8)), none, none] [] M13) from ⟨fun hc => ?_, fun hc => ?_⟩)
            · replace h := h.1 hc
              refine RN_k (callX_det _) 2 _ _ _ _ (show kd M13 l0 9 ∧ R150 sl sx d M0 P 94 [some (vR (some l0)), some (vI l1), some (vI l2), some (vI l3), some (vI l4), some (vR (some a8)), none, none] [vR (mR M13 l0 7)] M13 from ⟨h.1, ?_⟩)
              replace h := h.2
              obtain ⟨a15, he, h⟩ := h
              refine RN_k (callX_det _) 2 _ _ _ _ (show R150 sl sx d M0 P 97 [some (vR (some l0)), some (vI l1), some (vI l2), some (vI l3), some (vI l4), some (vR (some a8)), none, none] [vR (some a8), vI l1, vR (mR M13 l0 7)] M13 from ?_)
              rw [he]
              refine RN_k (callX_det _) 1 _ _ _ _ (show kd M13 a15 0 ∧ callX TBg sl sx (d + 4) 152 [vR (some a15), vI l1, vR (some a8)] M13 (fun v M9 => R150 sl sx d M0 P 100 [some (vR (some l0)), some (vI l1), some (vI l2), some (vI l3), some (vI l4), some (vR (some a8)), none, none] (pushO v []) M9) from ⟨h.1, ?_⟩)
              replace h := h.2
              refine callX_mono (callX_len (d := (d + 4)) rfl rfl rfl (c152 (d := d) h)) ?_
              clear h
              rintro v9 M16 ⟨hl, rfl, h⟩
              replace hM := lenT hM hl
              show R150 sl sx d M0 P 100 [some (vR (some l0)), some (vI l1), some (vI l2), some (vI l3), some (vI l4), some (vR (some a8)), none, none] [] M16
              refine RN_k (callX_det _) 3 _ _ _ _ (show kd M16 a8 8 ∧ R150 sl sx d M0 P 106 [some (vR (some l0)), some (vI l1), some (vI l2), some (vI l3), some (vI l4), some (vR (some a8)), none, none] [vR (mR M16 a8 2), vI l3] M16 from ⟨h.1, ?_⟩)
              replace h := h.2
              obtain ⟨a17, he, h⟩ := h
              refine RN_k (callX_det _) 1 _ _ _ _ (show R150 sl sx d M0 P 107 [some (vR (some l0)), some (vI l1), some (vI l2), some (vI l3), some (vI l4), some (vR (some a8)), none, none] [vI l2, vR (mR M16 a8 2), vI l3] M16 from ?_)
              rw [he]
              refine RN_k (callX_det _) 1 _ _ _ _ (show inb M16 a17 11 l2 ∧ R150 sl sx d M0 P 108 [some (vR (some l0)), some (vI l1), some (vI l2), some (vI l3), some (vI l4), some (vR (some a8)), none, none] [vI (mI M16 a17 l2.toNatClampNeg), vI l3] M16 from ⟨h.1, ?_⟩)
              replace h := h.2
              refine RN_k (callX_det _) 5 _ _ _ _ (show kd M16 a8 8 ∧ R150 sl sx d M0 P 118 [some (vR (some l0)), some (vI l1), some (vI l2), some (vI l3), some (vI l4), some (vR (some a8)), some (vI (l3 - (mI M16 a17 l2.toNatClampNeg))), none] [vR (mR M16 a8 3), vI l4] M16 from ⟨h.1, ?_⟩)
              replace h := h.2
              obtain ⟨a18, he, h⟩ := h
              refine RN_k (callX_det _) 1 _ _ _ _ (show R150 sl sx d M0 P 119 [some (vR (some l0)), some (vI l1), some (vI l2), some (vI l3), some (vI l4), some (vR (some a8)), some (vI (l3 - (mI M16 a17 l2.toNatClampNeg))), none] [vI l2, vR (mR M16 a8 3), vI l4] M16 from ?_)
              rw [he]
              refine RN_k (callX_det _) 1 _ _ _ _ (show inb M16 a18 11 l2 ∧ R150 sl sx d M0 P 120 [some (vR (some l0)), some (vI l1), some (vI l2), some (vI l3), some (vI l4), some (vR (some a8)), some (vI (l3 - (mI M16 a17 l2.toNatClampNeg))), none] [vI (mI M16 a18 l2.toNatClampNeg), vI l4] M16 from ⟨h.1, ?_⟩)
              replace h := h.2
              refine RN_k (callX_det _) 4 _ _ _ _ (show kd M16 a8 8 ∧ R150 sl sx d M0 P 128 [some (vR (some l0)), some (vI l1), some (vI l2), some (vI l3), some (vI l4), some (vR (some a8)), some (vI (l3 - (mI M16 a17 l2.toNatClampNeg))), some (vI (l4 - (mI M16 a18 l2.toNatClampNeg)))] [vR (mR M16 a8 2)] M16 from ⟨h.1, ?_⟩)
              replace h := h.2
              obtain ⟨a19, he, h⟩ := h
              refine RN_k (callX_det _) 2 _ _ _ _ (show R150 sl sx d M0 P 130 [some (vR (some l0)), some (vI l1), some (vI l2), some (vI l3), some (vI l4), some (vR (some a8)), some (vI (l3 - (mI M16 a17 l2.toNatClampNeg))), some (vI (l4 - (mI M16 a18 l2.toNatClampNeg)))] [vI l3, vI l2, vR (mR M16 a8 2)] M16 from ?_)
              rw [he]
              refine RN_k (callX_det _) 1 _ _ _ _ (show inb M16 a19 11 l2 ∧ R150 sl sx d M0 P 131 [some (vR (some l0)), some (vI l1), some (vI l2), some (vI l3), some (vI l4), some (vR (some a8)), some (vI (l3 - (mI M16 a17 l2.toNatClampNeg))), some (vI (l4 - (mI M16 a18 l2.toNatClampNeg)))] [] (sI M16 a19 l2.toNatClampNeg l3) from ⟨h.1, ?_⟩)
              replace h := h.2
              refine RN_k (callX_det _) 2 _ _ _ _ (show kd (sI M16 a19 l2.toNatClampNeg l3) a8 8 ∧ R150 sl sx d M0 P 136 [some (vR (some l0)), some (vI l1), some (vI l2), some (vI l3), some (vI l4), some (vR (some a8)), some (vI (l3 - (mI M16 a17 l2.toNatClampNeg))), some (vI (l4 - (mI M16 a18 l2.toNatClampNeg)))] [vR (mR (sI M16 a19 l2.toNatClampNeg l3) a8 3)] (sI M16 a19 l2.toNatClampNeg l3) from ⟨h.1, ?_⟩)
              replace h := h.2
              obtain ⟨a20, he, h⟩ := h
              refine RN_k (callX_det _) 2 _ _ _ _ (show R150 sl sx d M0 P 139 [some (vR (some l0)), some (vI l1), some (vI l2), some (vI l3), some (vI l4), some (vR (some a8)), some (vI (l3 - (mI M16 a17 l2.toNatClampNeg))), some (vI (l4 - (mI M16 a18 l2.toNatClampNeg)))] [vI l4, vI l2, vR (mR (sI M16 a19 l2.toNatClampNeg l3) a8 3)] (sI M16 a19 l2.toNatClampNeg l3) from ?_)
              rw [he]
              refine RN_k (callX_det _) 1 _ _ _ _ (show inb (sI M16 a19 l2.toNatClampNeg l3) a20 11 l2 ∧ R150 sl sx d M0 P 140 [some (vR (some l0)), some (vI l1), some (vI l2), some (vI l3), some (vI l4), some (vR (some a8)), some (vI (l3 - (mI M16 a17 l2.toNatClampNeg))), some (vI (l4 - (mI M16 a18 l2.toNatClampNeg)))] [] (sI (sI M16 a19 l2.toNatClampNeg l3) a20 l2.toNatClampNeg l4) from ⟨h.1, ?_⟩)
              replace h := h.2
              refine RN_k (callX_det _) 9 _ _ _ _ (show kd (sI (sI M16 a19 l2.toNatClampNeg l3) a20 l2.toNatClampNeg l4) l0 9 ∧ callX TBg sl sx (d + 4) 35 [vR (some l0), vI (((l3 - (mI M16 a17 l2.toNatClampNeg)) * (l3 - (mI M16 a17 l2.toNatClampNeg))) + ((l4 - (mI M16 a18 l2.toNatClampNeg)) * (l4 - (mI M16 a18 l2.toNatClampNeg))))] (sI (sI M16 a19 l2.toNatClampNeg l3) a20 l2.toNatClampNeg l4) (fun v M9 => R150 sl sx d M0 P 155 [some (vR (some l0)), some (vI l1), some (vI l2), some (vI l3), some (vI l4), some (vR (some a8)), some (vI (l3 - (mI M16 a17 l2.toNatClampNeg))), some (vI (l4 - (mI M16 a18 l2.toNatClampNeg)))] (pushO v []) M9) from ⟨h.1, ?_⟩)
              replace h := h.2
              refine callX_mono (callX_len (d := (d + 4)) rfl rfl rfl (c35 (d := d + 3) h)) ?_
              clear h
              rintro v9 M21 ⟨hl, r22, rfl, h⟩
              replace hM := lenT hM hl
              show R150 sl sx d M0 P 155 [some (vR (some l0)), some (vI l1), some (vI l2), some (vI l3), some (vI l4), some (vR (some a8)), some (vI (l3 - (mI M16 a17 l2.toNatClampNeg))), some (vI (l4 - (mI M16 a18 l2.toNatClampNeg)))] [vI r22] M21
              exact RN_k (callX_det _) 1 _ _ _ _ (show rtW q150 M0 (PI P) (some (vI r22)) M21 from ⟨⟨_, rfl⟩, hM.1, hM.2, _, rfl, h⟩)
            · replace h := h.2 hc
              exact RN_weak (K := [some (vR (some l0)), none, none, none, none, none, none, none]) (callX_det _) (show _ ∧ True from ⟨rfl, trivial⟩) (t150_84  l0 _ hM h)
      · replace h := h.2 hc
        refine RN_k (callX_det _) 3 _ _ _ _ (show kd M5 l0 9 ∧ callX TBg sl sx (d + 4) 17 [vR (some l0), vI (2 : Int32)] M5 (fun v M9 => R150 sl sx d M0 P 35 [some (vR (some l0)), some (vI l1), some (vI l2), some (vI l3), some (vI l4), none, none, none] (pushO v []) M9) from ⟨h.1, ?_⟩)
        replace h := h.2
        refine callX_mono (callX_len (d := (d + 4)) rfl rfl rfl (c17 (d := d + 3) h)) ?_
        clear h
        rintro v9 M23 ⟨hl, r24, rfl, h⟩
        replace hM := lenT hM hl
        show R150 sl sx d M0 P 35 [some (vR (some l0)), some (vI l1), some (vI l2), some (vI l3), some (vI l4), none, none, none] [vI r24] M23
        exact RN_k (callX_det _) 1 _ _ _ _ (show rtW q150 M0 (PI P) (some (vI r24)) M23 from ⟨⟨_, rfl⟩, hM.1, hM.2, _, rfl, h⟩)
    · replace h := h.2 hc
      exact RN_weak (K := [some (vR (some l0)), none, none, none, none, none, none, none]) (callX_det _) (show _ ∧ True from ⟨rfl, trivial⟩) (t150_15  l0 _ hM h)
theorem c150 {sl : Nat} {sx : Nat → Int32} {d : Nat} {l0 : Nat} {l1 : Int32} {l2 : Int32} {l3 : Int32} {l4 : Int32} {M : MM} {P : Int32 → MM → Prop} (h : w150 l0 l1 l2 l3 l4 M P) : callX TBg sl sx (d + 5) 150 [vR (some l0), vI l1, vI l2, vI l3, vI l4] M (PI P) :=
  cX (d := d + 4) q150 (false, tb150) rfl rfl rfl (t150_E l0 l1 l2 l3 l4 M lenR h)
-- TwoLeash$Track.insert(III)V
abbrev q154 : MQ7 := (4, 1, 5, 8, 0, 0, 0)
abbrev R154 (sl : Nat) (sx : Nat → Int32) (d : Nat) (M0 : MM) (P : MM → Prop) : Nat → LL → List VV → MM → Prop := RN 8 false (mS M0).length (mT M0) 0 0 sl sx (callX TBg sl sx (d + 0)) (rtW q154 M0 (PV P)) (as2 tb154)
def w154_66 (k28 : Nat → Int32 → Int32 → Int32 → Int32 → MM → Prop) (l0 : Nat) (l1 : Int32) (l2 : Int32) (l3 : Int32) (l4 : Int32) (M : MM) (P : MM → Prop) : Prop := k28 l0 l1 l2 l3 (l4 + (-1 : Int32)) M
theorem t154_66 {sl : Nat} {sx : Nat → Int32} {d : Nat} {M0 : MM} {P : MM → Prop} {k28 : Nat → Int32 → Int32 → Int32 → Int32 → MM → Prop} (hk28 : ∀ (l0 : Nat) (l1 : Int32) (l2 : Int32) (l3 : Int32) (l4 : Int32) (M : MM), lenO M0 M → k28 l0 l1 l2 l3 l4 M → R154 sl sx d M0 P 28 [some (vR (some l0)), some (vI l1), some (vI l2), some (vI l3), some (vI l4)] [] M) (l0 : Nat) (l1 : Int32) (l2 : Int32) (l3 : Int32) (l4 : Int32) (M : MM) (hM : lenO M0 M) (h : w154_66 k28 l0 l1 l2 l3 l4 M P) : R154 sl sx d M0 P 66 [some (vR (some l0)), some (vI l1), some (vI l2), some (vI l3), some (vI l4)] [] M := by
  refine RN_k (callX_det _) 2 _ _ _ _ (show R154 sl sx d M0 P 28 [some (vR (some l0)), some (vI l1), some (vI l2), some (vI l3), some (vI (l4 + (-1 : Int32)))] [] M from ?_)
  exact RN_weak (K := [some (vR (some l0)), some (vI l1), some (vI l2), some (vI l3), some (vI (l4 + (-1 : Int32)))]) (callX_det _) (show _ ∧ _ ∧ _ ∧ _ ∧ _ ∧ True from ⟨rfl, rfl, rfl, rfl, rfl, trivial⟩) (hk28 l0 l1 l2 l3 (l4 + (-1 : Int32)) _ hM h)
def w154_28 : Nat → Nat → Int32 → Int32 → Int32 → Int32 → MM → (MM → Prop) → Prop
  | 0 => fun _ _ _ _ _ _ _ => False
  | n + 1 => fun l0 l1 l2 l3 l4 M P => (l4 ≤ l1 → (kd M l0 8 ∧ (∃ a1, mR M l0 2 = some a1 ∧ (inb M a1 11 l1 ∧ (kd (sI M a1 l1.toNatClampNeg l2) l0 8 ∧ (∃ a2, mR (sI M a1 l1.toNatClampNeg l2) l0 3 = some a2 ∧ (inb (sI M a1 l1.toNatClampNeg l2) a2 11 l1 ∧ (kd (sI (sI M a1 l1.toNatClampNeg l2) a2 l1.toNatClampNeg l3) l0 8 ∧ (kd (sI (sI M a1 l1.toNatClampNeg l2) a2 l1.toNatClampNeg l3) l0 8 ∧ (P (sI (sI (sI M a1 l1.toNatClampNeg l2) a2 l1.toNatClampNeg l3) l0 1 ((mI (sI (sI M a1 l1.toNatClampNeg l2) a2 l1.toNatClampNeg l3) l0 1) + (1 : Int32))))))))))))) ∧ (¬ (l4 ≤ l1) → (kd M l0 8 ∧ (kd M l0 8 ∧ (∃ a3, mR M l0 2 = some a3 ∧ (inb M a3 11 (l4 - (1 : Int32)) ∧ (inb M a3 11 l4 ∧ (kd (sI M a3 l4.toNatClampNeg (mI M a3 (l4 - (1 : Int32)).toNatClampNeg)) l0 8 ∧ (kd (sI M a3 l4.toNatClampNeg (mI M a3 (l4 - (1 : Int32)).toNatClampNeg)) l0 8 ∧ (∃ a4, mR (sI M a3 l4.toNatClampNeg (mI M a3 (l4 - (1 : Int32)).toNatClampNeg)) l0 3 = some a4 ∧ (inb (sI M a3 l4.toNatClampNeg (mI M a3 (l4 - (1 : Int32)).toNatClampNeg)) a4 11 (l4 - (1 : Int32)) ∧ (inb (sI M a3 l4.toNatClampNeg (mI M a3 (l4 - (1 : Int32)).toNatClampNeg)) a4 11 l4 ∧ (w154_66 (fun z0 z1 z2 z3 z4 z5 => w154_28  n z0 z1 z2 z3 z4 z5 P) l0 l1 l2 l3 l4 (sI (sI M a3 l4.toNatClampNeg (mI M a3 (l4 - (1 : Int32)).toNatClampNeg)) a4 l4.toNatClampNeg (mI (sI M a3 l4.toNatClampNeg (mI M a3 (l4 - (1 : Int32)).toNatClampNeg)) a4 (l4 - (1 : Int32)).toNatClampNeg)) P))))))))))))
theorem t154_28 {sl : Nat} {sx : Nat → Int32} {d : Nat} {M0 : MM} {P : MM → Prop} (n : Nat) : ∀ (l0 : Nat) (l1 : Int32) (l2 : Int32) (l3 : Int32) (l4 : Int32) (M : MM) (_ : lenO M0 M) (_ : w154_28  n l0 l1 l2 l3 l4 M P), R154 sl sx d M0 P 28 [some (vR (some l0)), some (vI l1), some (vI l2), some (vI l3), some (vI l4)] [] M := by
  induction n with
  | zero => intro l0 l1 l2 l3 l4 M hM h; cases h
  | succ n ih =>
    intro l0 l1 l2 l3 l4 M hM h
    refine RN_k (callX_det _) 3 _ _ _ _ (show (l4 ≤ l1 → R154 sl sx d M0 P 72 [some (vR (some l0)), some (vI l1), some (vI l2), some (vI l3), some (vI l4)] [] M) ∧ (¬ (l4 ≤ l1) → R154 sl sx d M0 P 34 [some (vR (some l0)), some (vI l1), some (vI l2), some (vI l3), some (vI l4)] [] M) from ⟨fun hc => ?_, fun hc => ?_⟩)
    · replace h := h.1 hc
      refine RN_k (callX_det _) 2 _ _ _ _ (show kd M l0 8 ∧ R154 sl sx d M0 P 76 [some (vR (some l0)), some (vI l1), some (vI l2), some (vI l3), some (vI l4)] [vR (mR M l0 2)] M from ⟨h.1, ?_⟩)
      replace h := h.2
      obtain ⟨a1, he, h⟩ := h
      refine RN_k (callX_det _) 2 _ _ _ _ (show R154 sl sx d M0 P 78 [some (vR (some l0)), some (vI l1), some (vI l2), some (vI l3), some (vI l4)] [vI l2, vI l1, vR (mR M l0 2)] M from ?_)
      rw [he]
      refine RN_k (callX_det _) 1 _ _ _ _ (show inb M a1 11 l1 ∧ R154 sl sx d M0 P 79 [some (vR (some l0)), some (vI l1), some (vI l2), some (vI l3), some (vI l4)] [] (sI M a1 l1.toNatClampNeg l2) from ⟨h.1, ?_⟩)
      replace h := h.2
      refine RN_k (callX_det _) 2 _ _ _ _ (show kd (sI M a1 l1.toNatClampNeg l2) l0 8 ∧ R154 sl sx d M0 P 83 [some (vR (some l0)), some (vI l1), some (vI l2), some (vI l3), some (vI l4)] [vR (mR (sI M a1 l1.toNatClampNeg l2) l0 3)] (sI M a1 l1.toNatClampNeg l2) from ⟨h.1, ?_⟩)
      replace h := h.2
      obtain ⟨a2, he, h⟩ := h
      refine RN_k (callX_det _) 2 _ _ _ _ (show R154 sl sx d M0 P 85 [some (vR (some l0)), some (vI l1), some (vI l2), some (vI l3), some (vI l4)] [vI l3, vI l1, vR (mR (sI M a1 l1.toNatClampNeg l2) l0 3)] (sI M a1 l1.toNatClampNeg l2) from ?_)
      rw [he]
      refine RN_k (callX_det _) 1 _ _ _ _ (show inb (sI M a1 l1.toNatClampNeg l2) a2 11 l1 ∧ R154 sl sx d M0 P 86 [some (vR (some l0)), some (vI l1), some (vI l2), some (vI l3), some (vI l4)] [] (sI (sI M a1 l1.toNatClampNeg l2) a2 l1.toNatClampNeg l3) from ⟨h.1, ?_⟩)
      replace h := h.2
      refine RN_k (callX_det _) 3 _ _ _ _ (show kd (sI (sI M a1 l1.toNatClampNeg l2) a2 l1.toNatClampNeg l3) l0 8 ∧ R154 sl sx d M0 P 91 [some (vR (some l0)), some (vI l1), some (vI l2), some (vI l3), some (vI l4)] [vI (mI (sI (sI M a1 l1.toNatClampNeg l2) a2 l1.toNatClampNeg l3) l0 1), vR (some l0)] (sI (sI M a1 l1.toNatClampNeg l2) a2 l1.toNatClampNeg l3) from ⟨h.1, ?_⟩)
      replace h := h.2
      refine RN_k (callX_det _) 3 _ _ _ _ (show kd (sI (sI M a1 l1.toNatClampNeg l2) a2 l1.toNatClampNeg l3) l0 8 ∧ R154 sl sx d M0 P 96 [some (vR (some l0)), some (vI l1), some (vI l2), some (vI l3), some (vI l4)] [] (sI (sI (sI M a1 l1.toNatClampNeg l2) a2 l1.toNatClampNeg l3) l0 1 ((mI (sI (sI M a1 l1.toNatClampNeg l2) a2 l1.toNatClampNeg l3) l0 1) + (1 : Int32))) from ⟨h.1, ?_⟩)
      replace h := h.2
      exact RN_k (callX_det _) 1 _ _ _ _ (show rtW q154 M0 (PV P) none (sI (sI (sI M a1 l1.toNatClampNeg l2) a2 l1.toNatClampNeg l3) l0 1 ((mI (sI (sI M a1 l1.toNatClampNeg l2) a2 l1.toNatClampNeg l3) l0 1) + (1 : Int32))) from ⟨rfl, hM.1, hM.2, rfl, h⟩)
    · replace h := h.2 hc
      refine RN_k (callX_det _) 2 _ _ _ _ (show kd M l0 8 ∧ R154 sl sx d M0 P 38 [some (vR (some l0)), some (vI l1), some (vI l2), some (vI l3), some (vI l4)] [vR (mR M l0 2)] M from ⟨h.1, ?_⟩)
      replace h := h.2
      refine RN_k (callX_det _) 3 _ _ _ _ (show kd M l0 8 ∧ R154 sl sx d M0 P 44 [some (vR (some l0)), some (vI l1), some (vI l2), some (vI l3), some (vI l4)] [vR (mR M l0 2), vI l4, vR (mR M l0 2)] M from ⟨h.1, ?_⟩)
      replace h := h.2
      obtain ⟨a3, he, h⟩ := h
      refine RN_k (callX_det _) 3 _ _ _ _ (show R154 sl sx d M0 P 48 [some (vR (some l0)), some (vI l1), some (vI l2), some (vI l3), some (vI l4)] [vI (l4 - (1 : Int32)), vR (mR M l0 2), vI l4, vR (mR M l0 2)] M from ?_)
      rw [he]
      refine RN_k (callX_det _) 1 _ _ _ _ (show inb M a3 11 (l4 - (1 : Int32)) ∧ R154 sl sx d M0 P 49 [some (vR (some l0)), some (vI l1), some (vI l2), some (vI l3), some (vI l4)] [vI (mI M a3 (l4 - (1 : Int32)).toNatClampNeg), vI l4, vR (some a3)] M from ⟨h.1, ?_⟩)
      replace h := h.2
      refine RN_k (callX_det _) 1 _ _ _ _ (show inb M a3 11 l4 ∧ R154 sl sx d M0 P 50 [some (vR (some l0)), some (vI l1), some (vI l2), some (vI l3), some (vI l4)] [] (sI M a3 l4.toNatClampNeg (mI M a3 (l4 - (1 : Int32)).toNatClampNeg)) from ⟨h.1, ?_⟩)
      replace h := h.2
      refine RN_k (callX_det _) 2 _ _ _ _ (show kd (sI M a3 l4.toNatClampNeg (mI M a3 (l4 - (1 : Int32)).toNatClampNeg)) l0 8 ∧ R154 sl sx d M0 P 54 [some (vR (some l0)), some (vI l1), some (vI l2), some (vI l3), some (vI l4)] [vR (mR (sI M a3 l4.toNatClampNeg (mI M a3 (l4 - (1 : Int32)).toNatClampNeg)) l0 3)] (sI M a3 l4.toNatClampNeg (mI M a3 (l4 - (1 : Int32)).toNatClampNeg)) from ⟨h.1, ?_⟩)
      replace h := h.2
      refine RN_k (callX_det _) 3 _ _ _ _ (show kd (sI M a3 l4.toNatClampNeg (mI M a3 (l4 - (1 : Int32)).toNatClampNeg)) l0 8 ∧ R154 sl sx d M0 P 60 [some (vR (some l0)), some (vI l1), some (vI l2), some (vI l3), some (vI l4)] [vR (mR (sI M a3 l4.toNatClampNeg (mI M a3 (l4 - (1 : Int32)).toNatClampNeg)) l0 3), vI l4, vR (mR (sI M a3 l4.toNatClampNeg (mI M a3 (l4 - (1 : Int32)).toNatClampNeg)) l0 3)] (sI M a3 l4.toNatClampNeg (mI M a3 (l4 - (1 : Int32)).toNatClampNeg)) from ⟨h.1, ?_⟩)
      replace h := h.2
      obtain ⟨a4, he, h⟩ := h
      refine RN_k (callX_det _) 3 _ _ _ _ (show R154 sl sx d M0 P 64 [some (vR (some l0)), some (vI l1), some (vI l2), some (vI l3), some (vI l4)] [vI (l4 - (1 : Int32)), vR (mR (sI M a3 l4.toNatClampNeg (mI M a3 (l4 - (1 : Int32)).toNatClampNeg)) l0 3), vI l4, vR (mR (sI M a3 l4.toNatClampNeg (mI M a3 (l4 - (1 : Int32)).toNatClampNeg)) l0 3)] (sI M a3 l4.toNatClampNeg (mI M a3 (l4 - (1 : Int32)).toNatClampNeg)) from ?_)
      rw [he]
      refine RN_k (callX_det _) 1 _ _ _ _ (show inb (sI M a3 l4.toNatClampNeg (mI M a3 (l4 - (1 : Int32)).toNatClampNeg)) a4 11 (l4 - (1 : Int32)) ∧ R154 sl sx d M0 P 65 [some (vR (some l0)), some (vI l1), some (vI l2), some (vI l3), some (vI l4)] [vI (mI (sI M a3 l4.toNatClampNeg (mI M a3 (l4 - (1 : Int32)).toNatClampNeg)) a4 (l4 - (1 : Int32)).toNatClampNeg), vI l4, vR (some a4)] (sI M a3 l4.toNatClampNeg (mI M a3 (l4 - (1 : Int32)).toNatClampNeg)) from ⟨h.1, ?_⟩)
      replace h := h.2
      refine RN_k (callX_det _) 1 _ _ _ _ (show inb (sI M a3 l4.toNatClampNeg (mI M a3 (l4 - (1 : Int32)).toNatClampNeg)) a4 11 l4 ∧ R154 sl sx d M0 P 66 [some (vR (some l0)), some (vI l1), some (vI l2), some (vI l3), some (vI l4)] [] (sI (sI M a3 l4.toNatClampNeg (mI M a3 (l4 - (1 : Int32)).toNatClampNeg)) a4 l4.toNatClampNeg (mI (sI M a3 l4.toNatClampNeg (mI M a3 (l4 - (1 : Int32)).toNatClampNeg)) a4 (l4 - (1 : Int32)).toNatClampNeg)) from ⟨h.1, ?_⟩)
      replace h := h.2
      exact RN_weak (K := [some (vR (some l0)), some (vI l1), some (vI l2), some (vI l3), some (vI l4)]) (callX_det _) (show _ ∧ _ ∧ _ ∧ _ ∧ _ ∧ True from ⟨rfl, rfl, rfl, rfl, rfl, trivial⟩) (t154_66 ih l0 l1 l2 l3 l4 _ hM h)
def w154_21 (M : MM) (P : MM → Prop) : Prop := P M
theorem t154_21 {sl : Nat} {sx : Nat → Int32} {d : Nat} {M0 : MM} {P : MM → Prop}  (M : MM) (hM : lenO M0 M) (h : w154_21   M P) : R154 sl sx d M0 P 21 [none, none, none, none, none] [] M := by
  exact RN_k (callX_det _) 1 _ _ _ _ (show rtW q154 M0 (PV P) none M from ⟨rfl, hM.1, hM.2, rfl, h⟩)
def w154 (l0 : Nat) (l1 : Int32) (l2 : Int32) (l3 : Int32) (M : MM) (P : MM → Prop) : Prop := (l1 < 0 → (w154_21  M P)) ∧ (¬ (l1 < 0) → (kd M l0 8 ∧ (((mI M l0 1) < l1 → (w154_21  M P)) ∧ (¬ ((mI M l0 1) < l1) → (kd M l0 8 ∧ (((mI M l0 1) < (8 : Int32) → (kd M l0 8 ∧ (∃ n2, w154_28  n2 l0 l1 l2 l3 (mI M l0 1) M P))) ∧ (¬ ((mI M l0 1) < (8 : Int32)) → (w154_21  M P))))))))
theorem t154_E {sl : Nat} {sx : Nat → Int32} {d : Nat} {M0 : MM} {P : MM → Prop} (l0 : Nat) (l1 : Int32) (l2 : Int32) (l3 : Int32) (M : MM) (hM : lenO M0 M) (h : w154  l0 l1 l2 l3 M P) : R154 sl sx d M0 P 0 [some (vR (some l0)), some (vI l1), some (vI l2), some (vI l3), none] [] M := by
  refine RN_k (callX_det _) 2 _ _ _ _ (show (l1 < 0 → R154 sl sx d M0 P 21 [some (vR (some l0)), some (vI l1), some (vI l2), some (vI l3), none] [] M) ∧ (¬ (l1 < 0) → R154 sl sx d M0 P 4 [some (vR (some l0)), some (vI l1), some (vI l2), some (vI l3), none] [] M) from ⟨fun hc => ?_, fun hc => ?_⟩)
  · replace h := h.1 hc
    exact RN_weak (K := [none, none, none, none, none]) (callX_det _) (show True from trivial) (t154_21   _ hM h)
  · replace h := h.2 hc
    refine RN_k (callX_det _) 3 _ _ _ _ (show kd M l0 8 ∧ R154 sl sx d M0 P 9 [some (vR (some l0)), some (vI l1), some (vI l2), some (vI l3), none] [vI (mI M l0 1), vI l1] M from ⟨h.1, ?_⟩)
    replace h := h.2
    refine RN_k (callX_det _) 1 _ _ _ _ (show ((mI M l0 1) < l1 → R154 sl sx d M0 P 21 [some (vR (some l0)), some (vI l1), some (vI l2), some (vI l3), none] [] M) ∧ (¬ ((mI M l0 1) < l1) → R154 sl sx d M0 P 12 [some (vR (some l0)), some (vI l1), some (vI l2), some (vI l3), none] [] M) from ⟨fun hc => ?_, fun hc => ?_⟩)
    · replace h := h.1 hc
      exact RN_weak (K := [none, none, none, none, none]) (callX_det _) (show True from trivial) (t154_21   _ hM h)
    · replace h := h.2 hc
      refine RN_k (callX_det _) 2 _ _ _ _ (show kd M l0 8 ∧ R154 sl sx d M0 P 16 [some (vR (some l0)), some (vI l1), some (vI l2), some (vI l3), none] [vI (mI M l0 1)] M from ⟨h.1, ?_⟩)
      replace h := h.2
      refine RN_k (callX_det _) 2 _ _ _ _ (show ((mI M l0 1) < (8 : Int32) → R154 sl sx d M0 P 22 [some (vR (some l0)), some (vI l1), some (vI l2), some (vI l3), none] [] M) ∧ (¬ ((mI M l0 1) < (8 : Int32)) → R154 sl sx d M0 P 21 [some (vR (some l0)), some (vI l1), some (vI l2), some (vI l3), none] [] M) from ⟨fun hc => ?_, fun hc => ?_⟩)
      · replace h := h.1 hc
        refine RN_k (callX_det _) 2 _ _ _ _ (show kd M l0 8 ∧ R154 sl sx d M0 P 26 [some (vR (some l0)), some (vI l1), some (vI l2), some (vI l3), none] [vI (mI M l0 1)] M from ⟨h.1, ?_⟩)
        replace h := h.2
        refine RN_k (callX_det _) 1 _ _ _ _ (show R154 sl sx d M0 P 28 [some (vR (some l0)), some (vI l1), some (vI l2), some (vI l3), some (vI (mI M l0 1))] [] M from ?_)
        obtain ⟨n2, h⟩ := h
        exact RN_weak (K := [some (vR (some l0)), some (vI l1), some (vI l2), some (vI l3), some (vI (mI M l0 1))]) (callX_det _) (show _ ∧ _ ∧ _ ∧ _ ∧ _ ∧ True from ⟨rfl, rfl, rfl, rfl, rfl, trivial⟩) (t154_28  n2 l0 l1 l2 l3 (mI M l0 1) _ hM h)
      · replace h := h.2 hc
        exact RN_weak (K := [none, none, none, none, none]) (callX_det _) (show True from trivial) (t154_21   _ hM h)
theorem c154 {sl : Nat} {sx : Nat → Int32} {d : Nat} {l0 : Nat} {l1 : Int32} {l2 : Int32} {l3 : Int32} {M : MM} {P : MM → Prop} (h : w154 l0 l1 l2 l3 M P) : callX TBg sl sx (d + 1) 154 [vR (some l0), vI l1, vI l2, vI l3] M (PV P) :=
  cX (d := d + 0) q154 (false, tb154) rfl rfl rfl (t154_E l0 l1 l2 l3 M lenR h)
-- TwoLeash.add(IIII)I
abbrev q153 : MQ7 := (5, 1, 6, 9, 0, 0, 1)
abbrev R153 (sl : Nat) (sx : Nat → Int32) (d : Nat) (M0 : MM) (P : Int32 → MM → Prop) : Nat → LL → List VV → MM → Prop := RN 9 false (mS M0).length (mT M0) 0 0 sl sx (callX TBg sl sx (d + 4)) (rtW q153 M0 (PI P)) (as2 tb153)
def w153_102 (l0 : Nat) (M : MM) (P : Int32 → MM → Prop) : Prop := kd M l0 9 ∧ w17 l0 (4 : Int32) M (fun r2 M1 => P r2 M1)
theorem t153_102 {sl : Nat} {sx : Nat → Int32} {d : Nat} {M0 : MM} {P : Int32 → MM → Prop} (l0 : Nat) (M : MM) (hM : lenO M0 M) (h : w153_102  l0 M P) : R153 sl sx d M0 P 102 [some (vR (some l0)), none, none, none, none, none] [] M := by
  refine RN_k (callX_det _) 3 _ _ _ _ (show kd M l0 9 ∧ callX TBg sl sx (d + 4) 17 [vR (some l0), vI (4 : Int32)] M (fun v M9 => R153 sl sx d M0 P 107 [some (vR (some l0)), none, none, none, none, none] (pushO v []) M9) from ⟨h.1, ?_⟩)
  replace h := h.2
  refine callX_mono (callX_len (d := (d + 4)) rfl rfl rfl (c17 (d := d + 3) h)) ?_
  clear h
  rintro v9 M1 ⟨hl, r2, rfl, h⟩
  replace hM := lenT hM hl
  show R153 sl sx d M0 P 107 [some (vR (some l0)), none, none, none, none, none] [vI r2] M1
  exact RN_k (callX_det _) 1 _ _ _ _ (show rtW q153 M0 (PI P) (some (vI r2)) M1 from ⟨⟨_, rfl⟩, hM.1, hM.2, _, rfl, h⟩)
def w153_46 (l0 : Nat) (M : MM) (P : Int32 → MM → Prop) : Prop := kd M l0 9 ∧ w17 l0 (2 : Int32) M (fun r2 M1 => P r2 M1)
theorem t153_46 {sl : Nat} {sx : Nat → Int32} {d : Nat} {M0 : MM} {P : Int32 → MM → Prop} (l0 : Nat) (M : MM) (hM : lenO M0 M) (h : w153_46  l0 M P) : R153 sl sx d M0 P 46 [some (vR (some l0)), none, none, none, none, none] [] M := by
  refine RN_k (callX_det _) 3 _ _ _ _ (show kd M l0 9 ∧ callX TBg sl sx (d + 4) 17 [vR (some l0), vI (2 : Int32)] M (fun v M9 => R153 sl sx d M0 P 51 [some (vR (some l0)), none, none, none, none, none] (pushO v []) M9) from ⟨h.1, ?_⟩)
  replace h := h.2
  refine callX_mono (callX_len (d := (d + 4)) rfl rfl rfl (c17 (d := d + 3) h)) ?_
  clear h
  rintro v9 M1 ⟨hl, r2, rfl, h⟩
  replace hM := lenT hM hl
  show R153 sl sx d M0 P 51 [some (vR (some l0)), none, none, none, none, none] [vI r2] M1
  exact RN_k (callX_det _) 1 _ _ _ _ (show rtW q153 M0 (PI P) (some (vI r2)) M1 from ⟨⟨_, rfl⟩, hM.1, hM.2, _, rfl, h⟩)
def w153_15 (l0 : Nat) (M : MM) (P : Int32 → MM → Prop) : Prop := kd M l0 9 ∧ w17 l0 (1 : Int32) M (fun r2 M1 => P r2 M1)
theorem t153_15 {sl : Nat} {sx : Nat → Int32} {d : Nat} {M0 : MM} {P : Int32 → MM → Prop} (l0 : Nat) (M : MM) (hM : lenO M0 M) (h : w153_15  l0 M P) : R153 sl sx d M0 P 15 [some (vR (some l0)), none, none, none, none, none] [] M := by
  refine RN_k (callX_det _) 3 _ _ _ _ (show kd M l0 9 ∧ callX TBg sl sx (d + 4) 17 [vR (some l0), vI (1 : Int32)] M (fun v M9 => R153 sl sx d M0 P 20 [some (vR (some l0)), none, none, none, none, none] (pushO v []) M9) from ⟨h.1, ?_⟩)
  replace h := h.2
  refine callX_mono (callX_len (d := (d + 4)) rfl rfl rfl (c17 (d := d + 3) h)) ?_
  clear h
  rintro v9 M1 ⟨hl, r2, rfl, h⟩
  replace hM := lenT hM hl
  show R153 sl sx d M0 P 20 [some (vR (some l0)), none, none, none, none, none] [vI r2] M1
  exact RN_k (callX_det _) 1 _ _ _ _ (show rtW q153 M0 (PI P) (some (vI r2)) M1 from ⟨⟨_, rfl⟩, hM.1, hM.2, _, rfl, h⟩)
def w153 (l0 : Nat) (l1 : Int32) (l2 : Int32) (l3 : Int32) (l4 : Int32) (M : MM) (P : Int32 → MM → Prop) : Prop := w151 l3 M (fun r2 M1 => (r2 = 0 → (w153_15  l0 M1 P)) ∧ (¬ (r2 = 0) → (w151 l4 M1 (fun r4 M3 => (r4 ≠ 0 → (kd M3 l0 9 ∧ w40 l0 l1 M3 (fun r6 M5 => (r6 = 0 → (w153_46  l0 M5 P)) ∧ (¬ (r6 = 0) → ((l2 < 0 → (w153_46  l0 M5 P)) ∧ (¬ (l2 < 0) → (kd M5 l0 9 ∧ (∃ a7, mR M5 l0 5 = some a7 ∧ (inb M5 a7 16 l1 ∧ (∃ a8, mR M5 a7 l1.toNatClampNeg = some a8 ∧ (kd M5 a8 8 ∧ ((l2 ≤ (mI M5 a8 1) → (kd M5 l0 9 ∧ (∃ a9, mR M5 l0 5 = some a9 ∧ (inb M5 a9 16 l1 ∧ (∃ a10, mR M5 a9 l1.toNatClampNeg = some a10 ∧ (kd M5 a10 8 ∧ (((mI M5 a10 1) < (8 : Int32) → (kd M5 a10 8 ∧ w28 a10 (l2 - (1 : Int32)) l3 l4 M5 (fun r12 M11 => (r12 ≠ 0 → (w153_102  l0 M11 P)) ∧ (¬ (r12 ≠ 0) → (kd M11 a10 8 ∧ w28 a10 l2 l3 l4 M11 (fun r14 M13 => (r14 = 0 → (kd M13 l0 9 ∧ (∃ a15, mR M13 l0 7 = some a15 ∧ (kd M13 a15 0 ∧ w152 a15 l1 (some a10) M13 (fun M16 => kd M16 a10 8 ∧ w154 a10 l2 l3 l4 M16 (fun M17 => kd M17 a10 8 ∧ (kd M17 l0 9 ∧ w35 l0 (mI M17 a10 1) M17 (fun r19 M18 => P r19 M18)))))))) ∧ (¬ (r14 = 0) → (w153_102  l0 M13 P)))))))) ∧ (¬ ((mI M5 a10 1) < (8 : Int32)) → (kd M5 l0 9 ∧ w17 l0 (3 : Int32) M5 (fun r21 M20 => P r21 M20)))))))))) ∧ (¬ (l2 ≤ (mI M5 a8 1)) → (w153_46  l0 M5 P)))))))))))))) ∧ (¬ (r4 ≠ 0) → (w153_15  l0 M3 P))))))
theorem t153_E {sl : Nat} {sx : Nat → Int32} {d : Nat} {M0 : MM} {P : Int32 → MM → Prop} (l0 : Nat) (l1 : Int32) (l2 : Int32) (l3 : Int32) (l4 : Int32) (M : MM) (hM : lenO M0 M) (h : w153  l0 l1 l2 l3 l4 M P) : R153 sl sx d M0 P 0 [some (vR (some l0)), some (vI l1), some (vI l2), some (vI l3), some (vI l4), none] [] M := by
  refine RN_k (callX_det _) 2 _ _ _ _ (show callX TBg sl sx (d + 4) 151 [vI l3] M (fun v M9 => R153 sl sx d M0 P 4 [some (vR (some l0)), some (vI l1), some (vI l2), some (vI l3), some (vI l4), none] (pushO v []) M9) from ?_)
  refine callX_mono (callX_len (d := (d + 4)) rfl rfl rfl (c151 (d := d + 3) h)) ?_
  clear h
  rintro v9 M1 ⟨hl, r2, rfl, h⟩
  replace hM := lenT hM hl
  show R153 sl sx d M0 P 4 [some (vR (some l0)), some (vI l1), some (vI l2), some (vI l3), some (vI l4), none] [vI r2] M1
  refine RN_k (callX_det _) 1 _ _ _ _ (show (r2 = 0 → R153 sl sx d M0 P 15 [some (vR (some l0)), some (vI l1), some (vI l2), some (vI l3), some (vI l4), none] [] M1) ∧ (¬ (r2 = 0) → R153 sl sx d M0 P 7 [some (vR (some l0)), some (vI l1), some (vI l2), some (vI l3), some (vI l4), none] [] M1) from ⟨fun hc => ?_, fun hc => ?_⟩)
  · replace h := h.1 hc
    exact RN_weak (K := [some (vR (some l0)), none, none, none, none, none]) (callX_det _) (show _ ∧ True from ⟨rfl, trivial⟩) (t153_15  l0 _ hM h)
  · replace h := h.2 hc
    refine RN_k (callX_det _) 2 _ _ _ _ (show callX TBg sl sx (d + 4) 151 [vI l4] M1 (fun v M9 => R153 sl sx d M0 P 12 [some (vR (some l0)), some (vI l1), some (vI l2), some (vI l3), some (vI l4), none] (pushO v []) M9) from ?_)
    refine callX_mono (callX_len (d := (d + 4)) rfl rfl rfl (c151 (d := d + 3) h)) ?_
    clear h
    rintro v9 M3 ⟨hl, r4, rfl, h⟩
    replace hM := lenT hM hl
    show R153 sl sx d M0 P 12 [some (vR (some l0)), some (vI l1), some (vI l2), some (vI l3), some (vI l4), none] [vI r4] M3
    refine RN_k (callX_det _) 1 _ _ _ _ (show (r4 ≠ 0 → R153 sl sx d M0 P 21 [some (vR (some l0)), some (vI l1), some (vI l2), some (vI l3), some (vI l4), none] [] M3) ∧ (¬ (r4 ≠ 0) → R153 sl sx d M0 P 15 [some (vR (some l0)), some (vI l1), some (vI l2), some (vI l3), some (vI l4), none] [] M3) from ⟨fun hc => ?_, fun hc => ?_⟩)
    · replace h := h.1 hc
      refine RN_k (callX_det _) 3 _ _ _ _ (show kd M3 l0 9 ∧ callX TBg sl sx (d + 4) 40 [vR (some l0), vI l1] M3 (fun v M9 => R153 sl sx d M0 P 26 [some (vR (some l0)), some (vI l1), some (vI l2), some (vI l3), some (vI l4), none] (pushO v []) M9) from ⟨h.1, ?_⟩)
      replace h := h.2
      refine callX_mono (callX_len (d := (d + 4)) rfl rfl rfl (c40 (d := d + 3) h)) ?_
      clear h
      rintro v9 M5 ⟨hl, r6, rfl, h⟩
      replace hM := lenT hM hl
      show R153 sl sx d M0 P 26 [some (vR (some l0)), some (vI l1), some (vI l2), some (vI l3), some (vI l4), none] [vI r6] M5
      refine RN_k (callX_det _) 1 _ _ _ _ (show (r6 = 0 → R153 sl sx d M0 P 46 [some (vR (some l0)), some (vI l1), some (vI l2), some (vI l3), some (vI l4), none] [] M5) ∧ (¬ (r6 = 0) → R153 sl sx d M0 P 29 [some (vR (some l0)), some (vI l1), some (vI l2), some (vI l3), some (vI l4), none] [] M5) from ⟨fun hc => ?_, fun hc => ?_⟩)
      · replace h := h.1 hc
        exact RN_weak (K := [some (vR (some l0)), none, none, none, none, none]) (callX_det _) (show _ ∧ True from ⟨rfl, trivial⟩) (t153_46  l0 _ hM h)
      · replace h := h.2 hc
        refine RN_k (callX_det _) 2 _ _ _ _ (show (l2 < 0 → R153 sl sx d M0 P 46 [some (vR (some l0)), some (vI l1), some (vI l2), some (vI l3), some (vI l4), none] [] M5) ∧ (¬ (l2 < 0) → R153 sl sx d M0 P 33 [some (vR (some l0)), some (vI l1), some (vI l2), some (vI l3), some (vI l4), none] [] M5) from ⟨fun hc => ?_, fun hc => ?_⟩)
        · replace h := h.1 hc
          exact RN_weak (K := [some (vR (some l0)), none, none, none, none, none]) (callX_det _) (show _ ∧ True from ⟨rfl, trivial⟩) (t153_46  l0 _ hM h)
        · replace h := h.2 hc
          refine RN_k (callX_det _) 3 _ _ _ _ (show kd M5 l0 9 ∧ R153 sl sx d M0 P 38 [some (vR (some l0)), some (vI l1), some (vI l2), some (vI l3), some (vI l4), none] [vR (mR M5 l0 5), vI l2] M5 from ⟨h.1, ?_⟩)
          replace h := h.2
          obtain ⟨a7, he, h⟩ := h
          refine RN_k (callX_det _) 1 _ _ _ _ (show R153 sl sx d M0 P 39 [some (vR (some l0)), some (vI l1), some (vI l2), some (vI l3), some (vI l4), none] [vI l1, vR (mR M5 l0 5), vI l2] M5 from ?_)
          rw [he]
          refine RN_k (callX_det _) 1 _ _ _ _ (show inb M5 a7 16 l1 ∧ R153 sl sx d M0 P 40 [some (vR (some l0)), some (vI l1), some (vI l2), some (vI l3), some (vI l4), none] [vR (mR M5 a7 l1.toNatClampNeg), vI l2] M5 from ⟨h.1, ?_⟩)
          replace h := h.2
          obtain ⟨a8, he, h⟩ := h
          rw [he]
          refine RN_k (callX_det _) 1 _ _ _ _ (show kd M5 a8 8 ∧ R153 sl sx d M0 P 43 [some (vR (some l0)), some (vI l1), some (vI l2), some (vI l3), some (vI l4), none] [vI (mI M5 a8 1), vI l2] M5 from ⟨h.1, ?_⟩)
          replace h := h.2
          refine RN_k (callX_det _) 1 _ _ _ _ (show (l2 ≤ (mI M5 a8 1) → R153 sl sx d M0 P 52 [some (vR (some l0)), some (vI l1), some (vI l2), some (vI l3), some (vI l4), none] [] M5) ∧ (¬ (l2 ≤ (mI M5 a8 1)) → R153 sl sx d M0 P 46 [some (vR (some l0)), some (vI l1), some (vI l2), some (vI l3), some (vI l4), none] [] M5) from ⟨fun hc => ?_, fun hc => ?_⟩)
          · replace h := h.1 hc
            refine RN_k (callX_det _) 2 _ _ _ _ (show kd M5 l0 9 ∧ R153 sl sx d M0 P 56 [some (vR (some l0)), some (vI l1), some (vI l2), some (vI l3), some (vI l4), none] [vR (mR M5 l0 5)] M5 from ⟨h.1, ?_⟩)
            replace h := h.2
            obtain ⟨a9, he, h⟩ := h
            refine RN_k (callX_det _) 1 _ _ _ _ (show R153 sl sx d M0 P 57 [some (vR (some l0)), some (vI l1), some (vI l2), some (vI l3), some (vI l4), none] [vI l1, vR (mR M5 l0 5)] M5 from ?_)
            rw [he]
            refine RN_k (callX_det _) 1 _ _ _ _ (show inb M5 a9 16 l1 ∧ R153 sl sx d M0 P 58 [some (vR (some l0)), some (vI l1), some (vI l2), some (vI l3), some (vI l4), none] [vR (mR M5 a9 l1.toNatClampNeg)] M5 from ⟨h.1, ?_⟩)
            replace h := h.2
            obtain ⟨a10, he, h⟩ := h
            refine RN_k (callX_det _) 2 _ _ _ _ (show R153 sl sx d M0 P 62 [some (vR (some l0)), some (vI l1), some (vI l2), some (vI l3), some (vI l4), some (vR (mR M5 a9 l1.toNatClampNeg))] [vR (mR M5 a9 l1.toNatClampNeg)] M5 from ?_)
            rw [he]
            refine RN_k (callX_det _) 1 _ _ _ _ (show kd M5 a10 8 ∧ R153 sl sx d M0 P 65 [some (vR (some l0)), some (vI l1), some (vI l2), some (vI l3), some (vI l4), some (vR (some a10))] [vI (mI M5 a10 1)] M5 from ⟨h.1, ?_⟩)
            replace h := h.2
            refine RN_k (callX_det _) 2 _ _ _ _ (show ((mI M5 a10 1) < (8 : Int32) → R153 sl sx d M0 P 76 [some (vR (some l0)), some (vI l1), some (vI l2), some (vI l3), some (vI l4), some (vR (some a10))] [] M5) ∧ (¬ ((mI M5 a10 1) < (8 : Int32)) → R153 sl sx d M0 P 70 [some (vR (some l0)), some (vI l1), some (vI l2), some (vI l3), some (vI l4), some (vR (some a10))] [] M5) from ⟨fun hc => ?_, fun hc => ?_⟩)
            · replace h := h.1 hc
              refine RN_k (callX_det _) 7 _ _ _ _ (show kd M5 a10 8 ∧ callX TBg sl sx (d + 4) 28 [vR (some a10), vI (l2 - (1 : Int32)), vI l3, vI l4] M5 (fun v M9 => R153 sl sx d M0 P 87 [some (vR (some l0)), some (vI l1), some (vI l2), some (vI l3), some (vI l4), some (vR (some a10))] (pushO v []) M9) from ⟨h.1, ?_⟩)
              replace h := h.2
              refine callX_mono (callX_len (d := (d + 4)) rfl rfl rfl (c28 (d := d + 3) h)) ?_
              clear h
              rintro v9 M11 ⟨hl, r12, rfl, h⟩
              replace hM := lenT hM hl
              show R153 sl sx d M0 P 87 [some (vR (some l0)), some (vI l1), some (vI l2), some (vI l3), some (vI l4), some (vR (some a10))] [vI r12] M11
              refine RN_k (callX_det _) 1 _ _ _ _ (show (r12 ≠ 0 → R153 sl sx d M0 P 102 [some (vR (some l0)), some (vI l1), some (vI l2), some (vI l3), some (vI l4), some (vR (some a10))] [] M11) ∧ (¬ (r12 ≠ 0) → R153 sl sx d M0 P 90 [some (vR (some l0)), some (vI l1), some (vI l2), some (vI l3), some (vI l4), some (vR (some a10))] [] M11) from ⟨fun hc => ?_, fun hc => ?_⟩)
              · replace h := h.1 hc
                exact RN_weak (K := [some (vR (some l0)), none, none, none, none, none]) (callX_det _) (show _ ∧ True from ⟨rfl, trivial⟩) (t153_102  l0 _ hM h)
              · replace h := h.2 hc
                refine RN_k (callX_det _) 5 _ _ _ _ (show kd M11 a10 8 ∧ callX TBg sl sx (d + 4) 28 [vR (some a10), vI l2, vI l3, vI l4] M11 (fun v M9 => R153 sl sx d M0 P 99 [some (vR (some l0)), some (vI l1), some (vI l2), some (vI l3), some (vI l4), some (vR (some a10))] (pushO v []) M9) from ⟨h.1, ?_⟩)
                replace h := h.2
                refine callX_mono (callX_len (d := (d + 4)) rfl rfl rfl (c28 (d := d + 3) h)) ?_
                clear h
                rintro v9 M13 ⟨hl, r14, rfl, h⟩
                replace hM := lenT hM hl
                show R153 sl sx d M0 P 99 [some (vR (some l0)), some (vI l1), some (vI l2), some (vI l3), some (vI l4), some (vR (some a10))] [vI r14] M13
                refine RN_k (callX_det _) 1 _ _ _ _ (show (r14 = 0 → R153 sl sx d M0 P 108 [some (vR (some l0)), some (vI l1), some (vI l2), some (vI l3), some (vI l4), some (vR (some a10))] [] M13) ∧ (¬ (r14 = 0) → R153 sl sx d M0 P 102 [some (vR (some l0)), some (vI l1), some (vI l2), some (vI l3), some (vI l4), some (vR (some a10))] [] M13) from ⟨fun hc => ?_, fun hc => ?_⟩)
                · replace h := h.1 hc
                  refine RN_k (callX_det _) 2 _ _ _ _ (show kd M13 l0 9 ∧ R153 sl sx d M0 P 112 [some (vR (some l0)), some (vI l1), some (vI l2), some (vI l3), some (vI l4), some (vR (some a10))] [vR (mR M13 l0 7)] M13 from ⟨h.1, ?_⟩)
                  replace h := h.2
                  obtain ⟨a15, he, h⟩ := h
                  refine RN_k (callX_det _) 2 _ _ _ _ (show R153 sl sx d M0 P 115 [some (vR (some l0)), some (vI l1), some (vI l2), some (vI l3), some (vI l4), some (vR (some a10))] [vR (some a10), vI l1, vR (mR M13 l0 7)] M13 from ?_)
                  rw [he]
                  refine RN_k (callX_det _) 1 _ _ _ _ (show kd M13 a15 0 ∧ callX TBg sl sx (d + 4) 152 [vR (some a15), vI l1, vR (some a10)] M13 (fun v M9 => R153 sl sx d M0 P 118 [some (vR (some l0)), some (vI l1), some (vI l2), some (vI l3), some (vI l4), some (vR (some a10))] (pushO v []) M9) from ⟨h.1, ?_⟩)
                  replace h := h.2
                  refine callX_mono (callX_len (d := (d + 4)) rfl rfl rfl (c152 (d := d) h)) ?_
                  clear h
                  rintro v9 M16 ⟨hl, rfl, h⟩
                  replace hM := lenT hM hl
                  show R153 sl sx d M0 P 118 [some (vR (some l0)), some (vI l1), some (vI l2), some (vI l3), some (vI l4), some (vR (some a10))] [] M16
                  refine RN_k (callX_det _) 5 _ _ _ _ (show kd M16 a10 8 ∧ callX TBg sl sx (d + 4) 154 [vR (some a10), vI l2, vI l3, vI l4] M16 (fun v M9 => R153 sl sx d M0 P 127 [some (vR (some l0)), some (vI l1), some (vI l2), some (vI l3), some (vI l4), some (vR (some a10))] (pushO v []) M9) from ⟨h.1, ?_⟩)
                  replace h := h.2
                  refine callX_mono (callX_len (d := (d + 4)) rfl rfl rfl (c154 (d := d + 3) h)) ?_
                  clear h
                  rintro v9 M17 ⟨hl, rfl, h⟩
                  replace hM := lenT hM hl
                  show R153 sl sx d M0 P 127 [some (vR (some l0)), some (vI l1), some (vI l2), some (vI l3), some (vI l4), some (vR (some a10))] [] M17
                  refine RN_k (callX_det _) 3 _ _ _ _ (show kd M17 a10 8 ∧ R153 sl sx d M0 P 133 [some (vR (some l0)), some (vI l1), some (vI l2), some (vI l3), some (vI l4), some (vR (some a10))] [vI (mI M17 a10 1), vR (some l0)] M17 from ⟨h.1, ?_⟩)
                  replace h := h.2
                  refine RN_k (callX_det _) 1 _ _ _ _ (show kd M17 l0 9 ∧ callX TBg sl sx (d + 4) 35 [vR (some l0), vI (mI M17 a10 1)] M17 (fun v M9 => R153 sl sx d M0 P 136 [some (vR (some l0)), some (vI l1), some (vI l2), some (vI l3), some (vI l4), some (vR (some a10))] (pushO v []) M9) from ⟨h.1, ?_⟩)
                  replace h := h.2
                  refine callX_mono (callX_len (d := (d + 4)) rfl rfl rfl (c35 (d := d + 3) h)) ?_
                  clear h
                  rintro v9 M18 ⟨hl, r19, rfl, h⟩
                  replace hM := lenT hM hl
                  show R153 sl sx d M0 P 136 [some (vR (some l0)), some (vI l1), some (vI l2), some (vI l3), some (vI l4), some (vR (some a10))] [vI r19] M18
                  exact RN_k (callX_det _) 1 _ _ _ _ (show rtW q153 M0 (PI P) (some (vI r19)) M18 from ⟨⟨_, rfl⟩, hM.1, hM.2, _, rfl, h⟩)
                · replace h := h.2 hc
                  exact RN_weak (K := [some (vR (some l0)), none, none, none, none, none]) (callX_det _) (show _ ∧ True from ⟨rfl, trivial⟩) (t153_102  l0 _ hM h)
            · replace h := h.2 hc
              refine RN_k (callX_det _) 3 _ _ _ _ (show kd M5 l0 9 ∧ callX TBg sl sx (d + 4) 17 [vR (some l0), vI (3 : Int32)] M5 (fun v M9 => R153 sl sx d M0 P 75 [some (vR (some l0)), some (vI l1), some (vI l2), some (vI l3), some (vI l4), some (vR (some a10))] (pushO v []) M9) from ⟨h.1, ?_⟩)
              replace h := h.2
              refine callX_mono (callX_len (d := (d + 4)) rfl rfl rfl (c17 (d := d + 3) h)) ?_
              clear h
              rintro v9 M20 ⟨hl, r21, rfl, h⟩
              replace hM := lenT hM hl
              show R153 sl sx d M0 P 75 [some (vR (some l0)), some (vI l1), some (vI l2), some (vI l3), some (vI l4), some (vR (some a10))] [vI r21] M20
              exact RN_k (callX_det _) 1 _ _ _ _ (show rtW q153 M0 (PI P) (some (vI r21)) M20 from ⟨⟨_, rfl⟩, hM.1, hM.2, _, rfl, h⟩)
          · replace h := h.2 hc
            exact RN_weak (K := [some (vR (some l0)), none, none, none, none, none]) (callX_det _) (show _ ∧ True from ⟨rfl, trivial⟩) (t153_46  l0 _ hM h)
    · replace h := h.2 hc
      exact RN_weak (K := [some (vR (some l0)), none, none, none, none, none]) (callX_det _) (show _ ∧ True from ⟨rfl, trivial⟩) (t153_15  l0 _ hM h)
theorem c153 {sl : Nat} {sx : Nat → Int32} {d : Nat} {l0 : Nat} {l1 : Int32} {l2 : Int32} {l3 : Int32} {l4 : Int32} {M : MM} {P : Int32 → MM → Prop} (h : w153 l0 l1 l2 l3 l4 M P) : callX TBg sl sx (d + 5) 153 [vR (some l0), vI l1, vI l2, vI l3, vI l4] M (PI P) :=
  cX (d := d + 4) q153 (false, tb153) rfl rfl rfl (t153_E l0 l1 l2 l3 l4 M lenR h)
-- TwoLeash.drop(II)I
abbrev q155 : MQ7 := (3, 1, 4, 9, 0, 0, 1)
abbrev R155 (sl : Nat) (sx : Nat → Int32) (d : Nat) (M0 : MM) (P : Int32 → MM → Prop) : Nat → LL → List VV → MM → Prop := RN 9 false (mS M0).length (mT M0) 0 0 sl sx (callX TBg sl sx (d + 4)) (rtW q155 M0 (PI P)) (as2 tb155)
def w155 (l0 : Nat) (l1 : Int32) (l2 : Int32) (M : MM) (P : Int32 → MM → Prop) : Prop := kd M l0 9 ∧ w45 l0 l1 l2 M (fun r2 M1 => (r2 ≠ 0 → (kd M1 l0 9 ∧ (∃ a3, mR M1 l0 5 = some a3 ∧ (inb M1 a3 16 l1 ∧ (∃ a4, mR M1 a3 l1.toNatClampNeg = some a4 ∧ (kd M1 a4 8 ∧ (((2 : Int32) < (mI M1 a4 1) → (kd M1 a4 8 ∧ w128 a4 (l2 - (1 : Int32)) (l2 + (1 : Int32)) M1 (fun r6 M5 => (r6 = 0 → (kd M5 l0 9 ∧ (∃ a7, mR M5 l0 7 = some a7 ∧ (kd M5 a7 0 ∧ w152 a7 l1 (some a4) M5 (fun M8 => kd M8 l0 9 ∧ (∃ a9, mR M8 l0 17 = some a9 ∧ (kd M8 a9 8 ∧ w142 a9 (some a4) l2 M8 (fun M10 => kd M10 l0 9 ∧ (kd M10 a4 8 ∧ w31 a4 (mR M10 l0 17) M10 (fun M11 => kd M11 a4 8 ∧ (kd M11 l0 9 ∧ w35 l0 (mI M11 a4 1) M11 (fun r13 M12 => P r13 M12)))))))))))) ∧ (¬ (r6 = 0) → (kd M5 l0 9 ∧ w17 l0 (4 : Int32) M5 (fun r15 M14 => P r15 M14)))))) ∧ (¬ ((2 : Int32) < (mI M1 a4 1)) → (kd M1 l0 9 ∧ w17 l0 (5 : Int32) M1 (fun r17 M16 => P r17 M16)))))))))) ∧ (¬ (r2 ≠ 0) → (kd M1 l0 9 ∧ w17 l0 (2 : Int32) M1 (fun r19 M18 => P r19 M18))))
theorem t155_E {sl : Nat} {sx : Nat → Int32} {d : Nat} {M0 : MM} {P : Int32 → MM → Prop} (l0 : Nat) (l1 : Int32) (l2 : Int32) (M : MM) (hM : lenO M0 M) (h : w155  l0 l1 l2 M P) : R155 sl sx d M0 P 0 [some (vR (some l0)), some (vI l1), some (vI l2), none] [] M := by
  refine RN_k (callX_det _) 4 _ _ _ _ (show kd M l0 9 ∧ callX TBg sl sx (d + 4) 45 [vR (some l0), vI l1, vI l2] M (fun v M9 => R155 sl sx d M0 P 6 [some (vR (some l0)), some (vI l1), some (vI l2), none] (pushO v []) M9) from ⟨h.1, ?_⟩)
  replace h := h.2
  refine callX_mono (callX_len (d := (d + 4)) rfl rfl rfl (c45 (d := d + 2) h)) ?_
  clear h
  rintro v9 M1 ⟨hl, r2, rfl, h⟩
  replace hM := lenT hM hl
  show R155 sl sx d M0 P 6 [some (vR (some l0)), some (vI l1), some (vI l2), none] [vI r2] M1
  refine RN_k (callX_det _) 1 _ _ _ _ (show (r2 ≠ 0 → R155 sl sx d M0 P 15 [some (vR (some l0)), some (vI l1), some (vI l2), none] [] M1) ∧ (¬ (r2 ≠ 0) → R155 sl sx d M0 P 9 [some (vR (some l0)), some (vI l1), some (vI l2), none] [] M1) from ⟨fun hc => ?_, fun hc => ?_⟩)
  · replace h := h.1 hc
    refine RN_k (callX_det _) 2 _ _ _ _ (show kd M1 l0 9 ∧ R155 sl sx d M0 P 19 [some (vR (some l0)), some (vI l1), some (vI l2), none] [vR (mR M1 l0 5)] M1 from ⟨h.1, ?_⟩)
    replace h := h.2
    obtain ⟨a3, he, h⟩ := h
    refine RN_k (callX_det _) 1 _ _ _ _ (show R155 sl sx d M0 P 20 [some (vR (some l0)), some (vI l1), some (vI l2), none] [vI l1, vR (mR M1 l0 5)] M1 from ?_)
    rw [he]
    refine RN_k (callX_det _) 1 _ _ _ _ (show inb M1 a3 16 l1 ∧ R155 sl sx d M0 P 21 [some (vR (some l0)), some (vI l1), some (vI l2), none] [vR (mR M1 a3 l1.toNatClampNeg)] M1 from ⟨h.1, ?_⟩)
    replace h := h.2
    obtain ⟨a4, he, h⟩ := h
    refine RN_k (callX_det _) 2 _ _ _ _ (show R155 sl sx d M0 P 23 [some (vR (some l0)), some (vI l1), some (vI l2), some (vR (mR M1 a3 l1.toNatClampNeg))] [vR (mR M1 a3 l1.toNatClampNeg)] M1 from ?_)
    rw [he]
    refine RN_k (callX_det _) 1 _ _ _ _ (show kd M1 a4 8 ∧ R155 sl sx d M0 P 26 [some (vR (some l0)), some (vI l1), some (vI l2), some (vR (some a4))] [vI (mI M1 a4 1)] M1 from ⟨h.1, ?_⟩)
    replace h := h.2
    refine RN_k (callX_det _) 2 _ _ _ _ (show ((2 : Int32) < (mI M1 a4 1) → R155 sl sx d M0 P 36 [some (vR (some l0)), some (vI l1), some (vI l2), some (vR (some a4))] [] M1) ∧ (¬ ((2 : Int32) < (mI M1 a4 1)) → R155 sl sx d M0 P 30 [some (vR (some l0)), some (vI l1), some (vI l2), some (vR (some a4))] [] M1) from ⟨fun hc => ?_, fun hc => ?_⟩)
    · replace h := h.1 hc
      refine RN_k (callX_det _) 8 _ _ _ _ (show kd M1 a4 8 ∧ callX TBg sl sx (d + 4) 128 [vR (some a4), vI (l2 - (1 : Int32)), vI (l2 + (1 : Int32))] M1 (fun v M9 => R155 sl sx d M0 P 46 [some (vR (some l0)), some (vI l1), some (vI l2), some (vR (some a4))] (pushO v []) M9) from ⟨h.1, ?_⟩)
      replace h := h.2
      refine callX_mono (callX_len (d := (d + 4)) rfl rfl rfl (c128 (d := d + 2) h)) ?_
      clear h
      rintro v9 M5 ⟨hl, r6, rfl, h⟩
      replace hM := lenT hM hl
      show R155 sl sx d M0 P 46 [some (vR (some l0)), some (vI l1), some (vI l2), some (vR (some a4))] [vI r6] M5
      refine RN_k (callX_det _) 1 _ _ _ _ (show (r6 = 0 → R155 sl sx d M0 P 55 [some (vR (some l0)), some (vI l1), some (vI l2), some (vR (some a4))] [] M5) ∧ (¬ (r6 = 0) → R155 sl sx d M0 P 49 [some (vR (some l0)), some (vI l1), some (vI l2), some (vR (some a4))] [] M5) from ⟨fun hc => ?_, fun hc => ?_⟩)
      · replace h := h.1 hc
        refine RN_k (callX_det _) 2 _ _ _ _ (show kd M5 l0 9 ∧ R155 sl sx d M0 P 59 [some (vR (some l0)), some (vI l1), some (vI l2), some (vR (some a4))] [vR (mR M5 l0 7)] M5 from ⟨h.1, ?_⟩)
        replace h := h.2
        obtain ⟨a7, he, h⟩ := h
        refine RN_k (callX_det _) 2 _ _ _ _ (show R155 sl sx d M0 P 61 [some (vR (some l0)), some (vI l1), some (vI l2), some (vR (some a4))] [vR (some a4), vI l1, vR (mR M5 l0 7)] M5 from ?_)
        rw [he]
        refine RN_k (callX_det _) 1 _ _ _ _ (show kd M5 a7 0 ∧ callX TBg sl sx (d + 4) 152 [vR (some a7), vI l1, vR (some a4)] M5 (fun v M9 => R155 sl sx d M0 P 64 [some (vR (some l0)), some (vI l1), some (vI l2), some (vR (some a4))] (pushO v []) M9) from ⟨h.1, ?_⟩)
        replace h := h.2
        refine callX_mono (callX_len (d := (d + 4)) rfl rfl rfl (c152 (d := d) h)) ?_
        clear h
        rintro v9 M8 ⟨hl, rfl, h⟩
        replace hM := lenT hM hl
        show R155 sl sx d M0 P 64 [some (vR (some l0)), some (vI l1), some (vI l2), some (vR (some a4))] [] M8
        refine RN_k (callX_det _) 2 _ _ _ _ (show kd M8 l0 9 ∧ R155 sl sx d M0 P 68 [some (vR (some l0)), some (vI l1), some (vI l2), some (vR (some a4))] [vR (mR M8 l0 17)] M8 from ⟨h.1, ?_⟩)
        replace h := h.2
        obtain ⟨a9, he, h⟩ := h
        refine RN_k (callX_det _) 2 _ _ _ _ (show R155 sl sx d M0 P 70 [some (vR (some l0)), some (vI l1), some (vI l2), some (vR (some a4))] [vI l2, vR (some a4), vR (mR M8 l0 17)] M8 from ?_)
        rw [he]
        refine RN_k (callX_det _) 1 _ _ _ _ (show kd M8 a9 8 ∧ callX TBg sl sx (d + 4) 142 [vR (some a9), vR (some a4), vI l2] M8 (fun v M9 => R155 sl sx d M0 P 73 [some (vR (some l0)), some (vI l1), some (vI l2), some (vR (some a4))] (pushO v []) M9) from ⟨h.1, ?_⟩)
        replace h := h.2
        refine callX_mono (callX_len (d := (d + 4)) rfl rfl rfl (c142 (d := d + 2) h)) ?_
        clear h
        rintro v9 M10 ⟨hl, rfl, h⟩
        replace hM := lenT hM hl
        show R155 sl sx d M0 P 73 [some (vR (some l0)), some (vI l1), some (vI l2), some (vR (some a4))] [] M10
        refine RN_k (callX_det _) 3 _ _ _ _ (show kd M10 l0 9 ∧ R155 sl sx d M0 P 78 [some (vR (some l0)), some (vI l1), some (vI l2), some (vR (some a4))] [vR (mR M10 l0 17), vR (some a4)] M10 from ⟨h.1, ?_⟩)
        replace h := h.2
        refine RN_k (callX_det _) 1 _ _ _ _ (show kd M10 a4 8 ∧ callX TBg sl sx (d + 4) 31 [vR (some a4), vR (mR M10 l0 17)] M10 (fun v M9 => R155 sl sx d M0 P 81 [some (vR (some l0)), some (vI l1), some (vI l2), some (vR (some a4))] (pushO v []) M9) from ⟨h.1, ?_⟩)
        replace h := h.2
        refine callX_mono (callX_len (d := (d + 4)) rfl rfl rfl (c31 (d := d + 1) h)) ?_
        clear h
        rintro v9 M11 ⟨hl, rfl, h⟩
        replace hM := lenT hM hl
        show R155 sl sx d M0 P 81 [some (vR (some l0)), some (vI l1), some (vI l2), some (vR (some a4))] [] M11
        refine RN_k (callX_det _) 3 _ _ _ _ (show kd M11 a4 8 ∧ R155 sl sx d M0 P 86 [some (vR (some l0)), some (vI l1), some (vI l2), some (vR (some a4))] [vI (mI M11 a4 1), vR (some l0)] M11 from ⟨h.1, ?_⟩)
        replace h := h.2
        refine RN_k (callX_det _) 1 _ _ _ _ (show kd M11 l0 9 ∧ callX TBg sl sx (d + 4) 35 [vR (some l0), vI (mI M11 a4 1)] M11 (fun v M9 => R155 sl sx d M0 P 89 [some (vR (some l0)), some (vI l1), some (vI l2), some (vR (some a4))] (pushO v []) M9) from ⟨h.1, ?_⟩)
        replace h := h.2
        refine callX_mono (callX_len (d := (d + 4)) rfl rfl rfl (c35 (d := d + 3) h)) ?_
        clear h
        rintro v9 M12 ⟨hl, r13, rfl, h⟩
        replace hM := lenT hM hl
        show R155 sl sx d M0 P 89 [some (vR (some l0)), some (vI l1), some (vI l2), some (vR (some a4))] [vI r13] M12
        exact RN_k (callX_det _) 1 _ _ _ _ (show rtW q155 M0 (PI P) (some (vI r13)) M12 from ⟨⟨_, rfl⟩, hM.1, hM.2, _, rfl, h⟩)
      · replace h := h.2 hc
        refine RN_k (callX_det _) 3 _ _ _ _ (show kd M5 l0 9 ∧ callX TBg sl sx (d + 4) 17 [vR (some l0), vI (4 : Int32)] M5 (fun v M9 => R155 sl sx d M0 P 54 [some (vR (some l0)), some (vI l1), some (vI l2), some (vR (some a4))] (pushO v []) M9) from ⟨h.1, ?_⟩)
        replace h := h.2
        refine callX_mono (callX_len (d := (d + 4)) rfl rfl rfl (c17 (d := d + 3) h)) ?_
        clear h
        rintro v9 M14 ⟨hl, r15, rfl, h⟩
        replace hM := lenT hM hl
        show R155 sl sx d M0 P 54 [some (vR (some l0)), some (vI l1), some (vI l2), some (vR (some a4))] [vI r15] M14
        exact RN_k (callX_det _) 1 _ _ _ _ (show rtW q155 M0 (PI P) (some (vI r15)) M14 from ⟨⟨_, rfl⟩, hM.1, hM.2, _, rfl, h⟩)
    · replace h := h.2 hc
      refine RN_k (callX_det _) 3 _ _ _ _ (show kd M1 l0 9 ∧ callX TBg sl sx (d + 4) 17 [vR (some l0), vI (5 : Int32)] M1 (fun v M9 => R155 sl sx d M0 P 35 [some (vR (some l0)), some (vI l1), some (vI l2), some (vR (some a4))] (pushO v []) M9) from ⟨h.1, ?_⟩)
      replace h := h.2
      refine callX_mono (callX_len (d := (d + 4)) rfl rfl rfl (c17 (d := d + 3) h)) ?_
      clear h
      rintro v9 M16 ⟨hl, r17, rfl, h⟩
      replace hM := lenT hM hl
      show R155 sl sx d M0 P 35 [some (vR (some l0)), some (vI l1), some (vI l2), some (vR (some a4))] [vI r17] M16
      exact RN_k (callX_det _) 1 _ _ _ _ (show rtW q155 M0 (PI P) (some (vI r17)) M16 from ⟨⟨_, rfl⟩, hM.1, hM.2, _, rfl, h⟩)
  · replace h := h.2 hc
    refine RN_k (callX_det _) 3 _ _ _ _ (show kd M1 l0 9 ∧ callX TBg sl sx (d + 4) 17 [vR (some l0), vI (2 : Int32)] M1 (fun v M9 => R155 sl sx d M0 P 14 [some (vR (some l0)), some (vI l1), some (vI l2), none] (pushO v []) M9) from ⟨h.1, ?_⟩)
    replace h := h.2
    refine callX_mono (callX_len (d := (d + 4)) rfl rfl rfl (c17 (d := d + 3) h)) ?_
    clear h
    rintro v9 M18 ⟨hl, r19, rfl, h⟩
    replace hM := lenT hM hl
    show R155 sl sx d M0 P 14 [some (vR (some l0)), some (vI l1), some (vI l2), none] [vI r19] M18
    exact RN_k (callX_det _) 1 _ _ _ _ (show rtW q155 M0 (PI P) (some (vI r19)) M18 from ⟨⟨_, rfl⟩, hM.1, hM.2, _, rfl, h⟩)
theorem c155 {sl : Nat} {sx : Nat → Int32} {d : Nat} {l0 : Nat} {l1 : Int32} {l2 : Int32} {M : MM} {P : Int32 → MM → Prop} (h : w155 l0 l1 l2 M P) : callX TBg sl sx (d + 5) 155 [vR (some l0), vI l1, vI l2] M (PI P) :=
  cX (d := d + 4) q155 (false, tb155) rfl rfl rfl (t155_E l0 l1 l2 M lenR h)
-- TwoLeash.turn(I)I
abbrev q156 : MQ7 := (2, 1, 2, 9, 0, 0, 1)
abbrev R156 (sl : Nat) (sx : Nat → Int32) (d : Nat) (M0 : MM) (P : Int32 → MM → Prop) : Nat → LL → List VV → MM → Prop := RN 9 false (mS M0).length (mT M0) 0 0 sl sx (callX TBg sl sx (d + 4)) (rtW q156 M0 (PI P)) (as2 tb156)
def w156 (l0 : Nat) (l1 : Int32) (M : MM) (P : Int32 → MM → Prop) : Prop := kd M l0 9 ∧ w40 l0 l1 M (fun r2 M1 => (r2 ≠ 0 → (kd M1 l0 9 ∧ (kd M1 l0 9 ∧ (∃ a3, mR M1 l0 5 = some a3 ∧ (inb M1 a3 16 l1 ∧ (∃ a4, mR M1 l0 7 = some a4 ∧ (kd M1 a4 0 ∧ w152 a4 l1 (mR M1 a3 l1.toNatClampNeg) M1 (fun M5 => kd M5 l0 9 ∧ (kd M5 l0 9 ∧ (∃ a6, mR M5 l0 5 = some a6 ∧ (inb M5 a6 16 l1 ∧ (∃ a7, mR M5 l0 17 = some a7 ∧ (kd M5 a7 8 ∧ w144 a7 (mR M5 a6 l1.toNatClampNeg) M5 (fun M8 => kd M8 l0 9 ∧ (∃ a9, mR M8 l0 5 = some a9 ∧ (inb M8 a9 16 l1 ∧ (kd M8 l0 9 ∧ (∃ a10, mR M8 a9 l1.toNatClampNeg = some a10 ∧ (kd M8 a10 8 ∧ w31 a10 (mR M8 l0 17) M8 (fun M11 => kd M11 l0 9 ∧ (∃ a12, mR M11 l0 5 = some a12 ∧ (inb M11 a12 16 l1 ∧ (∃ a13, mR M11 a12 l1.toNatClampNeg = some a13 ∧ (kd M11 a13 8 ∧ (kd M11 l0 9 ∧ w35 l0 (mI M11 a13 1) M11 (fun r15 M14 => P r15 M14)))))))))))))))))))))))))) ∧ (¬ (r2 ≠ 0) → (kd M1 l0 9 ∧ w17 l0 (2 : Int32) M1 (fun r17 M16 => P r17 M16))))
theorem t156_E {sl : Nat} {sx : Nat → Int32} {d : Nat} {M0 : MM} {P : Int32 → MM → Prop} (l0 : Nat) (l1 : Int32) (M : MM) (hM : lenO M0 M) (h : w156  l0 l1 M P) : R156 sl sx d M0 P 0 [some (vR (some l0)), some (vI l1)] [] M := by
  refine RN_k (callX_det _) 3 _ _ _ _ (show kd M l0 9 ∧ callX TBg sl sx (d + 4) 40 [vR (some l0), vI l1] M (fun v M9 => R156 sl sx d M0 P 5 [some (vR (some l0)), some (vI l1)] (pushO v []) M9) from ⟨h.1, ?_⟩)
  replace h := h.2
  refine callX_mono (callX_len (d := (d + 4)) rfl rfl rfl (c40 (d := d + 3) h)) ?_
  clear h
  rintro v9 M1 ⟨hl, r2, rfl, h⟩
  replace hM := lenT hM hl
  show R156 sl sx d M0 P 5 [some (vR (some l0)), some (vI l1)] [vI r2] M1
  refine RN_k (callX_det _) 1 _ _ _ _ (show (r2 ≠ 0 → R156 sl sx d M0 P 14 [some (vR (some l0)), some (vI l1)] [] M1) ∧ (¬ (r2 ≠ 0) → R156 sl sx d M0 P 8 [some (vR (some l0)), some (vI l1)] [] M1) from ⟨fun hc => ?_, fun hc => ?_⟩)
  · replace h := h.1 hc
    refine RN_k (callX_det _) 2 _ _ _ _ (show kd M1 l0 9 ∧ R156 sl sx d M0 P 18 [some (vR (some l0)), some (vI l1)] [vR (mR M1 l0 7)] M1 from ⟨h.1, ?_⟩)
    replace h := h.2
    refine RN_k (callX_det _) 3 _ _ _ _ (show kd M1 l0 9 ∧ R156 sl sx d M0 P 23 [some (vR (some l0)), some (vI l1)] [vR (mR M1 l0 5), vI l1, vR (mR M1 l0 7)] M1 from ⟨h.1, ?_⟩)
    replace h := h.2
    obtain ⟨a3, he, h⟩ := h
    refine RN_k (callX_det _) 1 _ _ _ _ (show R156 sl sx d M0 P 24 [some (vR (some l0)), some (vI l1)] [vI l1, vR (mR M1 l0 5), vI l1, vR (mR M1 l0 7)] M1 from ?_)
    rw [he]
    refine RN_k (callX_det _) 1 _ _ _ _ (show inb M1 a3 16 l1 ∧ R156 sl sx d M0 P 25 [some (vR (some l0)), some (vI l1)] [vR (mR M1 a3 l1.toNatClampNeg), vI l1, vR (mR M1 l0 7)] M1 from ⟨h.1, ?_⟩)
    replace h := h.2
    obtain ⟨a4, he, h⟩ := h
    rw [he]
    refine RN_k (callX_det _) 1 _ _ _ _ (show kd M1 a4 0 ∧ callX TBg sl sx (d + 4) 152 [vR (some a4), vI l1, vR (mR M1 a3 l1.toNatClampNeg)] M1 (fun v M9 => R156 sl sx d M0 P 28 [some (vR (some l0)), some (vI l1)] (pushO v []) M9) from ⟨h.1, ?_⟩)
    replace h := h.2
    refine callX_mono (callX_len (d := (d + 4)) rfl rfl rfl (c152 (d := d) h)) ?_
    clear h
    rintro v9 M5 ⟨hl, rfl, h⟩
    replace hM := lenT hM hl
    show R156 sl sx d M0 P 28 [some (vR (some l0)), some (vI l1)] [] M5
    refine RN_k (callX_det _) 2 _ _ _ _ (show kd M5 l0 9 ∧ R156 sl sx d M0 P 32 [some (vR (some l0)), some (vI l1)] [vR (mR M5 l0 17)] M5 from ⟨h.1, ?_⟩)
    replace h := h.2
    refine RN_k (callX_det _) 2 _ _ _ _ (show kd M5 l0 9 ∧ R156 sl sx d M0 P 36 [some (vR (some l0)), some (vI l1)] [vR (mR M5 l0 5), vR (mR M5 l0 17)] M5 from ⟨h.1, ?_⟩)
    replace h := h.2
    obtain ⟨a6, he, h⟩ := h
    refine RN_k (callX_det _) 1 _ _ _ _ (show R156 sl sx d M0 P 37 [some (vR (some l0)), some (vI l1)] [vI l1, vR (mR M5 l0 5), vR (mR M5 l0 17)] M5 from ?_)
    rw [he]
    refine RN_k (callX_det _) 1 _ _ _ _ (show inb M5 a6 16 l1 ∧ R156 sl sx d M0 P 38 [some (vR (some l0)), some (vI l1)] [vR (mR M5 a6 l1.toNatClampNeg), vR (mR M5 l0 17)] M5 from ⟨h.1, ?_⟩)
    replace h := h.2
    obtain ⟨a7, he, h⟩ := h
    rw [he]
    refine RN_k (callX_det _) 1 _ _ _ _ (show kd M5 a7 8 ∧ callX TBg sl sx (d + 4) 144 [vR (some a7), vR (mR M5 a6 l1.toNatClampNeg)] M5 (fun v M9 => R156 sl sx d M0 P 41 [some (vR (some l0)), some (vI l1)] (pushO v []) M9) from ⟨h.1, ?_⟩)
    replace h := h.2
    refine callX_mono (callX_len (d := (d + 4)) rfl rfl rfl (c144 (d := d + 2) h)) ?_
    clear h
    rintro v9 M8 ⟨hl, rfl, h⟩
    replace hM := lenT hM hl
    show R156 sl sx d M0 P 41 [some (vR (some l0)), some (vI l1)] [] M8
    refine RN_k (callX_det _) 2 _ _ _ _ (show kd M8 l0 9 ∧ R156 sl sx d M0 P 45 [some (vR (some l0)), some (vI l1)] [vR (mR M8 l0 5)] M8 from ⟨h.1, ?_⟩)
    replace h := h.2
    obtain ⟨a9, he, h⟩ := h
    refine RN_k (callX_det _) 1 _ _ _ _ (show R156 sl sx d M0 P 46 [some (vR (some l0)), some (vI l1)] [vI l1, vR (mR M8 l0 5)] M8 from ?_)
    rw [he]
    refine RN_k (callX_det _) 1 _ _ _ _ (show inb M8 a9 16 l1 ∧ R156 sl sx d M0 P 47 [some (vR (some l0)), some (vI l1)] [vR (mR M8 a9 l1.toNatClampNeg)] M8 from ⟨h.1, ?_⟩)
    replace h := h.2
    refine RN_k (callX_det _) 2 _ _ _ _ (show kd M8 l0 9 ∧ R156 sl sx d M0 P 51 [some (vR (some l0)), some (vI l1)] [vR (mR M8 l0 17), vR (mR M8 a9 l1.toNatClampNeg)] M8 from ⟨h.1, ?_⟩)
    replace h := h.2
    obtain ⟨a10, he, h⟩ := h
    rw [he]
    refine RN_k (callX_det _) 1 _ _ _ _ (show kd M8 a10 8 ∧ callX TBg sl sx (d + 4) 31 [vR (some a10), vR (mR M8 l0 17)] M8 (fun v M9 => R156 sl sx d M0 P 54 [some (vR (some l0)), some (vI l1)] (pushO v []) M9) from ⟨h.1, ?_⟩)
    replace h := h.2
    refine callX_mono (callX_len (d := (d + 4)) rfl rfl rfl (c31 (d := d + 1) h)) ?_
    clear h
    rintro v9 M11 ⟨hl, rfl, h⟩
    replace hM := lenT hM hl
    show R156 sl sx d M0 P 54 [some (vR (some l0)), some (vI l1)] [] M11
    refine RN_k (callX_det _) 3 _ _ _ _ (show kd M11 l0 9 ∧ R156 sl sx d M0 P 59 [some (vR (some l0)), some (vI l1)] [vR (mR M11 l0 5), vR (some l0)] M11 from ⟨h.1, ?_⟩)
    replace h := h.2
    obtain ⟨a12, he, h⟩ := h
    refine RN_k (callX_det _) 1 _ _ _ _ (show R156 sl sx d M0 P 60 [some (vR (some l0)), some (vI l1)] [vI l1, vR (mR M11 l0 5), vR (some l0)] M11 from ?_)
    rw [he]
    refine RN_k (callX_det _) 1 _ _ _ _ (show inb M11 a12 16 l1 ∧ R156 sl sx d M0 P 61 [some (vR (some l0)), some (vI l1)] [vR (mR M11 a12 l1.toNatClampNeg), vR (some l0)] M11 from ⟨h.1, ?_⟩)
    replace h := h.2
    obtain ⟨a13, he, h⟩ := h
    rw [he]
    refine RN_k (callX_det _) 1 _ _ _ _ (show kd M11 a13 8 ∧ R156 sl sx d M0 P 64 [some (vR (some l0)), some (vI l1)] [vI (mI M11 a13 1), vR (some l0)] M11 from ⟨h.1, ?_⟩)
    replace h := h.2
    refine RN_k (callX_det _) 1 _ _ _ _ (show kd M11 l0 9 ∧ callX TBg sl sx (d + 4) 35 [vR (some l0), vI (mI M11 a13 1)] M11 (fun v M9 => R156 sl sx d M0 P 67 [some (vR (some l0)), some (vI l1)] (pushO v []) M9) from ⟨h.1, ?_⟩)
    replace h := h.2
    refine callX_mono (callX_len (d := (d + 4)) rfl rfl rfl (c35 (d := d + 3) h)) ?_
    clear h
    rintro v9 M14 ⟨hl, r15, rfl, h⟩
    replace hM := lenT hM hl
    show R156 sl sx d M0 P 67 [some (vR (some l0)), some (vI l1)] [vI r15] M14
    exact RN_k (callX_det _) 1 _ _ _ _ (show rtW q156 M0 (PI P) (some (vI r15)) M14 from ⟨⟨_, rfl⟩, hM.1, hM.2, _, rfl, h⟩)
  · replace h := h.2 hc
    refine RN_k (callX_det _) 3 _ _ _ _ (show kd M1 l0 9 ∧ callX TBg sl sx (d + 4) 17 [vR (some l0), vI (2 : Int32)] M1 (fun v M9 => R156 sl sx d M0 P 13 [some (vR (some l0)), some (vI l1)] (pushO v []) M9) from ⟨h.1, ?_⟩)
    replace h := h.2
    refine callX_mono (callX_len (d := (d + 4)) rfl rfl rfl (c17 (d := d + 3) h)) ?_
    clear h
    rintro v9 M16 ⟨hl, r17, rfl, h⟩
    replace hM := lenT hM hl
    show R156 sl sx d M0 P 13 [some (vR (some l0)), some (vI l1)] [vI r17] M16
    exact RN_k (callX_det _) 1 _ _ _ _ (show rtW q156 M0 (PI P) (some (vI r17)) M16 from ⟨⟨_, rfl⟩, hM.1, hM.2, _, rfl, h⟩)
theorem c156 {sl : Nat} {sx : Nat → Int32} {d : Nat} {l0 : Nat} {l1 : Int32} {M : MM} {P : Int32 → MM → Prop} (h : w156 l0 l1 M P) : callX TBg sl sx (d + 5) 156 [vR (some l0), vI l1] M (PI P) :=
  cX (d := d + 4) q156 (false, tb156) rfl rfl rfl (t156_E l0 l1 M lenR h)
-- TwoLeash$Acts.takeBack([LTwoLeash$Track;)V
abbrev q158 : MQ7 := (2, 1, 2, 0, 0, 0, 0)
abbrev R158 (sl : Nat) (sx : Nat → Int32) (d : Nat) (M0 : MM) (P : MM → Prop) : Nat → LL → List VV → MM → Prop := RN 0 false (mS M0).length (mT M0) 0 0 sl sx (callX TBg sl sx (d + 3)) (rtW q158 M0 (PV P)) (as2 tb158)
def w158_43 (l0 : Nat) (s0 : Option Nat) (M : MM) (P : MM → Prop) : Prop := kd M l0 0 ∧ (kd M l0 0 ∧ (∃ a1, mR M l0 0 = some a1 ∧ (inb M a1 16 (mI M l0 2) ∧ (∃ a2, s0 = some a2 ∧ (kd M a2 8 ∧ w31 a2 (mR M a1 (mI M l0 2).toNatClampNeg) M (fun M3 => P M3))))))
theorem t158_43 {sl : Nat} {sx : Nat → Int32} {d : Nat} {M0 : MM} {P : MM → Prop} (l0 : Nat) (s0 : Option Nat) (M : MM) (hM : lenO M0 M) (h : w158_43  l0 s0 M P) : R158 sl sx d M0 P 43 [some (vR (some l0)), none] [vR s0] M := by
  refine RN_k (callX_det _) 2 _ _ _ _ (show kd M l0 0 ∧ R158 sl sx d M0 P 47 [some (vR (some l0)), none] [vR (mR M l0 0), vR s0] M from ⟨h.1, ?_⟩)
  replace h := h.2
  refine RN_k (callX_det _) 2 _ _ _ _ (show kd M l0 0 ∧ R158 sl sx d M0 P 51 [some (vR (some l0)), none] [vI (mI M l0 2), vR (mR M l0 0), vR s0] M from ⟨h.1, ?_⟩)
  replace h := h.2
  obtain ⟨a1, he, h⟩ := h
  rw [he]
  refine RN_k (callX_det _) 1 _ _ _ _ (show inb M a1 16 (mI M l0 2) ∧ R158 sl sx d M0 P 52 [some (vR (some l0)), none] [vR (mR M a1 (mI M l0 2).toNatClampNeg), vR s0] M from ⟨h.1, ?_⟩)
  replace h := h.2
  obtain ⟨a2, he, h⟩ := h
  subst he
  refine RN_k (callX_det _) 1 _ _ _ _ (show kd M a2 8 ∧ callX TBg sl sx (d + 3) 31 [vR (some a2), vR (mR M a1 (mI M l0 2).toNatClampNeg)] M (fun v M9 => R158 sl sx d M0 P 55 [some (vR (some l0)), none] (pushO v []) M9) from ⟨h.1, ?_⟩)
  replace h := h.2
  refine callX_mono (callX_len (d := (d + 3)) rfl rfl rfl (c31 (d := d) h)) ?_
  clear h
  rintro v9 M3 ⟨hl, rfl, h⟩
  replace hM := lenT hM hl
  show R158 sl sx d M0 P 55 [some (vR (some l0)), none] [] M3
  exact RN_k (callX_det _) 1 _ _ _ _ (show rtW q158 M0 (PV P) none M3 from ⟨rfl, hM.1, hM.2, rfl, h⟩)
def w158_19 (l0 : Nat) (l1 : Option Nat) (s0 : Option Nat) (s1 : Int32) (M : MM) (P : MM → Prop) : Prop := ∃ a1, s0 = some a1 ∧ (kd M a1 0 ∧ (kd (sI M a1 2 s1) l0 0 ∧ (kd (sI M a1 2 s1) l0 0 ∧ (kd (sI (sI M a1 2 s1) l0 3 ((mI (sI M a1 2 s1) l0 3) - (1 : Int32))) l0 0 ∧ (kd (sI (sI M a1 2 s1) l0 3 ((mI (sI M a1 2 s1) l0 3) - (1 : Int32))) l0 0 ∧ (∃ a2, mR (sI (sI M a1 2 s1) l0 3 ((mI (sI M a1 2 s1) l0 3) - (1 : Int32))) l0 1 = some a2 ∧ (inb (sI (sI M a1 2 s1) l0 3 ((mI (sI M a1 2 s1) l0 3) - (1 : Int32))) a2 11 (mI (sI (sI M a1 2 s1) l0 3 ((mI (sI M a1 2 s1) l0 3) - (1 : Int32))) l0 2) ∧ (∃ a3, l1 = some a3 ∧ (inb (sI (sI M a1 2 s1) l0 3 ((mI (sI M a1 2 s1) l0 3) - (1 : Int32))) a3 16 (mI (sI (sI M a1 2 s1) l0 3 ((mI (sI M a1 2 s1) l0 3) - (1 : Int32))) a2 (mI (sI (sI M a1 2 s1) l0 3 ((mI (sI M a1 2 s1) l0 3) - (1 : Int32))) l0 2).toNatClampNeg) ∧ (w158_43  l0 (mR (sI (sI M a1 2 s1) l0 3 ((mI (sI M a1 2 s1) l0 3) - (1 : Int32))) a3 (mI (sI (sI M a1 2 s1) l0 3 ((mI (sI M a1 2 s1) l0 3) - (1 : Int32))) a2 (mI (sI (sI M a1 2 s1) l0 3 ((mI (sI M a1 2 s1) l0 3) - (1 : Int32))) l0 2).toNatClampNeg).toNatClampNeg) (sI (sI M a1 2 s1) l0 3 ((mI (sI M a1 2 s1) l0 3) - (1 : Int32))) P))))))))))
theorem t158_19 {sl : Nat} {sx : Nat → Int32} {d : Nat} {M0 : MM} {P : MM → Prop} (l0 : Nat) (l1 : Option Nat) (s0 : Option Nat) (s1 : Int32) (M : MM) (hM : lenO M0 M) (h : w158_19  l0 l1 s0 s1 M P) : R158 sl sx d M0 P 19 [some (vR (some l0)), some (vR l1)] [vI s1, vR s0] M := by
  obtain ⟨a1, he, h⟩ := h
  subst he
  refine RN_k (callX_det _) 1 _ _ _ _ (show kd M a1 0 ∧ R158 sl sx d M0 P 22 [some (vR (some l0)), some (vR l1)] [] (sI M a1 2 s1) from ⟨h.1, ?_⟩)
  replace h := h.2
  refine RN_k (callX_det _) 3 _ _ _ _ (show kd (sI M a1 2 s1) l0 0 ∧ R158 sl sx d M0 P 27 [some (vR (some l0)), some (vR l1)] [vI (mI (sI M a1 2 s1) l0 3), vR (some l0)] (sI M a1 2 s1) from ⟨h.1, ?_⟩)
  replace h := h.2
  refine RN_k (callX_det _) 3 _ _ _ _ (show kd (sI M a1 2 s1) l0 0 ∧ R158 sl sx d M0 P 32 [some (vR (some l0)), some (vR l1)] [] (sI (sI M a1 2 s1) l0 3 ((mI (sI M a1 2 s1) l0 3) - (1 : Int32))) from ⟨h.1, ?_⟩)
  replace h := h.2
  refine RN_k (callX_det _) 3 _ _ _ _ (show kd (sI (sI M a1 2 s1) l0 3 ((mI (sI M a1 2 s1) l0 3) - (1 : Int32))) l0 0 ∧ R158 sl sx d M0 P 37 [some (vR (some l0)), some (vR l1)] [vR (mR (sI (sI M a1 2 s1) l0 3 ((mI (sI M a1 2 s1) l0 3) - (1 : Int32))) l0 1), vR l1] (sI (sI M a1 2 s1) l0 3 ((mI (sI M a1 2 s1) l0 3) - (1 : Int32))) from ⟨h.1, ?_⟩)
  replace h := h.2
  refine RN_k (callX_det _) 2 _ _ _ _ (show kd (sI (sI M a1 2 s1) l0 3 ((mI (sI M a1 2 s1) l0 3) - (1 : Int32))) l0 0 ∧ R158 sl sx d M0 P 41 [some (vR (some l0)), some (vR l1)] [vI (mI (sI (sI M a1 2 s1) l0 3 ((mI (sI M a1 2 s1) l0 3) - (1 : Int32))) l0 2), vR (mR (sI (sI M a1 2 s1) l0 3 ((mI (sI M a1 2 s1) l0 3) - (1 : Int32))) l0 1), vR l1] (sI (sI M a1 2 s1) l0 3 ((mI (sI M a1 2 s1) l0 3) - (1 : Int32))) from ⟨h.1, ?_⟩)
  replace h := h.2
  obtain ⟨a2, he, h⟩ := h
  rw [he]
  refine RN_k (callX_det _) 1 _ _ _ _ (show inb (sI (sI M a1 2 s1) l0 3 ((mI (sI M a1 2 s1) l0 3) - (1 : Int32))) a2 11 (mI (sI (sI M a1 2 s1) l0 3 ((mI (sI M a1 2 s1) l0 3) - (1 : Int32))) l0 2) ∧ R158 sl sx d M0 P 42 [some (vR (some l0)), some (vR l1)] [vI (mI (sI (sI M a1 2 s1) l0 3 ((mI (sI M a1 2 s1) l0 3) - (1 : Int32))) a2 (mI (sI (sI M a1 2 s1) l0 3 ((mI (sI M a1 2 s1) l0 3) - (1 : Int32))) l0 2).toNatClampNeg), vR l1] (sI (sI M a1 2 s1) l0 3 ((mI (sI M a1 2 s1) l0 3) - (1 : Int32))) from ⟨h.1, ?_⟩)
  replace h := h.2
  obtain ⟨a3, he, h⟩ := h
  subst he
  refine RN_k (callX_det _) 1 _ _ _ _ (show inb (sI (sI M a1 2 s1) l0 3 ((mI (sI M a1 2 s1) l0 3) - (1 : Int32))) a3 16 (mI (sI (sI M a1 2 s1) l0 3 ((mI (sI M a1 2 s1) l0 3) - (1 : Int32))) a2 (mI (sI (sI M a1 2 s1) l0 3 ((mI (sI M a1 2 s1) l0 3) - (1 : Int32))) l0 2).toNatClampNeg) ∧ R158 sl sx d M0 P 43 [some (vR (some l0)), some (vR (some a3))] [vR (mR (sI (sI M a1 2 s1) l0 3 ((mI (sI M a1 2 s1) l0 3) - (1 : Int32))) a3 (mI (sI (sI M a1 2 s1) l0 3 ((mI (sI M a1 2 s1) l0 3) - (1 : Int32))) a2 (mI (sI (sI M a1 2 s1) l0 3 ((mI (sI M a1 2 s1) l0 3) - (1 : Int32))) l0 2).toNatClampNeg).toNatClampNeg)] (sI (sI M a1 2 s1) l0 3 ((mI (sI M a1 2 s1) l0 3) - (1 : Int32))) from ⟨h.1, ?_⟩)
  replace h := h.2
  exact RN_weak (K := [some (vR (some l0)), none]) (callX_det _) (show _ ∧ True from ⟨rfl, trivial⟩) (t158_43  l0 (mR (sI (sI M a1 2 s1) l0 3 ((mI (sI M a1 2 s1) l0 3) - (1 : Int32))) a3 (mI (sI (sI M a1 2 s1) l0 3 ((mI (sI M a1 2 s1) l0 3) - (1 : Int32))) a2 (mI (sI (sI M a1 2 s1) l0 3 ((mI (sI M a1 2 s1) l0 3) - (1 : Int32))) l0 2).toNatClampNeg).toNatClampNeg) _ hM h)
def w158 (l0 : Nat) (l1 : Option Nat) (M : MM) (P : MM → Prop) : Prop := kd M l0 0 ∧ (((mI M l0 2) ≠ 0 → (kd M l0 0 ∧ (w158_19  l0 l1 (some l0) ((mI M l0 2) - (1 : Int32)) M P))) ∧ (¬ ((mI M l0 2) ≠ 0) → (w158_19  l0 l1 (some l0) (9 : Int32) M P)))
theorem t158_E {sl : Nat} {sx : Nat → Int32} {d : Nat} {M0 : MM} {P : MM → Prop} (l0 : Nat) (l1 : Option Nat) (M : MM) (hM : lenO M0 M) (h : w158  l0 l1 M P) : R158 sl sx d M0 P 0 [some (vR (some l0)), some (vR l1)] [] M := by
  refine RN_k (callX_det _) 3 _ _ _ _ (show kd M l0 0 ∧ R158 sl sx d M0 P 5 [some (vR (some l0)), some (vR l1)] [vI (mI M l0 2), vR (some l0)] M from ⟨h.1, ?_⟩)
  replace h := h.2
  refine RN_k (callX_det _) 1 _ _ _ _ (show ((mI M l0 2) ≠ 0 → R158 sl sx d M0 P 13 [some (vR (some l0)), some (vR l1)] [vR (some l0)] M) ∧ (¬ ((mI M l0 2) ≠ 0) → R158 sl sx d M0 P 8 [some (vR (some l0)), some (vR l1)] [vR (some l0)] M) from ⟨fun hc => ?_, fun hc => ?_⟩)
  · replace h := h.1 hc
    refine RN_k (callX_det _) 2 _ _ _ _ (show kd M l0 0 ∧ R158 sl sx d M0 P 17 [some (vR (some l0)), some (vR l1)] [vI (mI M l0 2), vR (some l0)] M from ⟨h.1, ?_⟩)
    replace h := h.2
    refine RN_k (callX_det _) 2 _ _ _ _ (show R158 sl sx d M0 P 19 [some (vR (some l0)), some (vR l1)] [vI ((mI M l0 2) - (1 : Int32)), vR (some l0)] M from ?_)
    exact RN_weak (K := [some (vR (some l0)), some (vR l1)]) (callX_det _) (show _ ∧ _ ∧ True from ⟨rfl, rfl, trivial⟩) (t158_19  l0 l1 (some l0) ((mI M l0 2) - (1 : Int32)) _ hM h)
  · replace h := h.2 hc
    refine RN_k (callX_det _) 2 _ _ _ _ (show R158 sl sx d M0 P 19 [some (vR (some l0)), some (vR l1)] [vI (9 : Int32), vR (some l0)] M from ?_)
    exact RN_weak (K := [some (vR (some l0)), some (vR l1)]) (callX_det _) (show _ ∧ _ ∧ True from ⟨rfl, rfl, trivial⟩) (t158_19  l0 l1 (some l0) (9 : Int32) _ hM h)
theorem c158 {sl : Nat} {sx : Nat → Int32} {d : Nat} {l0 : Nat} {l1 : Option Nat} {M : MM} {P : MM → Prop} (h : w158 l0 l1 M P) : callX TBg sl sx (d + 4) 158 [vR (some l0), vR l1] M (PV P) :=
  cX (d := d + 3) q158 (false, tb158) rfl rfl rfl (t158_E l0 l1 M lenR h)
-- TwoLeash.undo()I
abbrev q157 : MQ7 := (1, 1, 1, 9, 0, 0, 1)
abbrev R157 (sl : Nat) (sx : Nat → Int32) (d : Nat) (M0 : MM) (P : Int32 → MM → Prop) : Nat → LL → List VV → MM → Prop := RN 9 false (mS M0).length (mT M0) 0 0 sl sx (callX TBg sl sx (d + 4)) (rtW q157 M0 (PI P)) (as2 tb157)
def w157 (l0 : Nat) (M : MM) (P : Int32 → MM → Prop) : Prop := kd M l0 9 ∧ (∃ a1, mR M l0 7 = some a1 ∧ (kd M a1 0 ∧ (((mI M a1 3) ≠ 0 → (kd M l0 9 ∧ (kd M l0 9 ∧ (∃ a2, mR M l0 7 = some a2 ∧ (kd M a2 0 ∧ w158 a2 (mR M l0 5) M (fun M3 => kd M3 l0 9 ∧ (∃ a4, mR M3 l0 7 = some a4 ∧ (kd M3 a4 0 ∧ (kd M3 l0 9 ∧ w35 l0 (mI M3 a4 3) M3 (fun r6 M5 => P r6 M5)))))))))) ∧ (¬ ((mI M a1 3) ≠ 0) → (kd M l0 9 ∧ w17 l0 (5 : Int32) M (fun r8 M7 => P r8 M7))))))
theorem t157_E {sl : Nat} {sx : Nat → Int32} {d : Nat} {M0 : MM} {P : Int32 → MM → Prop} (l0 : Nat) (M : MM) (hM : lenO M0 M) (h : w157  l0 M P) : R157 sl sx d M0 P 0 [some (vR (some l0))] [] M := by
  refine RN_k (callX_det _) 2 _ _ _ _ (show kd M l0 9 ∧ R157 sl sx d M0 P 4 [some (vR (some l0))] [vR (mR M l0 7)] M from ⟨h.1, ?_⟩)
  replace h := h.2
  obtain ⟨a1, he, h⟩ := h
  rw [he]
  refine RN_k (callX_det _) 1 _ _ _ _ (show kd M a1 0 ∧ R157 sl sx d M0 P 7 [some (vR (some l0))] [vI (mI M a1 3)] M from ⟨h.1, ?_⟩)
  replace h := h.2
  refine RN_k (callX_det _) 1 _ _ _ _ (show ((mI M a1 3) ≠ 0 → R157 sl sx d M0 P 16 [some (vR (some l0))] [] M) ∧ (¬ ((mI M a1 3) ≠ 0) → R157 sl sx d M0 P 10 [some (vR (some l0))] [] M) from ⟨fun hc => ?_, fun hc => ?_⟩)
  · replace h := h.1 hc
    refine RN_k (callX_det _) 2 _ _ _ _ (show kd M l0 9 ∧ R157 sl sx d M0 P 20 [some (vR (some l0))] [vR (mR M l0 7)] M from ⟨h.1, ?_⟩)
    replace h := h.2
    refine RN_k (callX_det _) 2 _ _ _ _ (show kd M l0 9 ∧ R157 sl sx d M0 P 24 [some (vR (some l0))] [vR (mR M l0 5), vR (mR M l0 7)] M from ⟨h.1, ?_⟩)
    replace h := h.2
    obtain ⟨a2, he, h⟩ := h
    rw [he]
    refine RN_k (callX_det _) 1 _ _ _ _ (show kd M a2 0 ∧ callX TBg sl sx (d + 4) 158 [vR (some a2), vR (mR M l0 5)] M (fun v M9 => R157 sl sx d M0 P 27 [some (vR (some l0))] (pushO v []) M9) from ⟨h.1, ?_⟩)
    replace h := h.2
    refine callX_mono (callX_len (d := (d + 4)) rfl rfl rfl (c158 (d := d) h)) ?_
    clear h
    rintro v9 M3 ⟨hl, rfl, h⟩
    replace hM := lenT hM hl
    show R157 sl sx d M0 P 27 [some (vR (some l0))] [] M3
    refine RN_k (callX_det _) 3 _ _ _ _ (show kd M3 l0 9 ∧ R157 sl sx d M0 P 32 [some (vR (some l0))] [vR (mR M3 l0 7), vR (some l0)] M3 from ⟨h.1, ?_⟩)
    replace h := h.2
    obtain ⟨a4, he, h⟩ := h
    rw [he]
    refine RN_k (callX_det _) 1 _ _ _ _ (show kd M3 a4 0 ∧ R157 sl sx d M0 P 35 [some (vR (some l0))] [vI (mI M3 a4 3), vR (some l0)] M3 from ⟨h.1, ?_⟩)
    replace h := h.2
    refine RN_k (callX_det _) 1 _ _ _ _ (show kd M3 l0 9 ∧ callX TBg sl sx (d + 4) 35 [vR (some l0), vI (mI M3 a4 3)] M3 (fun v M9 => R157 sl sx d M0 P 38 [some (vR (some l0))] (pushO v []) M9) from ⟨h.1, ?_⟩)
    replace h := h.2
    refine callX_mono (callX_len (d := (d + 4)) rfl rfl rfl (c35 (d := d + 3) h)) ?_
    clear h
    rintro v9 M5 ⟨hl, r6, rfl, h⟩
    replace hM := lenT hM hl
    show R157 sl sx d M0 P 38 [some (vR (some l0))] [vI r6] M5
    exact RN_k (callX_det _) 1 _ _ _ _ (show rtW q157 M0 (PI P) (some (vI r6)) M5 from ⟨⟨_, rfl⟩, hM.1, hM.2, _, rfl, h⟩)
  · replace h := h.2 hc
    refine RN_k (callX_det _) 3 _ _ _ _ (show kd M l0 9 ∧ callX TBg sl sx (d + 4) 17 [vR (some l0), vI (5 : Int32)] M (fun v M9 => R157 sl sx d M0 P 15 [some (vR (some l0))] (pushO v []) M9) from ⟨h.1, ?_⟩)
    replace h := h.2
    refine callX_mono (callX_len (d := (d + 4)) rfl rfl rfl (c17 (d := d + 3) h)) ?_
    clear h
    rintro v9 M7 ⟨hl, r8, rfl, h⟩
    replace hM := lenT hM hl
    show R157 sl sx d M0 P 15 [some (vR (some l0))] [vI r8] M7
    exact RN_k (callX_det _) 1 _ _ _ _ (show rtW q157 M0 (PI P) (some (vI r8)) M7 from ⟨⟨_, rfl⟩, hM.1, hM.2, _, rfl, h⟩)
theorem c157 {sl : Nat} {sx : Nat → Int32} {d : Nat} {l0 : Nat} {M : MM} {P : Int32 → MM → Prop} (h : w157 l0 M P) : callX TBg sl sx (d + 5) 157 [vR (some l0)] M (PI P) :=
  cX (d := d + 4) q157 (false, tb157) rfl rfl rfl (t157_E l0 M lenR h)
-- TwoLeashModel.status()I
abbrev q160 : MQ7 := (1, 1, 1, 10, 0, 0, 1)
abbrev R160 (sl : Nat) (sx : Nat → Int32) (d : Nat) (M0 : MM) (P : Int32 → MM → Prop) : Nat → LL → List VV → MM → Prop := RN 10 false (mS M0).length (mT M0) 0 0 sl sx (callX TBg sl sx (d + 0)) (rtW q160 M0 (PI P)) (as2 tb160)
def w160 (l0 : Nat) (M : MM) (P : Int32 → MM → Prop) : Prop := kd M l0 10 ∧ (P (mI M l0 9) M)
theorem t160_E {sl : Nat} {sx : Nat → Int32} {d : Nat} {M0 : MM} {P : Int32 → MM → Prop} (l0 : Nat) (M : MM) (hM : lenO M0 M) (h : w160  l0 M P) : R160 sl sx d M0 P 0 [some (vR (some l0))] [] M := by
  refine RN_k (callX_det _) 2 _ _ _ _ (show kd M l0 10 ∧ R160 sl sx d M0 P 4 [some (vR (some l0))] [vI (mI M l0 9)] M from ⟨h.1, ?_⟩)
  replace h := h.2
  exact RN_k (callX_det _) 1 _ _ _ _ (show rtW q160 M0 (PI P) (some (vI (mI M l0 9))) M from ⟨⟨_, rfl⟩, hM.1, hM.2, _, rfl, h⟩)
theorem c160 {sl : Nat} {sx : Nat → Int32} {d : Nat} {l0 : Nat} {M : MM} {P : Int32 → MM → Prop} (h : w160 l0 M P) : callX TBg sl sx (d + 1) 160 [vR (some l0)] M (PI P) :=
  cX (d := d + 0) q160 (false, tb160) rfl rfl rfl (t160_E l0 M lenR h)
-- TwoLeashModel.top()J
abbrev q161 : MQ7 := (1, 1, 1, 10, 0, 0, 2)
abbrev R161 (sl : Nat) (sx : Nat → Int32) (d : Nat) (M0 : MM) (P : Int64 → MM → Prop) : Nat → LL → List VV → MM → Prop := RN 10 false (mS M0).length (mT M0) 0 0 sl sx (callX TBg sl sx (d + 0)) (rtW q161 M0 (PL P)) (as2 tb161)
def w161 (l0 : Nat) (M : MM) (P : Int64 → MM → Prop) : Prop := kd M l0 10 ∧ (P (mL M l0 13) M)
theorem t161_E {sl : Nat} {sx : Nat → Int32} {d : Nat} {M0 : MM} {P : Int64 → MM → Prop} (l0 : Nat) (M : MM) (hM : lenO M0 M) (h : w161  l0 M P) : R161 sl sx d M0 P 0 [some (vR (some l0))] [] M := by
  refine RN_k (callX_det _) 2 _ _ _ _ (show kd M l0 10 ∧ R161 sl sx d M0 P 4 [some (vR (some l0))] [vL (mL M l0 13)] M from ⟨h.1, ?_⟩)
  replace h := h.2
  exact RN_k (callX_det _) 1 _ _ _ _ (show rtW q161 M0 (PL P) (some (vL (mL M l0 13))) M from ⟨⟨_, rfl⟩, hM.1, hM.2, _, rfl, h⟩)
theorem c161 {sl : Nat} {sx : Nat → Int32} {d : Nat} {l0 : Nat} {M : MM} {P : Int64 → MM → Prop} (h : w161 l0 M P) : callX TBg sl sx (d + 1) 161 [vR (some l0)] M (PL P) :=
  cX (d := d + 0) q161 (false, tb161) rfl rfl rfl (t161_E l0 M lenR h)
-- TwoLeashModel.bottom()J
abbrev q162 : MQ7 := (1, 1, 1, 10, 0, 0, 2)
abbrev R162 (sl : Nat) (sx : Nat → Int32) (d : Nat) (M0 : MM) (P : Int64 → MM → Prop) : Nat → LL → List VV → MM → Prop := RN 10 false (mS M0).length (mT M0) 0 0 sl sx (callX TBg sl sx (d + 0)) (rtW q162 M0 (PL P)) (as2 tb162)
def w162 (l0 : Nat) (M : MM) (P : Int64 → MM → Prop) : Prop := kd M l0 10 ∧ (P (mL M l0 14) M)
theorem t162_E {sl : Nat} {sx : Nat → Int32} {d : Nat} {M0 : MM} {P : Int64 → MM → Prop} (l0 : Nat) (M : MM) (hM : lenO M0 M) (h : w162  l0 M P) : R162 sl sx d M0 P 0 [some (vR (some l0))] [] M := by
  refine RN_k (callX_det _) 2 _ _ _ _ (show kd M l0 10 ∧ R162 sl sx d M0 P 4 [some (vR (some l0))] [vL (mL M l0 14)] M from ⟨h.1, ?_⟩)
  replace h := h.2
  exact RN_k (callX_det _) 1 _ _ _ _ (show rtW q162 M0 (PL P) (some (vL (mL M l0 14))) M from ⟨⟨_, rfl⟩, hM.1, hM.2, _, rfl, h⟩)
theorem c162 {sl : Nat} {sx : Nat → Int32} {d : Nat} {l0 : Nat} {M : MM} {P : Int64 → MM → Prop} (h : w162 l0 M P) : callX TBg sl sx (d + 1) 162 [vR (some l0)] M (PL P) :=
  cX (d := d + 0) q162 (false, tb162) rfl rfl rfl (t162_E l0 M lenR h)
-- TwoLeashModel.come(I)V
abbrev q164 : MQ7 := (2, 1, 3, 10, 0, 0, 0)
abbrev R164 (sl : Nat) (sx : Nat → Int32) (d : Nat) (M0 : MM) (P : MM → Prop) : Nat → LL → List VV → MM → Prop := RN 10 false (mS M0).length (mT M0) 0 0 sl sx (callX TBg sl sx (d + 0)) (rtW q164 M0 (PV P)) (as2 tb164)
def w164_33 (k3 : Nat → Int32 → Int32 → MM → Prop) (l0 : Nat) (l1 : Int32) (l2 : Int32) (M : MM) (P : MM → Prop) : Prop := k3 l0 l1 (l2 + (-8 : Int32)) M
theorem t164_33 {sl : Nat} {sx : Nat → Int32} {d : Nat} {M0 : MM} {P : MM → Prop} {k3 : Nat → Int32 → Int32 → MM → Prop} (hk3 : ∀ (l0 : Nat) (l1 : Int32) (l2 : Int32) (M : MM), lenO M0 M → k3 l0 l1 l2 M → R164 sl sx d M0 P 3 [some (vR (some l0)), some (vI l1), some (vI l2)] [] M) (l0 : Nat) (l1 : Int32) (l2 : Int32) (M : MM) (hM : lenO M0 M) (h : w164_33 k3 l0 l1 l2 M P) : R164 sl sx d M0 P 33 [some (vR (some l0)), some (vI l1), some (vI l2)] [] M := by
  refine RN_k (callX_det _) 2 _ _ _ _ (show R164 sl sx d M0 P 3 [some (vR (some l0)), some (vI l1), some (vI (l2 + (-8 : Int32)))] [] M from ?_)
  exact RN_weak (K := [some (vR (some l0)), some (vI l1), some (vI (l2 + (-8 : Int32)))]) (callX_det _) (show _ ∧ _ ∧ _ ∧ True from ⟨rfl, rfl, rfl, trivial⟩) (hk3 l0 l1 (l2 + (-8 : Int32)) _ hM h)
def w164_3 : Nat → Nat → Int32 → Int32 → MM → (MM → Prop) → Prop
  | 0 => fun _ _ _ _ _ => False
  | n + 1 => fun l0 l1 l2 M P => (l2 < 0 → (P M)) ∧ (¬ (l2 < 0) → (kd M l0 10 ∧ (kd M l0 10 ∧ (∃ a1, mR M l0 7 = some a1 ∧ (inb M a1 11 (mI M l0 8) ∧ (kd (sI M a1 (mI M l0 8).toNatClampNeg (((l1.toUInt32 >>> (l2.toUInt32 &&& Int32.toUInt32 31)).toInt32) &&& (255 : Int32))) l0 10 ∧ (kd (sI M a1 (mI M l0 8).toNatClampNeg (((l1.toUInt32 >>> (l2.toUInt32 &&& Int32.toUInt32 31)).toInt32) &&& (255 : Int32))) l0 10 ∧ (w164_33 (fun z0 z1 z2 z3 => w164_3  n z0 z1 z2 z3 P) l0 l1 l2 (sI (sI M a1 (mI M l0 8).toNatClampNeg (((l1.toUInt32 >>> (l2.toUInt32 &&& Int32.toUInt32 31)).toInt32) &&& (255 : Int32))) l0 8 ((mI (sI M a1 (mI M l0 8).toNatClampNeg (((l1.toUInt32 >>> (l2.toUInt32 &&& Int32.toUInt32 31)).toInt32) &&& (255 : Int32))) l0 8) + (1 : Int32))) P))))))))
theorem t164_3 {sl : Nat} {sx : Nat → Int32} {d : Nat} {M0 : MM} {P : MM → Prop} (n : Nat) : ∀ (l0 : Nat) (l1 : Int32) (l2 : Int32) (M : MM) (_ : lenO M0 M) (_ : w164_3  n l0 l1 l2 M P), R164 sl sx d M0 P 3 [some (vR (some l0)), some (vI l1), some (vI l2)] [] M := by
  induction n with
  | zero => intro l0 l1 l2 M hM h; cases h
  | succ n ih =>
    intro l0 l1 l2 M hM h
    refine RN_k (callX_det _) 2 _ _ _ _ (show (l2 < 0 → R164 sl sx d M0 P 39 [some (vR (some l0)), some (vI l1), some (vI l2)] [] M) ∧ (¬ (l2 < 0) → R164 sl sx d M0 P 7 [some (vR (some l0)), some (vI l1), some (vI l2)] [] M) from ⟨fun hc => ?_, fun hc => ?_⟩)
    · replace h := h.1 hc
      exact RN_k (callX_det _) 1 _ _ _ _ (show rtW q164 M0 (PV P) none M from ⟨rfl, hM.1, hM.2, rfl, h⟩)
    · replace h := h.2 hc
      refine RN_k (callX_det _) 2 _ _ _ _ (show kd M l0 10 ∧ R164 sl sx d M0 P 11 [some (vR (some l0)), some (vI l1), some (vI l2)] [vR (mR M l0 7)] M from ⟨h.1, ?_⟩)
      replace h := h.2
      refine RN_k (callX_det _) 2 _ _ _ _ (show kd M l0 10 ∧ R164 sl sx d M0 P 15 [some (vR (some l0)), some (vI l1), some (vI l2)] [vI (mI M l0 8), vR (mR M l0 7)] M from ⟨h.1, ?_⟩)
      replace h := h.2
      obtain ⟨a1, he, h⟩ := h
      refine RN_k (callX_det _) 5 _ _ _ _ (show R164 sl sx d M0 P 22 [some (vR (some l0)), some (vI l1), some (vI l2)] [vI (((l1.toUInt32 >>> (l2.toUInt32 &&& Int32.toUInt32 31)).toInt32) &&& (255 : Int32)), vI (mI M l0 8), vR (mR M l0 7)] M from ?_)
      rw [he]
      refine RN_k (callX_det _) 1 _ _ _ _ (show inb M a1 11 (mI M l0 8) ∧ R164 sl sx d M0 P 23 [some (vR (some l0)), some (vI l1), some (vI l2)] [] (sI M a1 (mI M l0 8).toNatClampNeg (((l1.toUInt32 >>> (l2.toUInt32 &&& Int32.toUInt32 31)).toInt32) &&& (255 : Int32))) from ⟨h.1, ?_⟩)
      replace h := h.2
      refine RN_k (callX_det _) 3 _ _ _ _ (show kd (sI M a1 (mI M l0 8).toNatClampNeg (((l1.toUInt32 >>> (l2.toUInt32 &&& Int32.toUInt32 31)).toInt32) &&& (255 : Int32))) l0 10 ∧ R164 sl sx d M0 P 28 [some (vR (some l0)), some (vI l1), some (vI l2)] [vI (mI (sI M a1 (mI M l0 8).toNatClampNeg (((l1.toUInt32 >>> (l2.toUInt32 &&& Int32.toUInt32 31)).toInt32) &&& (255 : Int32))) l0 8), vR (some l0)] (sI M a1 (mI M l0 8).toNatClampNeg (((l1.toUInt32 >>> (l2.toUInt32 &&& Int32.toUInt32 31)).toInt32) &&& (255 : Int32))) from ⟨h.1, ?_⟩)
      replace h := h.2
      refine RN_k (callX_det _) 3 _ _ _ _ (show kd (sI M a1 (mI M l0 8).toNatClampNeg (((l1.toUInt32 >>> (l2.toUInt32 &&& Int32.toUInt32 31)).toInt32) &&& (255 : Int32))) l0 10 ∧ R164 sl sx d M0 P 33 [some (vR (some l0)), some (vI l1), some (vI l2)] [] (sI (sI M a1 (mI M l0 8).toNatClampNeg (((l1.toUInt32 >>> (l2.toUInt32 &&& Int32.toUInt32 31)).toInt32) &&& (255 : Int32))) l0 8 ((mI (sI M a1 (mI M l0 8).toNatClampNeg (((l1.toUInt32 >>> (l2.toUInt32 &&& Int32.toUInt32 31)).toInt32) &&& (255 : Int32))) l0 8) + (1 : Int32))) from ⟨h.1, ?_⟩)
      replace h := h.2
      exact RN_weak (K := [some (vR (some l0)), some (vI l1), some (vI l2)]) (callX_det _) (show _ ∧ _ ∧ _ ∧ True from ⟨rfl, rfl, rfl, trivial⟩) (t164_33 ih l0 l1 l2 _ hM h)
def w164 (l0 : Nat) (l1 : Int32) (M : MM) (P : MM → Prop) : Prop := ∃ n2, w164_3  n2 l0 l1 (24 : Int32) M P
theorem t164_E {sl : Nat} {sx : Nat → Int32} {d : Nat} {M0 : MM} {P : MM → Prop} (l0 : Nat) (l1 : Int32) (M : MM) (hM : lenO M0 M) (h : w164  l0 l1 M P) : R164 sl sx d M0 P 0 [some (vR (some l0)), some (vI l1), none] [] M := by
  refine RN_k (callX_det _) 2 _ _ _ _ (show R164 sl sx d M0 P 3 [some (vR (some l0)), some (vI l1), some (vI (24 : Int32))] [] M from ?_)
  obtain ⟨n2, h⟩ := h
  exact RN_weak (K := [some (vR (some l0)), some (vI l1), some (vI (24 : Int32))]) (callX_det _) (show _ ∧ _ ∧ _ ∧ True from ⟨rfl, rfl, rfl, trivial⟩) (t164_3  n2 l0 l1 (24 : Int32) _ hM h)
theorem c164 {sl : Nat} {sx : Nat → Int32} {d : Nat} {l0 : Nat} {l1 : Int32} {M : MM} {P : MM → Prop} (h : w164 l0 l1 M P) : callX TBg sl sx (d + 1) 164 [vR (some l0), vI l1] M (PV P) :=
  cX (d := d + 0) q164 (false, tb164) rfl rfl rfl (t164_E l0 l1 M lenR h)
-- TwoLeashModel.feed(IIIII)I
abbrev q163 : MQ7 := (6, 1, 6, 10, 0, 0, 1)
abbrev R163 (sl : Nat) (sx : Nat → Int32) (d : Nat) (M0 : MM) (P : Int32 → MM → Prop) : Nat → LL → List VV → MM → Prop := RN 10 false (mS M0).length (mT M0) 0 0 sl sx (callX TBg sl sx (d + 1)) (rtW q163 M0 (PI P)) (as2 tb163)
def w163 (l0 : Nat) (l1 : Int32) (l2 : Int32) (l3 : Int32) (l4 : Int32) (l5 : Int32) (M : MM) (P : Int32 → MM → Prop) : Prop := kd M l0 10 ∧ ((((mI M l0 8) + (20 : Int32)) ≤ (700 : Int32) → (kd M l0 10 ∧ w164 l0 l1 M (fun M1 => kd M1 l0 10 ∧ w164 l0 l2 M1 (fun M2 => kd M2 l0 10 ∧ w164 l0 l3 M2 (fun M3 => kd M3 l0 10 ∧ w164 l0 l4 M3 (fun M4 => kd M4 l0 10 ∧ w164 l0 l5 M4 (fun M5 => kd M5 l0 10 ∧ (P (mI M5 l0 8) M5)))))))) ∧ (¬ (((mI M l0 8) + (20 : Int32)) ≤ (700 : Int32)) → (P (-1 : Int32) M)))
theorem t163_E {sl : Nat} {sx : Nat → Int32} {d : Nat} {M0 : MM} {P : Int32 → MM → Prop} (l0 : Nat) (l1 : Int32) (l2 : Int32) (l3 : Int32) (l4 : Int32) (l5 : Int32) (M : MM) (hM : lenO M0 M) (h : w163  l0 l1 l2 l3 l4 l5 M P) : R163 sl sx d M0 P 0 [some (vR (some l0)), some (vI l1), some (vI l2), some (vI l3), some (vI l4), some (vI l5)] [] M := by
  refine RN_k (callX_det _) 2 _ _ _ _ (show kd M l0 10 ∧ R163 sl sx d M0 P 4 [some (vR (some l0)), some (vI l1), some (vI l2), some (vI l3), some (vI l4), some (vI l5)] [vI (mI M l0 8)] M from ⟨h.1, ?_⟩)
  replace h := h.2
  refine RN_k (callX_det _) 4 _ _ _ _ (show (((mI M l0 8) + (20 : Int32)) ≤ (700 : Int32) → R163 sl sx d M0 P 15 [some (vR (some l0)), some (vI l1), some (vI l2), some (vI l3), some (vI l4), some (vI l5)] [] M) ∧ (¬ (((mI M l0 8) + (20 : Int32)) ≤ (700 : Int32)) → R163 sl sx d M0 P 13 [some (vR (some l0)), some (vI l1), some (vI l2), some (vI l3), some (vI l4), some (vI l5)] [] M) from ⟨fun hc => ?_, fun hc => ?_⟩)
  · replace h := h.1 hc
    refine RN_k (callX_det _) 3 _ _ _ _ (show kd M l0 10 ∧ callX TBg sl sx (d + 1) 164 [vR (some l0), vI l1] M (fun v M9 => R163 sl sx d M0 P 20 [some (vR (some l0)), some (vI l1), some (vI l2), some (vI l3), some (vI l4), some (vI l5)] (pushO v []) M9) from ⟨h.1, ?_⟩)
    replace h := h.2
    refine callX_mono (callX_len (d := (d + 1)) rfl rfl rfl (c164 (d := d) h)) ?_
    clear h
    rintro v9 M1 ⟨hl, rfl, h⟩
    replace hM := lenT hM hl
    show R163 sl sx d M0 P 20 [some (vR (some l0)), some (vI l1), some (vI l2), some (vI l3), some (vI l4), some (vI l5)] [] M1
    refine RN_k (callX_det _) 3 _ _ _ _ (show kd M1 l0 10 ∧ callX TBg sl sx (d + 1) 164 [vR (some l0), vI l2] M1 (fun v M9 => R163 sl sx d M0 P 25 [some (vR (some l0)), some (vI l1), some (vI l2), some (vI l3), some (vI l4), some (vI l5)] (pushO v []) M9) from ⟨h.1, ?_⟩)
    replace h := h.2
    refine callX_mono (callX_len (d := (d + 1)) rfl rfl rfl (c164 (d := d) h)) ?_
    clear h
    rintro v9 M2 ⟨hl, rfl, h⟩
    replace hM := lenT hM hl
    show R163 sl sx d M0 P 25 [some (vR (some l0)), some (vI l1), some (vI l2), some (vI l3), some (vI l4), some (vI l5)] [] M2
    refine RN_k (callX_det _) 3 _ _ _ _ (show kd M2 l0 10 ∧ callX TBg sl sx (d + 1) 164 [vR (some l0), vI l3] M2 (fun v M9 => R163 sl sx d M0 P 30 [some (vR (some l0)), some (vI l1), some (vI l2), some (vI l3), some (vI l4), some (vI l5)] (pushO v []) M9) from ⟨h.1, ?_⟩)
    replace h := h.2
    refine callX_mono (callX_len (d := (d + 1)) rfl rfl rfl (c164 (d := d) h)) ?_
    clear h
    rintro v9 M3 ⟨hl, rfl, h⟩
    replace hM := lenT hM hl
    show R163 sl sx d M0 P 30 [some (vR (some l0)), some (vI l1), some (vI l2), some (vI l3), some (vI l4), some (vI l5)] [] M3
    refine RN_k (callX_det _) 3 _ _ _ _ (show kd M3 l0 10 ∧ callX TBg sl sx (d + 1) 164 [vR (some l0), vI l4] M3 (fun v M9 => R163 sl sx d M0 P 36 [some (vR (some l0)), some (vI l1), some (vI l2), some (vI l3), some (vI l4), some (vI l5)] (pushO v []) M9) from ⟨h.1, ?_⟩)
    replace h := h.2
    refine callX_mono (callX_len (d := (d + 1)) rfl rfl rfl (c164 (d := d) h)) ?_
    clear h
    rintro v9 M4 ⟨hl, rfl, h⟩
    replace hM := lenT hM hl
    show R163 sl sx d M0 P 36 [some (vR (some l0)), some (vI l1), some (vI l2), some (vI l3), some (vI l4), some (vI l5)] [] M4
    refine RN_k (callX_det _) 3 _ _ _ _ (show kd M4 l0 10 ∧ callX TBg sl sx (d + 1) 164 [vR (some l0), vI l5] M4 (fun v M9 => R163 sl sx d M0 P 42 [some (vR (some l0)), some (vI l1), some (vI l2), some (vI l3), some (vI l4), some (vI l5)] (pushO v []) M9) from ⟨h.1, ?_⟩)
    replace h := h.2
    refine callX_mono (callX_len (d := (d + 1)) rfl rfl rfl (c164 (d := d) h)) ?_
    clear h
    rintro v9 M5 ⟨hl, rfl, h⟩
    replace hM := lenT hM hl
    show R163 sl sx d M0 P 42 [some (vR (some l0)), some (vI l1), some (vI l2), some (vI l3), some (vI l4), some (vI l5)] [] M5
    refine RN_k (callX_det _) 2 _ _ _ _ (show kd M5 l0 10 ∧ R163 sl sx d M0 P 46 [some (vR (some l0)), some (vI l1), some (vI l2), some (vI l3), some (vI l4), some (vI l5)] [vI (mI M5 l0 8)] M5 from ⟨h.1, ?_⟩)
    replace h := h.2
    exact RN_k (callX_det _) 1 _ _ _ _ (show rtW q163 M0 (PI P) (some (vI (mI M5 l0 8))) M5 from ⟨⟨_, rfl⟩, hM.1, hM.2, _, rfl, h⟩)
  · replace h := h.2 hc
    exact RN_k (callX_det _) 2 _ _ _ _ (show rtW q163 M0 (PI P) (some (vI (-1 : Int32))) M from ⟨⟨_, rfl⟩, hM.1, hM.2, _, rfl, h⟩)
theorem c163 {sl : Nat} {sx : Nat → Int32} {d : Nat} {l0 : Nat} {l1 : Int32} {l2 : Int32} {l3 : Int32} {l4 : Int32} {l5 : Int32} {M : MM} {P : Int32 → MM → Prop} (h : w163 l0 l1 l2 l3 l4 l5 M P) : callX TBg sl sx (d + 2) 163 [vR (some l0), vI l1, vI l2, vI l3, vI l4, vI l5] M (PI P) :=
  cX (d := d + 1) q163 (false, tb163) rfl rfl rfl (t163_E l0 l1 l2 l3 l4 l5 M lenR h)
-- TwoLeashModel.isFrom(III)Z
abbrev q166 : MQ7 := (3, 0, 3, 10, 0, 0, 4)
abbrev R166 (sl : Nat) (sx : Nat → Int32) (d : Nat) (M0 : MM) (P : Int32 → MM → Prop) : Nat → LL → List VV → MM → Prop := RN 10 false (mS M0).length (mT M0) 0 0 sl sx (callX TBg sl sx (d + 0)) (rtW q166 M0 (PI P)) (as2 tb166)
def w166_15 (s0 : Int32) (M : MM) (P : Int32 → MM → Prop) : Prop := (s0 = 0 ∨ s0 = 1) ∧ P s0 M
theorem t166_15 {sl : Nat} {sx : Nat → Int32} {d : Nat} {M0 : MM} {P : Int32 → MM → Prop} (s0 : Int32) (M : MM) (hM : lenO M0 M) (h : w166_15  s0 M P) : R166 sl sx d M0 P 15 [none, none, none] [vI s0] M := by
  exact RN_k (callX_det _) 1 _ _ _ _ (show rtW q166 M0 (PI P) (some (vI s0)) M from ⟨⟨_, rfl, h.1⟩, hM.1, hM.2, _, rfl, h.2⟩)
def w166_14 (M : MM) (P : Int32 → MM → Prop) : Prop := w166_15  (0 : Int32) M P
theorem t166_14 {sl : Nat} {sx : Nat → Int32} {d : Nat} {M0 : MM} {P : Int32 → MM → Prop}  (M : MM) (hM : lenO M0 M) (h : w166_14   M P) : R166 sl sx d M0 P 14 [none, none, none] [] M := by
  refine RN_k (callX_det _) 1 _ _ _ _ (show R166 sl sx d M0 P 15 [none, none, none] [vI (0 : Int32)] M from ?_)
  exact RN_weak (K := [none, none, none]) (callX_det _) (show True from trivial) (t166_15  (0 : Int32) _ hM h)
def w166 (l0 : Int32) (l1 : Int32) (l2 : Int32) (M : MM) (P : Int32 → MM → Prop) : Prop := (l0 < l1 → (w166_14  M P)) ∧ (¬ (l0 < l1) → ((l2 < l0 → (w166_14  M P)) ∧ (¬ (l2 < l0) → (w166_15  (1 : Int32) M P))))
theorem t166_E {sl : Nat} {sx : Nat → Int32} {d : Nat} {M0 : MM} {P : Int32 → MM → Prop} (l0 : Int32) (l1 : Int32) (l2 : Int32) (M : MM) (hM : lenO M0 M) (h : w166  l0 l1 l2 M P) : R166 sl sx d M0 P 0 [some (vI l0), some (vI l1), some (vI l2)] [] M := by
  refine RN_k (callX_det _) 3 _ _ _ _ (show (l0 < l1 → R166 sl sx d M0 P 14 [some (vI l0), some (vI l1), some (vI l2)] [] M) ∧ (¬ (l0 < l1) → R166 sl sx d M0 P 5 [some (vI l0), some (vI l1), some (vI l2)] [] M) from ⟨fun hc => ?_, fun hc => ?_⟩)
  · replace h := h.1 hc
    exact RN_weak (K := [none, none, none]) (callX_det _) (show True from trivial) (t166_14   _ hM h)
  · replace h := h.2 hc
    refine RN_k (callX_det _) 3 _ _ _ _ (show (l2 < l0 → R166 sl sx d M0 P 14 [some (vI l0), some (vI l1), some (vI l2)] [] M) ∧ (¬ (l2 < l0) → R166 sl sx d M0 P 10 [some (vI l0), some (vI l1), some (vI l2)] [] M) from ⟨fun hc => ?_, fun hc => ?_⟩)
    · replace h := h.1 hc
      exact RN_weak (K := [none, none, none]) (callX_det _) (show True from trivial) (t166_14   _ hM h)
    · replace h := h.2 hc
      refine RN_k (callX_det _) 2 _ _ _ _ (show R166 sl sx d M0 P 15 [some (vI l0), some (vI l1), some (vI l2)] [vI (1 : Int32)] M from ?_)
      exact RN_weak (K := [none, none, none]) (callX_det _) (show True from trivial) (t166_15  (1 : Int32) _ hM h)
theorem c166 {sl : Nat} {sx : Nat → Int32} {d : Nat} {l0 : Int32} {l1 : Int32} {l2 : Int32} {M : MM} {P : Int32 → MM → Prop} (h : w166 l0 l1 l2 M P) : callX TBg sl sx (d + 1) 166 [vI l0, vI l1, vI l2] M (PI P) :=
  cX (d := d + 0) q166 (false, tb166) rfl rfl rfl (t166_E l0 l1 l2 M lenR h)
-- TwoLeashModel.refuse(I)I
abbrev q167 : MQ7 := (2, 1, 2, 10, 0, 0, 1)
abbrev R167 (sl : Nat) (sx : Nat → Int32) (d : Nat) (M0 : MM) (P : Int32 → MM → Prop) : Nat → LL → List VV → MM → Prop := RN 10 false (mS M0).length (mT M0) 0 0 sl sx (callX TBg sl sx (d + 0)) (rtW q167 M0 (PI P)) (as2 tb167)
def w167 (l0 : Nat) (l1 : Int32) (M : MM) (P : Int32 → MM → Prop) : Prop := kd M l0 10 ∧ (P (-1 : Int32) (sI M l0 9 l1))
theorem t167_E {sl : Nat} {sx : Nat → Int32} {d : Nat} {M0 : MM} {P : Int32 → MM → Prop} (l0 : Nat) (l1 : Int32) (M : MM) (hM : lenO M0 M) (h : w167  l0 l1 M P) : R167 sl sx d M0 P 0 [some (vR (some l0)), some (vI l1)] [] M := by
  refine RN_k (callX_det _) 3 _ _ _ _ (show kd M l0 10 ∧ R167 sl sx d M0 P 5 [some (vR (some l0)), some (vI l1)] [] (sI M l0 9 l1) from ⟨h.1, ?_⟩)
  replace h := h.2
  exact RN_k (callX_det _) 2 _ _ _ _ (show rtW q167 M0 (PI P) (some (vI (-1 : Int32))) (sI M l0 9 l1) from ⟨⟨_, rfl⟩, hM.1, hM.2, _, rfl, h⟩)
theorem c167 {sl : Nat} {sx : Nat → Int32} {d : Nat} {l0 : Nat} {l1 : Int32} {M : MM} {P : Int32 → MM → Prop} (h : w167 l0 l1 M P) : callX TBg sl sx (d + 1) 167 [vR (some l0), vI l1] M (PI P) :=
  cX (d := d + 0) q167 (false, tb167) rfl rfl rfl (t167_E l0 l1 M lenR h)
-- TwoLeashModel.byteAt(I)I
abbrev q169 : MQ7 := (2, 1, 2, 10, 0, 0, 1)
abbrev R169 (sl : Nat) (sx : Nat → Int32) (d : Nat) (M0 : MM) (P : Int32 → MM → Prop) : Nat → LL → List VV → MM → Prop := RN 10 false (mS M0).length (mT M0) 0 0 sl sx (callX TBg sl sx (d + 0)) (rtW q169 M0 (PI P)) (as2 tb169)
def w169_18 (s0 : Int32) (M : MM) (P : Int32 → MM → Prop) : Prop := P s0 M
theorem t169_18 {sl : Nat} {sx : Nat → Int32} {d : Nat} {M0 : MM} {P : Int32 → MM → Prop} (s0 : Int32) (M : MM) (hM : lenO M0 M) (h : w169_18  s0 M P) : R169 sl sx d M0 P 18 [none, none] [vI s0] M := by
  exact RN_k (callX_det _) 1 _ _ _ _ (show rtW q169 M0 (PI P) (some (vI s0)) M from ⟨⟨_, rfl⟩, hM.1, hM.2, _, rfl, h⟩)
def w169 (l0 : Nat) (l1 : Int32) (M : MM) (P : Int32 → MM → Prop) : Prop := kd M l0 10 ∧ (((mI M l0 15) ≤ l1 → (w169_18  (-1 : Int32) M P)) ∧ (¬ ((mI M l0 15) ≤ l1) → (kd M l0 10 ∧ (∃ a1, mR M l0 7 = some a1 ∧ (inb M a1 11 l1 ∧ (w169_18  (mI M a1 l1.toNatClampNeg) M P))))))
theorem t169_E {sl : Nat} {sx : Nat → Int32} {d : Nat} {M0 : MM} {P : Int32 → MM → Prop} (l0 : Nat) (l1 : Int32) (M : MM) (hM : lenO M0 M) (h : w169  l0 l1 M P) : R169 sl sx d M0 P 0 [some (vR (some l0)), some (vI l1)] [] M := by
  refine RN_k (callX_det _) 3 _ _ _ _ (show kd M l0 10 ∧ R169 sl sx d M0 P 5 [some (vR (some l0)), some (vI l1)] [vI (mI M l0 15), vI l1] M from ⟨h.1, ?_⟩)
  replace h := h.2
  refine RN_k (callX_det _) 1 _ _ _ _ (show ((mI M l0 15) ≤ l1 → R169 sl sx d M0 P 17 [some (vR (some l0)), some (vI l1)] [] M) ∧ (¬ ((mI M l0 15) ≤ l1) → R169 sl sx d M0 P 8 [some (vR (some l0)), some (vI l1)] [] M) from ⟨fun hc => ?_, fun hc => ?_⟩)
  · replace h := h.1 hc
    refine RN_k (callX_det _) 1 _ _ _ _ (show R169 sl sx d M0 P 18 [some (vR (some l0)), some (vI l1)] [vI (-1 : Int32)] M from ?_)
    exact RN_weak (K := [none, none]) (callX_det _) (show True from trivial) (t169_18  (-1 : Int32) _ hM h)
  · replace h := h.2 hc
    refine RN_k (callX_det _) 2 _ _ _ _ (show kd M l0 10 ∧ R169 sl sx d M0 P 12 [some (vR (some l0)), some (vI l1)] [vR (mR M l0 7)] M from ⟨h.1, ?_⟩)
    replace h := h.2
    obtain ⟨a1, he, h⟩ := h
    refine RN_k (callX_det _) 1 _ _ _ _ (show R169 sl sx d M0 P 13 [some (vR (some l0)), some (vI l1)] [vI l1, vR (mR M l0 7)] M from ?_)
    rw [he]
    refine RN_k (callX_det _) 1 _ _ _ _ (show inb M a1 11 l1 ∧ R169 sl sx d M0 P 14 [some (vR (some l0)), some (vI l1)] [vI (mI M a1 l1.toNatClampNeg)] M from ⟨h.1, ?_⟩)
    replace h := h.2
    refine RN_k (callX_det _) 1 _ _ _ _ (show R169 sl sx d M0 P 18 [some (vR (some l0)), some (vI l1)] [vI (mI M a1 l1.toNatClampNeg)] M from ?_)
    exact RN_weak (K := [none, none]) (callX_det _) (show True from trivial) (t169_18  (mI M a1 l1.toNatClampNeg) _ hM h)
theorem c169 {sl : Nat} {sx : Nat → Int32} {d : Nat} {l0 : Nat} {l1 : Int32} {M : MM} {P : Int32 → MM → Prop} (h : w169 l0 l1 M P) : callX TBg sl sx (d + 1) 169 [vR (some l0), vI l1] M (PI P) :=
  cX (d := d + 0) q169 (false, tb169) rfl rfl rfl (t169_E l0 l1 M lenR h)
-- TwoLeashModel.isLetter(I)Z
abbrev q170 : MQ7 := (1, 0, 1, 10, 0, 0, 4)
abbrev R170 (sl : Nat) (sx : Nat → Int32) (d : Nat) (M0 : MM) (P : Int32 → MM → Prop) : Nat → LL → List VV → MM → Prop := RN 10 false (mS M0).length (mT M0) 0 0 sl sx (callX TBg sl sx (d + 0)) (rtW q170 M0 (PI P)) (as2 tb170)
def w170_17 (s0 : Int32) (M : MM) (P : Int32 → MM → Prop) : Prop := (s0 = 0 ∨ s0 = 1) ∧ P s0 M
theorem t170_17 {sl : Nat} {sx : Nat → Int32} {d : Nat} {M0 : MM} {P : Int32 → MM → Prop} (s0 : Int32) (M : MM) (hM : lenO M0 M) (h : w170_17  s0 M P) : R170 sl sx d M0 P 17 [none] [vI s0] M := by
  exact RN_k (callX_det _) 1 _ _ _ _ (show rtW q170 M0 (PI P) (some (vI s0)) M from ⟨⟨_, rfl, h.1⟩, hM.1, hM.2, _, rfl, h.2⟩)
def w170_16 (M : MM) (P : Int32 → MM → Prop) : Prop := w170_17  (0 : Int32) M P
theorem t170_16 {sl : Nat} {sx : Nat → Int32} {d : Nat} {M0 : MM} {P : Int32 → MM → Prop}  (M : MM) (hM : lenO M0 M) (h : w170_16   M P) : R170 sl sx d M0 P 16 [none] [] M := by
  refine RN_k (callX_det _) 1 _ _ _ _ (show R170 sl sx d M0 P 17 [none] [vI (0 : Int32)] M from ?_)
  exact RN_weak (K := [none]) (callX_det _) (show True from trivial) (t170_17  (0 : Int32) _ hM h)
def w170 (l0 : Int32) (M : MM) (P : Int32 → MM → Prop) : Prop := (l0 < (97 : Int32) → (w170_16  M P)) ∧ (¬ (l0 < (97 : Int32)) → (((122 : Int32) < l0 → (w170_16  M P)) ∧ (¬ ((122 : Int32) < l0) → (w170_17  (1 : Int32) M P))))
theorem t170_E {sl : Nat} {sx : Nat → Int32} {d : Nat} {M0 : MM} {P : Int32 → MM → Prop} (l0 : Int32) (M : MM) (hM : lenO M0 M) (h : w170  l0 M P) : R170 sl sx d M0 P 0 [some (vI l0)] [] M := by
  refine RN_k (callX_det _) 3 _ _ _ _ (show (l0 < (97 : Int32) → R170 sl sx d M0 P 16 [some (vI l0)] [] M) ∧ (¬ (l0 < (97 : Int32)) → R170 sl sx d M0 P 6 [some (vI l0)] [] M) from ⟨fun hc => ?_, fun hc => ?_⟩)
  · replace h := h.1 hc
    exact RN_weak (K := [none]) (callX_det _) (show True from trivial) (t170_16   _ hM h)
  · replace h := h.2 hc
    refine RN_k (callX_det _) 3 _ _ _ _ (show ((122 : Int32) < l0 → R170 sl sx d M0 P 16 [some (vI l0)] [] M) ∧ (¬ ((122 : Int32) < l0) → R170 sl sx d M0 P 12 [some (vI l0)] [] M) from ⟨fun hc => ?_, fun hc => ?_⟩)
    · replace h := h.1 hc
      exact RN_weak (K := [none]) (callX_det _) (show True from trivial) (t170_16   _ hM h)
    · replace h := h.2 hc
      refine RN_k (callX_det _) 2 _ _ _ _ (show R170 sl sx d M0 P 17 [some (vI l0)] [vI (1 : Int32)] M from ?_)
      exact RN_weak (K := [none]) (callX_det _) (show True from trivial) (t170_17  (1 : Int32) _ hM h)
theorem c170 {sl : Nat} {sx : Nat → Int32} {d : Nat} {l0 : Int32} {M : MM} {P : Int32 → MM → Prop} (h : w170 l0 M P) : callX TBg sl sx (d + 1) 170 [vI l0] M (PI P) :=
  cX (d := d + 0) q170 (false, tb170) rfl rfl rfl (t170_E l0 M lenR h)
-- TwoLeashModel.isDigit(I)Z
abbrev q171 : MQ7 := (1, 0, 1, 10, 0, 0, 4)
abbrev R171 (sl : Nat) (sx : Nat → Int32) (d : Nat) (M0 : MM) (P : Int32 → MM → Prop) : Nat → LL → List VV → MM → Prop := RN 10 false (mS M0).length (mT M0) 0 0 sl sx (callX TBg sl sx (d + 0)) (rtW q171 M0 (PI P)) (as2 tb171)
def w171_17 (s0 : Int32) (M : MM) (P : Int32 → MM → Prop) : Prop := (s0 = 0 ∨ s0 = 1) ∧ P s0 M
theorem t171_17 {sl : Nat} {sx : Nat → Int32} {d : Nat} {M0 : MM} {P : Int32 → MM → Prop} (s0 : Int32) (M : MM) (hM : lenO M0 M) (h : w171_17  s0 M P) : R171 sl sx d M0 P 17 [none] [vI s0] M := by
  exact RN_k (callX_det _) 1 _ _ _ _ (show rtW q171 M0 (PI P) (some (vI s0)) M from ⟨⟨_, rfl, h.1⟩, hM.1, hM.2, _, rfl, h.2⟩)
def w171_16 (M : MM) (P : Int32 → MM → Prop) : Prop := w171_17  (0 : Int32) M P
theorem t171_16 {sl : Nat} {sx : Nat → Int32} {d : Nat} {M0 : MM} {P : Int32 → MM → Prop}  (M : MM) (hM : lenO M0 M) (h : w171_16   M P) : R171 sl sx d M0 P 16 [none] [] M := by
  refine RN_k (callX_det _) 1 _ _ _ _ (show R171 sl sx d M0 P 17 [none] [vI (0 : Int32)] M from ?_)
  exact RN_weak (K := [none]) (callX_det _) (show True from trivial) (t171_17  (0 : Int32) _ hM h)
def w171 (l0 : Int32) (M : MM) (P : Int32 → MM → Prop) : Prop := (l0 < (48 : Int32) → (w171_16  M P)) ∧ (¬ (l0 < (48 : Int32)) → (((57 : Int32) < l0 → (w171_16  M P)) ∧ (¬ ((57 : Int32) < l0) → (w171_17  (1 : Int32) M P))))
theorem t171_E {sl : Nat} {sx : Nat → Int32} {d : Nat} {M0 : MM} {P : Int32 → MM → Prop} (l0 : Int32) (M : MM) (hM : lenO M0 M) (h : w171  l0 M P) : R171 sl sx d M0 P 0 [some (vI l0)] [] M := by
  refine RN_k (callX_det _) 3 _ _ _ _ (show (l0 < (48 : Int32) → R171 sl sx d M0 P 16 [some (vI l0)] [] M) ∧ (¬ (l0 < (48 : Int32)) → R171 sl sx d M0 P 6 [some (vI l0)] [] M) from ⟨fun hc => ?_, fun hc => ?_⟩)
  · replace h := h.1 hc
    exact RN_weak (K := [none]) (callX_det _) (show True from trivial) (t171_16   _ hM h)
  · replace h := h.2 hc
    refine RN_k (callX_det _) 3 _ _ _ _ (show ((57 : Int32) < l0 → R171 sl sx d M0 P 16 [some (vI l0)] [] M) ∧ (¬ ((57 : Int32) < l0) → R171 sl sx d M0 P 12 [some (vI l0)] [] M) from ⟨fun hc => ?_, fun hc => ?_⟩)
    · replace h := h.1 hc
      exact RN_weak (K := [none]) (callX_det _) (show True from trivial) (t171_16   _ hM h)
    · replace h := h.2 hc
      refine RN_k (callX_det _) 2 _ _ _ _ (show R171 sl sx d M0 P 17 [some (vI l0)] [vI (1 : Int32)] M from ?_)
      exact RN_weak (K := [none]) (callX_det _) (show True from trivial) (t171_17  (1 : Int32) _ hM h)
theorem c171 {sl : Nat} {sx : Nat → Int32} {d : Nat} {l0 : Int32} {M : MM} {P : Int32 → MM → Prop} (h : w171 l0 M P) : callX TBg sl sx (d + 1) 171 [vI l0] M (PI P) :=
  cX (d := d + 0) q171 (false, tb171) rfl rfl rfl (t171_E l0 M lenR h)
-- TwoLeashModel.go()V
abbrev q168 : MQ7 := (1, 1, 2, 10, 0, 0, 0)
abbrev R168 (sl : Nat) (sx : Nat → Int32) (d : Nat) (M0 : MM) (P : MM → Prop) : Nat → LL → List VV → MM → Prop := RN 10 false (mS M0).length (mT M0) 0 0 sl sx (callX TBg sl sx (d + 1)) (rtW q168 M0 (PV P)) (as2 tb168)
def w168_297 (M : MM) (P : MM → Prop) : Prop := P M
theorem t168_297 {sl : Nat} {sx : Nat → Int32} {d : Nat} {M0 : MM} {P : MM → Prop}  (M : MM) (hM : lenO M0 M) (h : w168_297   M P) : R168 sl sx d M0 P 297 [none, none] [] M := by
  exact RN_k (callX_det _) 1 _ _ _ _ (show rtW q168 M0 (PV P) none M from ⟨rfl, hM.1, hM.2, rfl, h⟩)
def w168_166 (s0 : Option Nat) (s1 : Int32) (M : MM) (P : MM → Prop) : Prop := ∃ a1, s0 = some a1 ∧ (kd M a1 10 ∧ (w168_297  (sI M a1 18 s1) P))
theorem t168_166 {sl : Nat} {sx : Nat → Int32} {d : Nat} {M0 : MM} {P : MM → Prop} (s0 : Option Nat) (s1 : Int32) (M : MM) (hM : lenO M0 M) (h : w168_166  s0 s1 M P) : R168 sl sx d M0 P 166 [none, none] [vI s1, vR s0] M := by
  obtain ⟨a1, he, h⟩ := h
  subst he
  refine RN_k (callX_det _) 1 _ _ _ _ (show kd M a1 10 ∧ R168 sl sx d M0 P 169 [none, none] [] (sI M a1 18 s1) from ⟨h.1, ?_⟩)
  replace h := h.2
  refine RN_k (callX_det _) 1 _ _ _ _ (show R168 sl sx d M0 P 297 [none, none] [] (sI M a1 18 s1) from ?_)
  exact RN_weak (K := [none, none]) (callX_det _) (show True from trivial) (t168_297   _ hM h)
def w168_133 (k81 : Nat → MM → Prop) (l0 : Nat) (M : MM) (P : MM → Prop) : Prop := kd M l0 10 ∧ (kd M l0 10 ∧ (k81 l0 (sI M l0 17 ((mI M l0 17) + (1 : Int32)))))
theorem t168_133 {sl : Nat} {sx : Nat → Int32} {d : Nat} {M0 : MM} {P : MM → Prop} {k81 : Nat → MM → Prop} (hk81 : ∀ (l0 : Nat) (M : MM), lenO M0 M → k81 l0 M → R168 sl sx d M0 P 81 [some (vR (some l0)), none] [] M) (l0 : Nat) (M : MM) (hM : lenO M0 M) (h : w168_133 k81 l0 M P) : R168 sl sx d M0 P 133 [some (vR (some l0)), none] [] M := by
  refine RN_k (callX_det _) 3 _ _ _ _ (show kd M l0 10 ∧ R168 sl sx d M0 P 138 [some (vR (some l0)), none] [vI (mI M l0 17), vR (some l0)] M from ⟨h.1, ?_⟩)
  replace h := h.2
  refine RN_k (callX_det _) 3 _ _ _ _ (show kd M l0 10 ∧ R168 sl sx d M0 P 143 [some (vR (some l0)), none] [] (sI M l0 17 ((mI M l0 17) + (1 : Int32))) from ⟨h.1, ?_⟩)
  replace h := h.2
  refine RN_k (callX_det _) 1 _ _ _ _ (show R168 sl sx d M0 P 81 [some (vR (some l0)), none] [] (sI M l0 17 ((mI M l0 17) + (1 : Int32))) from ?_)
  exact RN_weak (K := [some (vR (some l0)), none]) (callX_det _) (show _ ∧ True from ⟨rfl, trivial⟩) (hk81 l0 _ hM h)
def w168_81 : Nat → Nat → MM → (MM → Prop) → Prop
  | 0 => fun _ _ _ => False
  | n + 1 => fun l0 M P => kd M l0 10 ∧ (kd M l0 10 ∧ w169 l0 (mI M l0 17) M (fun r2 M1 => w170 r2 M1 (fun r4 M3 => (r4 = 0 → (kd M3 l0 10 ∧ (kd M3 l0 10 ∧ ((((mI M3 l0 17) - (mI M3 l0 16)) ≤ (8 : Int32) → (w168_166  (some l0) (2 : Int32) M3 P)) ∧ (¬ (((mI M3 l0 17) - (mI M3 l0 16)) ≤ (8 : Int32)) → (w168_166  (some l0) (1 : Int32) M3 P)))))) ∧ (¬ (r4 = 0) → (kd M3 l0 10 ∧ (kd M3 l0 10 ∧ (((8 : Int32) ≤ ((mI M3 l0 17) - (mI M3 l0 16)) → (w168_133 (fun z0 z1 => w168_81  n z0 z1 P) l0 M3 P)) ∧ (¬ ((8 : Int32) ≤ ((mI M3 l0 17) - (mI M3 l0 16))) → (kd M3 l0 10 ∧ (kd M3 l0 10 ∧ (kd M3 l0 10 ∧ w169 l0 (mI M3 l0 17) M3 (fun r6 M5 => kd M5 l0 10 ∧ (w168_133 (fun z0 z1 => w168_81  n z0 z1 P) l0 (sL M5 l0 22 (((mL M3 l0 22) <<< ((5 : Int32).toInt64 &&& 63)) ||| (r6.toInt64 - (96 : Int64)))) P)))))))))))))
theorem t168_81 {sl : Nat} {sx : Nat → Int32} {d : Nat} {M0 : MM} {P : MM → Prop} (n : Nat) : ∀ (l0 : Nat) (M : MM) (_ : lenO M0 M) (_ : w168_81  n l0 M P), R168 sl sx d M0 P 81 [some (vR (some l0)), none] [] M := by
  induction n with
  | zero => intro l0 M hM h; cases h
  | succ n ih =>
    intro l0 M hM h
    refine RN_k (callX_det _) 3 _ _ _ _ (show kd M l0 10 ∧ R168 sl sx d M0 P 86 [some (vR (some l0)), none] [vI (mI M l0 17), vR (some l0)] M from ⟨h.1, ?_⟩)
    replace h := h.2
    refine RN_k (callX_det _) 1 _ _ _ _ (show kd M l0 10 ∧ callX TBg sl sx (d + 1) 169 [vR (some l0), vI (mI M l0 17)] M (fun v M9 => R168 sl sx d M0 P 89 [some (vR (some l0)), none] (pushO v []) M9) from ⟨h.1, ?_⟩)
    replace h := h.2
    refine callX_mono (callX_len (d := (d + 1)) rfl rfl rfl (c169 (d := d) h)) ?_
    clear h
    rintro v9 M1 ⟨hl, r2, rfl, h⟩
    replace hM := lenT hM hl
    show R168 sl sx d M0 P 89 [some (vR (some l0)), none] [vI r2] M1
    refine RN_k (callX_det _) 1 _ _ _ _ (show callX TBg sl sx (d + 1) 170 [vI r2] M1 (fun v M9 => R168 sl sx d M0 P 92 [some (vR (some l0)), none] (pushO v []) M9) from ?_)
    refine callX_mono (callX_len (d := (d + 1)) rfl rfl rfl (c170 (d := d) h)) ?_
    clear h
    rintro v9 M3 ⟨hl, r4, rfl, h⟩
    replace hM := lenT hM hl
    show R168 sl sx d M0 P 92 [some (vR (some l0)), none] [vI r4] M3
    refine RN_k (callX_det _) 1 _ _ _ _ (show (r4 = 0 → R168 sl sx d M0 P 146 [some (vR (some l0)), none] [] M3) ∧ (¬ (r4 = 0) → R168 sl sx d M0 P 95 [some (vR (some l0)), none] [] M3) from ⟨fun hc => ?_, fun hc => ?_⟩)
    · replace h := h.1 hc
      refine RN_k (callX_det _) 3 _ _ _ _ (show kd M3 l0 10 ∧ R168 sl sx d M0 P 151 [some (vR (some l0)), none] [vI (mI M3 l0 17), vR (some l0)] M3 from ⟨h.1, ?_⟩)
      replace h := h.2
      refine RN_k (callX_det _) 2 _ _ _ _ (show kd M3 l0 10 ∧ R168 sl sx d M0 P 155 [some (vR (some l0)), none] [vI (mI M3 l0 16), vI (mI M3 l0 17), vR (some l0)] M3 from ⟨h.1, ?_⟩)
      replace h := h.2
      refine RN_k (callX_det _) 3 _ _ _ _ (show (((mI M3 l0 17) - (mI M3 l0 16)) ≤ (8 : Int32) → R168 sl sx d M0 P 165 [some (vR (some l0)), none] [vR (some l0)] M3) ∧ (¬ (((mI M3 l0 17) - (mI M3 l0 16)) ≤ (8 : Int32)) → R168 sl sx d M0 P 161 [some (vR (some l0)), none] [vR (some l0)] M3) from ⟨fun hc => ?_, fun hc => ?_⟩)
      · replace h := h.1 hc
        refine RN_k (callX_det _) 1 _ _ _ _ (show R168 sl sx d M0 P 166 [some (vR (some l0)), none] [vI (2 : Int32), vR (some l0)] M3 from ?_)
        exact RN_weak (K := [none, none]) (callX_det _) (show True from trivial) (t168_166  (some l0) (2 : Int32) _ hM h)
      · replace h := h.2 hc
        refine RN_k (callX_det _) 2 _ _ _ _ (show R168 sl sx d M0 P 166 [some (vR (some l0)), none] [vI (1 : Int32), vR (some l0)] M3 from ?_)
        exact RN_weak (K := [none, none]) (callX_det _) (show True from trivial) (t168_166  (some l0) (1 : Int32) _ hM h)
    · replace h := h.2 hc
      refine RN_k (callX_det _) 2 _ _ _ _ (show kd M3 l0 10 ∧ R168 sl sx d M0 P 99 [some (vR (some l0)), none] [vI (mI M3 l0 17)] M3 from ⟨h.1, ?_⟩)
      replace h := h.2
      refine RN_k (callX_det _) 2 _ _ _ _ (show kd M3 l0 10 ∧ R168 sl sx d M0 P 103 [some (vR (some l0)), none] [vI (mI M3 l0 16), vI (mI M3 l0 17)] M3 from ⟨h.1, ?_⟩)
      replace h := h.2
      refine RN_k (callX_det _) 3 _ _ _ _ (show ((8 : Int32) ≤ ((mI M3 l0 17) - (mI M3 l0 16)) → R168 sl sx d M0 P 133 [some (vR (some l0)), none] [] M3) ∧ (¬ ((8 : Int32) ≤ ((mI M3 l0 17) - (mI M3 l0 16))) → R168 sl sx d M0 P 109 [some (vR (some l0)), none] [] M3) from ⟨fun hc => ?_, fun hc => ?_⟩)
      · replace h := h.1 hc
        exact RN_weak (K := [some (vR (some l0)), none]) (callX_det _) (show _ ∧ True from ⟨rfl, trivial⟩) (t168_133 ih l0 _ hM h)
      · replace h := h.2 hc
        refine RN_k (callX_det _) 3 _ _ _ _ (show kd M3 l0 10 ∧ R168 sl sx d M0 P 114 [some (vR (some l0)), none] [vL (mL M3 l0 22), vR (some l0)] M3 from ⟨h.1, ?_⟩)
        replace h := h.2
        refine RN_k (callX_det _) 5 _ _ _ _ (show kd M3 l0 10 ∧ R168 sl sx d M0 P 121 [some (vR (some l0)), none] [vI (mI M3 l0 17), vR (some l0), vL ((mL M3 l0 22) <<< ((5 : Int32).toInt64 &&& 63)), vR (some l0)] M3 from ⟨h.1, ?_⟩)
        replace h := h.2
        refine RN_k (callX_det _) 1 _ _ _ _ (show kd M3 l0 10 ∧ callX TBg sl sx (d + 1) 169 [vR (some l0), vI (mI M3 l0 17)] M3 (fun v M9 => R168 sl sx d M0 P 124 [some (vR (some l0)), none] (pushO v [vL ((mL M3 l0 22) <<< ((5 : Int32).toInt64 &&& 63)), vR (some l0)]) M9) from ⟨h.1, ?_⟩)
        replace h := h.2
        refine callX_mono (callX_len (d := (d + 1)) rfl rfl rfl (c169 (d := d) h)) ?_
        clear h
        rintro v9 M5 ⟨hl, r6, rfl, h⟩
        replace hM := lenT hM hl
        show R168 sl sx d M0 P 124 [some (vR (some l0)), none] [vI r6, vL ((mL M3 l0 22) <<< ((5 : Int32).toInt64 &&& 63)), vR (some l0)] M5
        refine RN_k (callX_det _) 5 _ _ _ _ (show kd M5 l0 10 ∧ R168 sl sx d M0 P 133 [some (vR (some l0)), none] [] (sL M5 l0 22 (((mL M3 l0 22) <<< ((5 : Int32).toInt64 &&& 63)) ||| (r6.toInt64 - (96 : Int64)))) from ⟨h.1, ?_⟩)
        replace h := h.2
        exact RN_weak (K := [some (vR (some l0)), none]) (callX_det _) (show _ ∧ True from ⟨rfl, trivial⟩) (t168_133 ih l0 _ hM h)
def w168_294 (s0 : Option Nat) (s1 : Int32) (M : MM) (P : MM → Prop) : Prop := ∃ a1, s0 = some a1 ∧ (kd M a1 10 ∧ (w168_297  (sI M a1 18 s1) P))
theorem t168_294 {sl : Nat} {sx : Nat → Int32} {d : Nat} {M0 : MM} {P : MM → Prop} (s0 : Option Nat) (s1 : Int32) (M : MM) (hM : lenO M0 M) (h : w168_294  s0 s1 M P) : R168 sl sx d M0 P 294 [none, none] [vI s1, vR s0] M := by
  obtain ⟨a1, he, h⟩ := h
  subst he
  refine RN_k (callX_det _) 1 _ _ _ _ (show kd M a1 10 ∧ R168 sl sx d M0 P 297 [none, none] [] (sI M a1 18 s1) from ⟨h.1, ?_⟩)
  replace h := h.2
  exact RN_weak (K := [none, none]) (callX_det _) (show True from trivial) (t168_297   _ hM h)
def w168_266 (s0 : Option Nat) (s1 : Int32) (M : MM) (P : MM → Prop) : Prop := ∃ a1, s0 = some a1 ∧ (kd M a1 10 ∧ (w168_297  (sI M a1 18 s1) P))
theorem t168_266 {sl : Nat} {sx : Nat → Int32} {d : Nat} {M0 : MM} {P : MM → Prop} (s0 : Option Nat) (s1 : Int32) (M : MM) (hM : lenO M0 M) (h : w168_266  s0 s1 M P) : R168 sl sx d M0 P 266 [none, none] [vI s1, vR s0] M := by
  obtain ⟨a1, he, h⟩ := h
  subst he
  refine RN_k (callX_det _) 1 _ _ _ _ (show kd M a1 10 ∧ R168 sl sx d M0 P 269 [none, none] [] (sI M a1 18 s1) from ⟨h.1, ?_⟩)
  replace h := h.2
  refine RN_k (callX_det _) 1 _ _ _ _ (show R168 sl sx d M0 P 297 [none, none] [] (sI M a1 18 s1) from ?_)
  exact RN_weak (K := [none, none]) (callX_det _) (show True from trivial) (t168_297   _ hM h)
def w168_234 (k184 : Nat → MM → Prop) (l0 : Nat) (M : MM) (P : MM → Prop) : Prop := kd M l0 10 ∧ (kd M l0 10 ∧ (k184 l0 (sI M l0 17 ((mI M l0 17) + (1 : Int32)))))
theorem t168_234 {sl : Nat} {sx : Nat → Int32} {d : Nat} {M0 : MM} {P : MM → Prop} {k184 : Nat → MM → Prop} (hk184 : ∀ (l0 : Nat) (M : MM), lenO M0 M → k184 l0 M → R168 sl sx d M0 P 184 [some (vR (some l0)), none] [] M) (l0 : Nat) (M : MM) (hM : lenO M0 M) (h : w168_234 k184 l0 M P) : R168 sl sx d M0 P 234 [some (vR (some l0)), none] [] M := by
  refine RN_k (callX_det _) 3 _ _ _ _ (show kd M l0 10 ∧ R168 sl sx d M0 P 239 [some (vR (some l0)), none] [vI (mI M l0 17), vR (some l0)] M from ⟨h.1, ?_⟩)
  replace h := h.2
  refine RN_k (callX_det _) 3 _ _ _ _ (show kd M l0 10 ∧ R168 sl sx d M0 P 244 [some (vR (some l0)), none] [] (sI M l0 17 ((mI M l0 17) + (1 : Int32))) from ⟨h.1, ?_⟩)
  replace h := h.2
  refine RN_k (callX_det _) 1 _ _ _ _ (show R168 sl sx d M0 P 184 [some (vR (some l0)), none] [] (sI M l0 17 ((mI M l0 17) + (1 : Int32))) from ?_)
  exact RN_weak (K := [some (vR (some l0)), none]) (callX_det _) (show _ ∧ True from ⟨rfl, trivial⟩) (hk184 l0 _ hM h)
def w168_184 : Nat → Nat → MM → (MM → Prop) → Prop
  | 0 => fun _ _ _ => False
  | n + 1 => fun l0 M P => kd M l0 10 ∧ (kd M l0 10 ∧ w169 l0 (mI M l0 17) M (fun r2 M1 => w171 r2 M1 (fun r4 M3 => (r4 = 0 → (kd M3 l0 10 ∧ (kd M3 l0 10 ∧ ((((mI M3 l0 17) - (mI M3 l0 16)) ≤ (2 : Int32) → (w168_266  (some l0) (3 : Int32) M3 P)) ∧ (¬ (((mI M3 l0 17) - (mI M3 l0 16)) ≤ (2 : Int32)) → (w168_266  (some l0) (1 : Int32) M3 P)))))) ∧ (¬ (r4 = 0) → (kd M3 l0 10 ∧ (kd M3 l0 10 ∧ (((2 : Int32) ≤ ((mI M3 l0 17) - (mI M3 l0 16)) → (w168_234 (fun z0 z1 => w168_184  n z0 z1 P) l0 M3 P)) ∧ (¬ ((2 : Int32) ≤ ((mI M3 l0 17) - (mI M3 l0 16))) → (kd M3 l0 10 ∧ (kd M3 l0 10 ∧ (kd M3 l0 10 ∧ w169 l0 (mI M3 l0 17) M3 (fun r6 M5 => kd M5 l0 10 ∧ (w168_234 (fun z0 z1 => w168_184  n z0 z1 P) l0 (sI M5 l0 19 ((((10 : Int32) * (mI M3 l0 19)) + r6) - (48 : Int32))) P)))))))))))))
theorem t168_184 {sl : Nat} {sx : Nat → Int32} {d : Nat} {M0 : MM} {P : MM → Prop} (n : Nat) : ∀ (l0 : Nat) (M : MM) (_ : lenO M0 M) (_ : w168_184  n l0 M P), R168 sl sx d M0 P 184 [some (vR (some l0)), none] [] M := by
  induction n with
  | zero => intro l0 M hM h; cases h
  | succ n ih =>
    intro l0 M hM h
    refine RN_k (callX_det _) 3 _ _ _ _ (show kd M l0 10 ∧ R168 sl sx d M0 P 189 [some (vR (some l0)), none] [vI (mI M l0 17), vR (some l0)] M from ⟨h.1, ?_⟩)
    replace h := h.2
    refine RN_k (callX_det _) 1 _ _ _ _ (show kd M l0 10 ∧ callX TBg sl sx (d + 1) 169 [vR (some l0), vI (mI M l0 17)] M (fun v M9 => R168 sl sx d M0 P 192 [some (vR (some l0)), none] (pushO v []) M9) from ⟨h.1, ?_⟩)
    replace h := h.2
    refine callX_mono (callX_len (d := (d + 1)) rfl rfl rfl (c169 (d := d) h)) ?_
    clear h
    rintro v9 M1 ⟨hl, r2, rfl, h⟩
    replace hM := lenT hM hl
    show R168 sl sx d M0 P 192 [some (vR (some l0)), none] [vI r2] M1
    refine RN_k (callX_det _) 1 _ _ _ _ (show callX TBg sl sx (d + 1) 171 [vI r2] M1 (fun v M9 => R168 sl sx d M0 P 195 [some (vR (some l0)), none] (pushO v []) M9) from ?_)
    refine callX_mono (callX_len (d := (d + 1)) rfl rfl rfl (c171 (d := d) h)) ?_
    clear h
    rintro v9 M3 ⟨hl, r4, rfl, h⟩
    replace hM := lenT hM hl
    show R168 sl sx d M0 P 195 [some (vR (some l0)), none] [vI r4] M3
    refine RN_k (callX_det _) 1 _ _ _ _ (show (r4 = 0 → R168 sl sx d M0 P 247 [some (vR (some l0)), none] [] M3) ∧ (¬ (r4 = 0) → R168 sl sx d M0 P 198 [some (vR (some l0)), none] [] M3) from ⟨fun hc => ?_, fun hc => ?_⟩)
    · replace h := h.1 hc
      refine RN_k (callX_det _) 3 _ _ _ _ (show kd M3 l0 10 ∧ R168 sl sx d M0 P 252 [some (vR (some l0)), none] [vI (mI M3 l0 17), vR (some l0)] M3 from ⟨h.1, ?_⟩)
      replace h := h.2
      refine RN_k (callX_det _) 2 _ _ _ _ (show kd M3 l0 10 ∧ R168 sl sx d M0 P 256 [some (vR (some l0)), none] [vI (mI M3 l0 16), vI (mI M3 l0 17), vR (some l0)] M3 from ⟨h.1, ?_⟩)
      replace h := h.2
      refine RN_k (callX_det _) 3 _ _ _ _ (show (((mI M3 l0 17) - (mI M3 l0 16)) ≤ (2 : Int32) → R168 sl sx d M0 P 265 [some (vR (some l0)), none] [vR (some l0)] M3) ∧ (¬ (((mI M3 l0 17) - (mI M3 l0 16)) ≤ (2 : Int32)) → R168 sl sx d M0 P 261 [some (vR (some l0)), none] [vR (some l0)] M3) from ⟨fun hc => ?_, fun hc => ?_⟩)
      · replace h := h.1 hc
        refine RN_k (callX_det _) 1 _ _ _ _ (show R168 sl sx d M0 P 266 [some (vR (some l0)), none] [vI (3 : Int32), vR (some l0)] M3 from ?_)
        exact RN_weak (K := [none, none]) (callX_det _) (show True from trivial) (t168_266  (some l0) (3 : Int32) _ hM h)
      · replace h := h.2 hc
        refine RN_k (callX_det _) 2 _ _ _ _ (show R168 sl sx d M0 P 266 [some (vR (some l0)), none] [vI (1 : Int32), vR (some l0)] M3 from ?_)
        exact RN_weak (K := [none, none]) (callX_det _) (show True from trivial) (t168_266  (some l0) (1 : Int32) _ hM h)
    · replace h := h.2 hc
      refine RN_k (callX_det _) 2 _ _ _ _ (show kd M3 l0 10 ∧ R168 sl sx d M0 P 202 [some (vR (some l0)), none] [vI (mI M3 l0 17)] M3 from ⟨h.1, ?_⟩)
      replace h := h.2
      refine RN_k (callX_det _) 2 _ _ _ _ (show kd M3 l0 10 ∧ R168 sl sx d M0 P 206 [some (vR (some l0)), none] [vI (mI M3 l0 16), vI (mI M3 l0 17)] M3 from ⟨h.1, ?_⟩)
      replace h := h.2
      refine RN_k (callX_det _) 3 _ _ _ _ (show ((2 : Int32) ≤ ((mI M3 l0 17) - (mI M3 l0 16)) → R168 sl sx d M0 P 234 [some (vR (some l0)), none] [] M3) ∧ (¬ ((2 : Int32) ≤ ((mI M3 l0 17) - (mI M3 l0 16))) → R168 sl sx d M0 P 211 [some (vR (some l0)), none] [] M3) from ⟨fun hc => ?_, fun hc => ?_⟩)
      · replace h := h.1 hc
        exact RN_weak (K := [some (vR (some l0)), none]) (callX_det _) (show _ ∧ True from ⟨rfl, trivial⟩) (t168_234 ih l0 _ hM h)
      · replace h := h.2 hc
        refine RN_k (callX_det _) 4 _ _ _ _ (show kd M3 l0 10 ∧ R168 sl sx d M0 P 218 [some (vR (some l0)), none] [vI (mI M3 l0 19), vI (10 : Int32), vR (some l0)] M3 from ⟨h.1, ?_⟩)
        replace h := h.2
        refine RN_k (callX_det _) 4 _ _ _ _ (show kd M3 l0 10 ∧ R168 sl sx d M0 P 224 [some (vR (some l0)), none] [vI (mI M3 l0 17), vR (some l0), vI ((10 : Int32) * (mI M3 l0 19)), vR (some l0)] M3 from ⟨h.1, ?_⟩)
        replace h := h.2
        refine RN_k (callX_det _) 1 _ _ _ _ (show kd M3 l0 10 ∧ callX TBg sl sx (d + 1) 169 [vR (some l0), vI (mI M3 l0 17)] M3 (fun v M9 => R168 sl sx d M0 P 227 [some (vR (some l0)), none] (pushO v [vI ((10 : Int32) * (mI M3 l0 19)), vR (some l0)]) M9) from ⟨h.1, ?_⟩)
        replace h := h.2
        refine callX_mono (callX_len (d := (d + 1)) rfl rfl rfl (c169 (d := d) h)) ?_
        clear h
        rintro v9 M5 ⟨hl, r6, rfl, h⟩
        replace hM := lenT hM hl
        show R168 sl sx d M0 P 227 [some (vR (some l0)), none] [vI r6, vI ((10 : Int32) * (mI M3 l0 19)), vR (some l0)] M5
        refine RN_k (callX_det _) 4 _ _ _ _ (show kd M5 l0 10 ∧ R168 sl sx d M0 P 234 [some (vR (some l0)), none] [] (sI M5 l0 19 ((((10 : Int32) * (mI M3 l0 19)) + r6) - (48 : Int32))) from ⟨h.1, ?_⟩)
        replace h := h.2
        exact RN_weak (K := [some (vR (some l0)), none]) (callX_det _) (show _ ∧ True from ⟨rfl, trivial⟩) (t168_234 ih l0 _ hM h)
def w168_26 (k0 : Nat → MM → Prop) (l0 : Nat) (M : MM) (P : MM → Prop) : Prop := kd M l0 10 ∧ (kd M l0 10 ∧ (k0 l0 (sI M l0 17 ((mI M l0 17) + (1 : Int32)))))
theorem t168_26 {sl : Nat} {sx : Nat → Int32} {d : Nat} {M0 : MM} {P : MM → Prop} {k0 : Nat → MM → Prop} (hk0 : ∀ (l0 : Nat) (M : MM), lenO M0 M → k0 l0 M → R168 sl sx d M0 P 0 [some (vR (some l0)), none] [] M) (l0 : Nat) (M : MM) (hM : lenO M0 M) (h : w168_26 k0 l0 M P) : R168 sl sx d M0 P 26 [some (vR (some l0)), none] [] M := by
  refine RN_k (callX_det _) 3 _ _ _ _ (show kd M l0 10 ∧ R168 sl sx d M0 P 31 [some (vR (some l0)), none] [vI (mI M l0 17), vR (some l0)] M from ⟨h.1, ?_⟩)
  replace h := h.2
  refine RN_k (callX_det _) 3 _ _ _ _ (show kd M l0 10 ∧ R168 sl sx d M0 P 36 [some (vR (some l0)), none] [] (sI M l0 17 ((mI M l0 17) + (1 : Int32))) from ⟨h.1, ?_⟩)
  replace h := h.2
  refine RN_k (callX_det _) 1 _ _ _ _ (show R168 sl sx d M0 P 0 [some (vR (some l0)), none] [] (sI M l0 17 ((mI M l0 17) + (1 : Int32))) from ?_)
  exact RN_weak (K := [some (vR (some l0)), none]) (callX_det _) (show _ ∧ True from ⟨rfl, trivial⟩) (hk0 l0 _ hM h)
def w168_0 : Nat → Nat → MM → (MM → Prop) → Prop
  | 0 => fun _ _ _ => False
  | n + 1 => fun l0 M P => kd M l0 10 ∧ (kd M l0 10 ∧ w169 l0 (mI M l0 17) M (fun r2 M1 => (r2 = (32 : Int32) → (w168_26 (fun z0 z1 => w168_0  n z0 z1 P) l0 M1 P)) ∧ (¬ (r2 = (32 : Int32)) → (kd M1 l0 10 ∧ (kd M1 l0 10 ∧ w169 l0 (mI M1 l0 17) M1 (fun r4 M3 => (r4 ≠ (10 : Int32) → (kd M3 l0 10 ∧ (kd M3 l0 10 ∧ (kd (sI M3 l0 16 (mI M3 l0 17)) l0 10 ∧ (kd (sI M3 l0 16 (mI M3 l0 17)) l0 10 ∧ w169 l0 (mI (sI M3 l0 16 (mI M3 l0 17)) l0 17) (sI M3 l0 16 (mI M3 l0 17)) (fun r6 M5 => (r6 ≠ (-1 : Int32) → (w170 r6 M5 (fun r8 M7 => (r8 = 0 → (w171 r6 M7 (fun r10 M9 => (r10 = 0 → (kd M9 l0 10 ∧ (kd M9 l0 10 ∧ ((r6 ≠ (59 : Int32) → (w168_294  (some l0) (1 : Int32) (sI M9 l0 17 ((mI M9 l0 17) + (1 : Int32))) P)) ∧ (¬ (r6 ≠ (59 : Int32)) → (w168_294  (some l0) (4 : Int32) (sI M9 l0 17 ((mI M9 l0 17) + (1 : Int32))) P)))))) ∧ (¬ (r10 = 0) → (kd M9 l0 10 ∧ (∃ n2, w168_184  n2 l0 (sI M9 l0 19 (0 : Int32)) P)))))) ∧ (¬ (r8 = 0) → (kd M7 l0 10 ∧ (∃ n2, w168_81  n2 l0 (sL M7 l0 22 (0 : Int64)) P)))))) ∧ (¬ (r6 ≠ (-1 : Int32)) → (kd M5 l0 10 ∧ (w168_297  (sI M5 l0 18 (0 : Int32)) P))))))))) ∧ (¬ (r4 ≠ (10 : Int32)) → (w168_26 (fun z0 z1 => w168_0  n z0 z1 P) l0 M3 P))))))))
theorem t168_0 {sl : Nat} {sx : Nat → Int32} {d : Nat} {M0 : MM} {P : MM → Prop} (n : Nat) : ∀ (l0 : Nat) (M : MM) (_ : lenO M0 M) (_ : w168_0  n l0 M P), R168 sl sx d M0 P 0 [some (vR (some l0)), none] [] M := by
  induction n with
  | zero => intro l0 M hM h; cases h
  | succ n ih =>
    intro l0 M hM h
    refine RN_k (callX_det _) 3 _ _ _ _ (show kd M l0 10 ∧ R168 sl sx d M0 P 5 [some (vR (some l0)), none] [vI (mI M l0 17), vR (some l0)] M from ⟨h.1, ?_⟩)
    replace h := h.2
    refine RN_k (callX_det _) 1 _ _ _ _ (show kd M l0 10 ∧ callX TBg sl sx (d + 1) 169 [vR (some l0), vI (mI M l0 17)] M (fun v M9 => R168 sl sx d M0 P 8 [some (vR (some l0)), none] (pushO v []) M9) from ⟨h.1, ?_⟩)
    replace h := h.2
    refine callX_mono (callX_len (d := (d + 1)) rfl rfl rfl (c169 (d := d) h)) ?_
    clear h
    rintro v9 M1 ⟨hl, r2, rfl, h⟩
    replace hM := lenT hM hl
    show R168 sl sx d M0 P 8 [some (vR (some l0)), none] [vI r2] M1
    refine RN_k (callX_det _) 2 _ _ _ _ (show (r2 = (32 : Int32) → R168 sl sx d M0 P 26 [some (vR (some l0)), none] [] M1) ∧ (¬ (r2 = (32 : Int32)) → R168 sl sx d M0 P 13 [some (vR (some l0)), none] [] M1) from ⟨fun hc => ?_, fun hc => ?_⟩)
    · replace h := h.1 hc
      exact RN_weak (K := [some (vR (some l0)), none]) (callX_det _) (show _ ∧ True from ⟨rfl, trivial⟩) (t168_26 ih l0 _ hM h)
    · replace h := h.2 hc
      refine RN_k (callX_det _) 3 _ _ _ _ (show kd M1 l0 10 ∧ R168 sl sx d M0 P 18 [some (vR (some l0)), none] [vI (mI M1 l0 17), vR (some l0)] M1 from ⟨h.1, ?_⟩)
      replace h := h.2
      refine RN_k (callX_det _) 1 _ _ _ _ (show kd M1 l0 10 ∧ callX TBg sl sx (d + 1) 169 [vR (some l0), vI (mI M1 l0 17)] M1 (fun v M9 => R168 sl sx d M0 P 21 [some (vR (some l0)), none] (pushO v []) M9) from ⟨h.1, ?_⟩)
      replace h := h.2
      refine callX_mono (callX_len (d := (d + 1)) rfl rfl rfl (c169 (d := d) h)) ?_
      clear h
      rintro v9 M3 ⟨hl, r4, rfl, h⟩
      replace hM := lenT hM hl
      show R168 sl sx d M0 P 21 [some (vR (some l0)), none] [vI r4] M3
      refine RN_k (callX_det _) 2 _ _ _ _ (show (r4 ≠ (10 : Int32) → R168 sl sx d M0 P 39 [some (vR (some l0)), none] [] M3) ∧ (¬ (r4 ≠ (10 : Int32)) → R168 sl sx d M0 P 26 [some (vR (some l0)), none] [] M3) from ⟨fun hc => ?_, fun hc => ?_⟩)
      · replace h := h.1 hc
        refine RN_k (callX_det _) 3 _ _ _ _ (show kd M3 l0 10 ∧ R168 sl sx d M0 P 44 [some (vR (some l0)), none] [vI (mI M3 l0 17), vR (some l0)] M3 from ⟨h.1, ?_⟩)
        replace h := h.2
        refine RN_k (callX_det _) 1 _ _ _ _ (show kd M3 l0 10 ∧ R168 sl sx d M0 P 47 [some (vR (some l0)), none] [] (sI M3 l0 16 (mI M3 l0 17)) from ⟨h.1, ?_⟩)
        replace h := h.2
        refine RN_k (callX_det _) 3 _ _ _ _ (show kd (sI M3 l0 16 (mI M3 l0 17)) l0 10 ∧ R168 sl sx d M0 P 52 [some (vR (some l0)), none] [vI (mI (sI M3 l0 16 (mI M3 l0 17)) l0 17), vR (some l0)] (sI M3 l0 16 (mI M3 l0 17)) from ⟨h.1, ?_⟩)
        replace h := h.2
        refine RN_k (callX_det _) 1 _ _ _ _ (show kd (sI M3 l0 16 (mI M3 l0 17)) l0 10 ∧ callX TBg sl sx (d + 1) 169 [vR (some l0), vI (mI (sI M3 l0 16 (mI M3 l0 17)) l0 17)] (sI M3 l0 16 (mI M3 l0 17)) (fun v M9 => R168 sl sx d M0 P 55 [some (vR (some l0)), none] (pushO v []) M9) from ⟨h.1, ?_⟩)
        replace h := h.2
        refine callX_mono (callX_len (d := (d + 1)) rfl rfl rfl (c169 (d := d) h)) ?_
        clear h
        rintro v9 M5 ⟨hl, r6, rfl, h⟩
        replace hM := lenT hM hl
        show R168 sl sx d M0 P 55 [some (vR (some l0)), none] [vI r6] M5
        refine RN_k (callX_det _) 4 _ _ _ _ (show (r6 ≠ (-1 : Int32) → R168 sl sx d M0 P 69 [some (vR (some l0)), some (vI r6)] [] M5) ∧ (¬ (r6 ≠ (-1 : Int32)) → R168 sl sx d M0 P 61 [some (vR (some l0)), some (vI r6)] [] M5) from ⟨fun hc => ?_, fun hc => ?_⟩)
        · replace h := h.1 hc
          refine RN_k (callX_det _) 2 _ _ _ _ (show callX TBg sl sx (d + 1) 170 [vI r6] M5 (fun v M9 => R168 sl sx d M0 P 73 [some (vR (some l0)), some (vI r6)] (pushO v []) M9) from ?_)
          refine callX_mono (callX_len (d := (d + 1)) rfl rfl rfl (c170 (d := d) h)) ?_
          clear h
          rintro v9 M7 ⟨hl, r8, rfl, h⟩
          replace hM := lenT hM hl
          show R168 sl sx d M0 P 73 [some (vR (some l0)), some (vI r6)] [vI r8] M7
          refine RN_k (callX_det _) 1 _ _ _ _ (show (r8 = 0 → R168 sl sx d M0 P 172 [some (vR (some l0)), some (vI r6)] [] M7) ∧ (¬ (r8 = 0) → R168 sl sx d M0 P 76 [some (vR (some l0)), some (vI r6)] [] M7) from ⟨fun hc => ?_, fun hc => ?_⟩)
          · replace h := h.1 hc
            refine RN_k (callX_det _) 2 _ _ _ _ (show callX TBg sl sx (d + 1) 171 [vI r6] M7 (fun v M9 => R168 sl sx d M0 P 176 [some (vR (some l0)), some (vI r6)] (pushO v []) M9) from ?_)
            refine callX_mono (callX_len (d := (d + 1)) rfl rfl rfl (c171 (d := d) h)) ?_
            clear h
            rintro v9 M9 ⟨hl, r10, rfl, h⟩
            replace hM := lenT hM hl
            show R168 sl sx d M0 P 176 [some (vR (some l0)), some (vI r6)] [vI r10] M9
            refine RN_k (callX_det _) 1 _ _ _ _ (show (r10 = 0 → R168 sl sx d M0 P 272 [some (vR (some l0)), some (vI r6)] [] M9) ∧ (¬ (r10 = 0) → R168 sl sx d M0 P 179 [some (vR (some l0)), some (vI r6)] [] M9) from ⟨fun hc => ?_, fun hc => ?_⟩)
            · replace h := h.1 hc
              refine RN_k (callX_det _) 3 _ _ _ _ (show kd M9 l0 10 ∧ R168 sl sx d M0 P 277 [some (vR (some l0)), some (vI r6)] [vI (mI M9 l0 17), vR (some l0)] M9 from ⟨h.1, ?_⟩)
              replace h := h.2
              refine RN_k (callX_det _) 3 _ _ _ _ (show kd M9 l0 10 ∧ R168 sl sx d M0 P 282 [some (vR (some l0)), some (vI r6)] [] (sI M9 l0 17 ((mI M9 l0 17) + (1 : Int32))) from ⟨h.1, ?_⟩)
              replace h := h.2
              refine RN_k (callX_det _) 4 _ _ _ _ (show (r6 ≠ (59 : Int32) → R168 sl sx d M0 P 293 [some (vR (some l0)), some (vI r6)] [vR (some l0)] (sI M9 l0 17 ((mI M9 l0 17) + (1 : Int32)))) ∧ (¬ (r6 ≠ (59 : Int32)) → R168 sl sx d M0 P 289 [some (vR (some l0)), some (vI r6)] [vR (some l0)] (sI M9 l0 17 ((mI M9 l0 17) + (1 : Int32)))) from ⟨fun hc => ?_, fun hc => ?_⟩)
              · replace h := h.1 hc
                refine RN_k (callX_det _) 1 _ _ _ _ (show R168 sl sx d M0 P 294 [some (vR (some l0)), some (vI r6)] [vI (1 : Int32), vR (some l0)] (sI M9 l0 17 ((mI M9 l0 17) + (1 : Int32))) from ?_)
                exact RN_weak (K := [none, none]) (callX_det _) (show True from trivial) (t168_294  (some l0) (1 : Int32) _ hM h)
              · replace h := h.2 hc
                refine RN_k (callX_det _) 2 _ _ _ _ (show R168 sl sx d M0 P 294 [some (vR (some l0)), some (vI r6)] [vI (4 : Int32), vR (some l0)] (sI M9 l0 17 ((mI M9 l0 17) + (1 : Int32))) from ?_)
                exact RN_weak (K := [none, none]) (callX_det _) (show True from trivial) (t168_294  (some l0) (4 : Int32) _ hM h)
            · replace h := h.2 hc
              refine RN_k (callX_det _) 3 _ _ _ _ (show kd M9 l0 10 ∧ R168 sl sx d M0 P 184 [some (vR (some l0)), some (vI r6)] [] (sI M9 l0 19 (0 : Int32)) from ⟨h.1, ?_⟩)
              replace h := h.2
              obtain ⟨n2, h⟩ := h
              exact RN_weak (K := [some (vR (some l0)), none]) (callX_det _) (show _ ∧ True from ⟨rfl, trivial⟩) (t168_184  n2 l0 _ hM h)
          · replace h := h.2 hc
            refine RN_k (callX_det _) 3 _ _ _ _ (show kd M7 l0 10 ∧ R168 sl sx d M0 P 81 [some (vR (some l0)), some (vI r6)] [] (sL M7 l0 22 (0 : Int64)) from ⟨h.1, ?_⟩)
            replace h := h.2
            obtain ⟨n2, h⟩ := h
            exact RN_weak (K := [some (vR (some l0)), none]) (callX_det _) (show _ ∧ True from ⟨rfl, trivial⟩) (t168_81  n2 l0 _ hM h)
        · replace h := h.2 hc
          refine RN_k (callX_det _) 3 _ _ _ _ (show kd M5 l0 10 ∧ R168 sl sx d M0 P 66 [some (vR (some l0)), some (vI r6)] [] (sI M5 l0 18 (0 : Int32)) from ⟨h.1, ?_⟩)
          replace h := h.2
          refine RN_k (callX_det _) 1 _ _ _ _ (show R168 sl sx d M0 P 297 [some (vR (some l0)), some (vI r6)] [] (sI M5 l0 18 (0 : Int32)) from ?_)
          exact RN_weak (K := [none, none]) (callX_det _) (show True from trivial) (t168_297   _ hM h)
      · replace h := h.2 hc
        exact RN_weak (K := [some (vR (some l0)), none]) (callX_det _) (show _ ∧ True from ⟨rfl, trivial⟩) (t168_26 ih l0 _ hM h)
def w168 (l0 : Nat) (M : MM) (P : MM → Prop) : Prop := ∃ n2, w168_0  n2 l0 M P
theorem t168_E {sl : Nat} {sx : Nat → Int32} {d : Nat} {M0 : MM} {P : MM → Prop} (l0 : Nat) (M : MM) (hM : lenO M0 M) (h : w168  l0 M P) : R168 sl sx d M0 P 0 [some (vR (some l0)), none] [] M := by
  obtain ⟨n2, h⟩ := h
  exact RN_weak (K := [some (vR (some l0)), none]) (callX_det _) (show _ ∧ True from ⟨rfl, trivial⟩) (t168_0  n2 l0 _ hM h)
theorem c168 {sl : Nat} {sx : Nat → Int32} {d : Nat} {l0 : Nat} {M : MM} {P : MM → Prop} (h : w168 l0 M P) : callX TBg sl sx (d + 2) 168 [vR (some l0)] M (PV P) :=
  cX (d := d + 1) q168 (false, tb168) rfl rfl rfl (t168_E l0 M lenR h)
-- TwoLeashModel.bad(I)Z
abbrev q173 : MQ7 := (2, 1, 2, 10, 0, 0, 4)
abbrev R173 (sl : Nat) (sx : Nat → Int32) (d : Nat) (M0 : MM) (P : Int32 → MM → Prop) : Nat → LL → List VV → MM → Prop := RN 10 false (mS M0).length (mT M0) 0 0 sl sx (callX TBg sl sx (d + 0)) (rtW q173 M0 (PI P)) (as2 tb173)
def w173_14 (l0 : Nat) (s0 : Option Nat) (s1 : Int32) (M : MM) (P : Int32 → MM → Prop) : Prop := ∃ a1, s0 = some a1 ∧ (kd M a1 10 ∧ (kd (sI M a1 20 s1) l0 10 ∧ (kd (sI M a1 20 s1) l0 10 ∧ (P (0 : Int32) (sI (sI M a1 20 s1) l0 21 (mI (sI M a1 20 s1) l0 16))))))
theorem t173_14 {sl : Nat} {sx : Nat → Int32} {d : Nat} {M0 : MM} {P : Int32 → MM → Prop} (l0 : Nat) (s0 : Option Nat) (s1 : Int32) (M : MM) (hM : lenO M0 M) (h : w173_14  l0 s0 s1 M P) : R173 sl sx d M0 P 14 [some (vR (some l0)), none] [vI s1, vR s0] M := by
  obtain ⟨a1, he, h⟩ := h
  subst he
  refine RN_k (callX_det _) 1 _ _ _ _ (show kd M a1 10 ∧ R173 sl sx d M0 P 17 [some (vR (some l0)), none] [] (sI M a1 20 s1) from ⟨h.1, ?_⟩)
  replace h := h.2
  refine RN_k (callX_det _) 3 _ _ _ _ (show kd (sI M a1 20 s1) l0 10 ∧ R173 sl sx d M0 P 22 [some (vR (some l0)), none] [vI (mI (sI M a1 20 s1) l0 16), vR (some l0)] (sI M a1 20 s1) from ⟨h.1, ?_⟩)
  replace h := h.2
  refine RN_k (callX_det _) 1 _ _ _ _ (show kd (sI M a1 20 s1) l0 10 ∧ R173 sl sx d M0 P 25 [some (vR (some l0)), none] [] (sI (sI M a1 20 s1) l0 21 (mI (sI M a1 20 s1) l0 16)) from ⟨h.1, ?_⟩)
  replace h := h.2
  exact RN_k (callX_det _) 2 _ _ _ _ (show rtW q173 M0 (PI P) (some (vI (0 : Int32))) (sI (sI M a1 20 s1) l0 21 (mI (sI M a1 20 s1) l0 16)) from ⟨⟨_, rfl, Or.inl rfl⟩, hM.1, hM.2, _, rfl, h⟩)
def w173 (l0 : Nat) (l1 : Int32) (M : MM) (P : Int32 → MM → Prop) : Prop := kd M l0 10 ∧ (((mI M l0 18) ≠ (1 : Int32) → (w173_14  l0 (some l0) l1 M P)) ∧ (¬ ((mI M l0 18) ≠ (1 : Int32)) → (w173_14  l0 (some l0) (1 : Int32) M P)))
theorem t173_E {sl : Nat} {sx : Nat → Int32} {d : Nat} {M0 : MM} {P : Int32 → MM → Prop} (l0 : Nat) (l1 : Int32) (M : MM) (hM : lenO M0 M) (h : w173  l0 l1 M P) : R173 sl sx d M0 P 0 [some (vR (some l0)), some (vI l1)] [] M := by
  refine RN_k (callX_det _) 3 _ _ _ _ (show kd M l0 10 ∧ R173 sl sx d M0 P 5 [some (vR (some l0)), some (vI l1)] [vI (mI M l0 18), vR (some l0)] M from ⟨h.1, ?_⟩)
  replace h := h.2
  refine RN_k (callX_det _) 2 _ _ _ _ (show ((mI M l0 18) ≠ (1 : Int32) → R173 sl sx d M0 P 13 [some (vR (some l0)), some (vI l1)] [vR (some l0)] M) ∧ (¬ ((mI M l0 18) ≠ (1 : Int32)) → R173 sl sx d M0 P 9 [some (vR (some l0)), some (vI l1)] [vR (some l0)] M) from ⟨fun hc => ?_, fun hc => ?_⟩)
  · replace h := h.1 hc
    refine RN_k (callX_det _) 1 _ _ _ _ (show R173 sl sx d M0 P 14 [some (vR (some l0)), some (vI l1)] [vI l1, vR (some l0)] M from ?_)
    exact RN_weak (K := [some (vR (some l0)), none]) (callX_det _) (show _ ∧ True from ⟨rfl, trivial⟩) (t173_14  l0 (some l0) l1 _ hM h)
  · replace h := h.2 hc
    refine RN_k (callX_det _) 2 _ _ _ _ (show R173 sl sx d M0 P 14 [some (vR (some l0)), some (vI l1)] [vI (1 : Int32), vR (some l0)] M from ?_)
    exact RN_weak (K := [some (vR (some l0)), none]) (callX_det _) (show _ ∧ True from ⟨rfl, trivial⟩) (t173_14  l0 (some l0) (1 : Int32) _ hM h)
theorem c173 {sl : Nat} {sx : Nat → Int32} {d : Nat} {l0 : Nat} {l1 : Int32} {M : MM} {P : Int32 → MM → Prop} (h : w173 l0 l1 M P) : callX TBg sl sx (d + 1) 173 [vR (some l0), vI l1] M (PI P) :=
  cX (d := d + 0) q173 (false, tb173) rfl rfl rfl (t173_E l0 l1 M lenR h)
-- TwoLeashModel.wayAt(I)I
abbrev q174 : MQ7 := (1, 0, 1, 10, 0, 0, 1)
abbrev R174 (sl : Nat) (sx : Nat → Int32) (d : Nat) (M0 : MM) (P : Int32 → MM → Prop) : Nat → LL → List VV → MM → Prop := RN 10 false (mS M0).length (mT M0) 0 0 sl sx (callX TBg sl sx (d + 0)) (rtW q174 M0 (PI P)) (as2 tb174)
def w174 (l0 : Int32) (M : MM) (P : Int32 → MM → Prop) : Prop := P ((17 : Int32) * l0) M
theorem t174_E {sl : Nat} {sx : Nat → Int32} {d : Nat} {M0 : MM} {P : Int32 → MM → Prop} (l0 : Int32) (M : MM) (hM : lenO M0 M) (h : w174  l0 M P) : R174 sl sx d M0 P 0 [some (vI l0)] [] M := by
  exact RN_k (callX_det _) 4 _ _ _ _ (show rtW q174 M0 (PI P) (some (vI ((17 : Int32) * l0))) M from ⟨⟨_, rfl⟩, hM.1, hM.2, _, rfl, h⟩)
theorem c174 {sl : Nat} {sx : Nat → Int32} {d : Nat} {l0 : Int32} {M : MM} {P : Int32 → MM → Prop} (h : w174 l0 M P) : callX TBg sl sx (d + 1) 174 [vI l0] M (PI P) :=
  cX (d := d + 0) q174 (false, tb174) rfl rfl rfl (t174_E l0 M lenR h)
-- TwoLeashModel.readNumber()Z
abbrev q176 : MQ7 := (1, 1, 1, 10, 0, 0, 4)
abbrev R176 (sl : Nat) (sx : Nat → Int32) (d : Nat) (M0 : MM) (P : Int32 → MM → Prop) : Nat → LL → List VV → MM → Prop := RN 10 false (mS M0).length (mT M0) 0 0 sl sx (callX TBg sl sx (d + 1)) (rtW q176 M0 (PI P)) (as2 tb176)
def w176_36 (s0 : Int32) (M : MM) (P : Int32 → MM → Prop) : Prop := (s0 = 0 ∨ s0 = 1) ∧ P s0 M
theorem t176_36 {sl : Nat} {sx : Nat → Int32} {d : Nat} {M0 : MM} {P : Int32 → MM → Prop} (s0 : Int32) (M : MM) (hM : lenO M0 M) (h : w176_36  s0 M P) : R176 sl sx d M0 P 36 [none] [vI s0] M := by
  exact RN_k (callX_det _) 1 _ _ _ _ (show rtW q176 M0 (PI P) (some (vI s0)) M from ⟨⟨_, rfl, h.1⟩, hM.1, hM.2, _, rfl, h.2⟩)
def w176_31 (M : MM) (P : Int32 → MM → Prop) : Prop := w176_36  (1 : Int32) M P
theorem t176_31 {sl : Nat} {sx : Nat → Int32} {d : Nat} {M0 : MM} {P : Int32 → MM → Prop}  (M : MM) (hM : lenO M0 M) (h : w176_31   M P) : R176 sl sx d M0 P 31 [none] [] M := by
  refine RN_k (callX_det _) 2 _ _ _ _ (show R176 sl sx d M0 P 36 [none] [vI (1 : Int32)] M from ?_)
  exact RN_weak (K := [none]) (callX_det _) (show True from trivial) (t176_36  (1 : Int32) _ hM h)
def w176 (l0 : Nat) (M : MM) (P : Int32 → MM → Prop) : Prop := kd M l0 10 ∧ (((mI M l0 18) = (3 : Int32) → (kd M l0 10 ∧ (((mI M l0 19) ≤ (18 : Int32) → (w176_31  M P)) ∧ (¬ ((mI M l0 19) ≤ (18 : Int32)) → (kd M l0 10 ∧ w173 l0 (3 : Int32) M (fun r2 M1 => (r2 = 0 → (w176_36  (0 : Int32) M1 P)) ∧ (¬ (r2 = 0) → (w176_31  M1 P)))))))) ∧ (¬ ((mI M l0 18) = (3 : Int32)) → (kd M l0 10 ∧ w173 l0 (2 : Int32) M (fun r4 M3 => (r4 = 0 ∨ r4 = 1) ∧ P r4 M3))))
theorem t176_E {sl : Nat} {sx : Nat → Int32} {d : Nat} {M0 : MM} {P : Int32 → MM → Prop} (l0 : Nat) (M : MM) (hM : lenO M0 M) (h : w176  l0 M P) : R176 sl sx d M0 P 0 [some (vR (some l0))] [] M := by
  refine RN_k (callX_det _) 2 _ _ _ _ (show kd M l0 10 ∧ R176 sl sx d M0 P 4 [some (vR (some l0))] [vI (mI M l0 18)] M from ⟨h.1, ?_⟩)
  replace h := h.2
  refine RN_k (callX_det _) 2 _ _ _ _ (show ((mI M l0 18) = (3 : Int32) → R176 sl sx d M0 P 14 [some (vR (some l0))] [] M) ∧ (¬ ((mI M l0 18) = (3 : Int32)) → R176 sl sx d M0 P 8 [some (vR (some l0))] [] M) from ⟨fun hc => ?_, fun hc => ?_⟩)
  · replace h := h.1 hc
    refine RN_k (callX_det _) 2 _ _ _ _ (show kd M l0 10 ∧ R176 sl sx d M0 P 18 [some (vR (some l0))] [vI (mI M l0 19)] M from ⟨h.1, ?_⟩)
    replace h := h.2
    refine RN_k (callX_det _) 2 _ _ _ _ (show ((mI M l0 19) ≤ (18 : Int32) → R176 sl sx d M0 P 31 [some (vR (some l0))] [] M) ∧ (¬ ((mI M l0 19) ≤ (18 : Int32)) → R176 sl sx d M0 P 23 [some (vR (some l0))] [] M) from ⟨fun hc => ?_, fun hc => ?_⟩)
    · replace h := h.1 hc
      exact RN_weak (K := [none]) (callX_det _) (show True from trivial) (t176_31   _ hM h)
    · replace h := h.2 hc
      refine RN_k (callX_det _) 3 _ _ _ _ (show kd M l0 10 ∧ callX TBg sl sx (d + 1) 173 [vR (some l0), vI (3 : Int32)] M (fun v M9 => R176 sl sx d M0 P 28 [some (vR (some l0))] (pushO v []) M9) from ⟨h.1, ?_⟩)
      replace h := h.2
      refine callX_mono (callX_len (d := (d + 1)) rfl rfl rfl (c173 (d := d) h)) ?_
      clear h
      rintro v9 M1 ⟨hl, r2, rfl, h⟩
      replace hM := lenT hM hl
      show R176 sl sx d M0 P 28 [some (vR (some l0))] [vI r2] M1
      refine RN_k (callX_det _) 1 _ _ _ _ (show (r2 = 0 → R176 sl sx d M0 P 35 [some (vR (some l0))] [] M1) ∧ (¬ (r2 = 0) → R176 sl sx d M0 P 31 [some (vR (some l0))] [] M1) from ⟨fun hc => ?_, fun hc => ?_⟩)
      · replace h := h.1 hc
        refine RN_k (callX_det _) 1 _ _ _ _ (show R176 sl sx d M0 P 36 [some (vR (some l0))] [vI (0 : Int32)] M1 from ?_)
        exact RN_weak (K := [none]) (callX_det _) (show True from trivial) (t176_36  (0 : Int32) _ hM h)
      · replace h := h.2 hc
        exact RN_weak (K := [none]) (callX_det _) (show True from trivial) (t176_31   _ hM h)
  · replace h := h.2 hc
    refine RN_k (callX_det _) 3 _ _ _ _ (show kd M l0 10 ∧ callX TBg sl sx (d + 1) 173 [vR (some l0), vI (2 : Int32)] M (fun v M9 => R176 sl sx d M0 P 13 [some (vR (some l0))] (pushO v []) M9) from ⟨h.1, ?_⟩)
    replace h := h.2
    refine callX_mono (callX_len (d := (d + 1)) rfl rfl rfl (c173 (d := d) h)) ?_
    clear h
    rintro v9 M3 ⟨hl, r4, rfl, h⟩
    replace hM := lenT hM hl
    show R176 sl sx d M0 P 13 [some (vR (some l0))] [vI r4] M3
    exact RN_k (callX_det _) 1 _ _ _ _ (show rtW q176 M0 (PI P) (some (vI r4)) M3 from ⟨⟨_, rfl, h.1⟩, hM.1, hM.2, _, rfl, h.2⟩)
theorem c176 {sl : Nat} {sx : Nat → Int32} {d : Nat} {l0 : Nat} {M : MM} {P : Int32 → MM → Prop} (h : w176 l0 M P) : callX TBg sl sx (d + 2) 176 [vR (some l0)] M (PI P) :=
  cX (d := d + 1) q176 (false, tb176) rfl rfl rfl (t176_E l0 M lenR h)
-- TwoLeashModel.readPoint(I)Z
abbrev q175 : MQ7 := (2, 1, 4, 10, 0, 0, 4)
abbrev R175 (sl : Nat) (sx : Nat → Int32) (d : Nat) (M0 : MM) (P : Int32 → MM → Prop) : Nat → LL → List VV → MM → Prop := RN 10 false (mS M0).length (mT M0) 0 0 sl sx (callX TBg sl sx (d + 2)) (rtW q175 M0 (PI P)) (as2 tb175)
def w175_119 (l0 : Nat) (l1 : Int32) (M : MM) (P : Int32 → MM → Prop) : Prop := kd M l0 10 ∧ (∃ a1, mR M l0 1 = some a1 ∧ (inb M a1 11 l1 ∧ (inb M a1 11 l1 ∧ (kd (sI M a1 l1.toNatClampNeg ((mI M a1 l1.toNatClampNeg) + (1 : Int32))) l0 10 ∧ w168 l0 (sI M a1 l1.toNatClampNeg ((mI M a1 l1.toNatClampNeg) + (1 : Int32))) (fun M2 => P (1 : Int32) M2)))))
theorem t175_119 {sl : Nat} {sx : Nat → Int32} {d : Nat} {M0 : MM} {P : Int32 → MM → Prop} (l0 : Nat) (l1 : Int32) (M : MM) (hM : lenO M0 M) (h : w175_119  l0 l1 M P) : R175 sl sx d M0 P 119 [some (vR (some l0)), some (vI l1), none, none] [] M := by
  refine RN_k (callX_det _) 2 _ _ _ _ (show kd M l0 10 ∧ R175 sl sx d M0 P 123 [some (vR (some l0)), some (vI l1), none, none] [vR (mR M l0 1)] M from ⟨h.1, ?_⟩)
  replace h := h.2
  obtain ⟨a1, he, h⟩ := h
  refine RN_k (callX_det _) 2 _ _ _ _ (show R175 sl sx d M0 P 125 [some (vR (some l0)), some (vI l1), none, none] [vI l1, vR (mR M l0 1), vI l1, vR (mR M l0 1)] M from ?_)
  rw [he]
  refine RN_k (callX_det _) 1 _ _ _ _ (show inb M a1 11 l1 ∧ R175 sl sx d M0 P 126 [some (vR (some l0)), some (vI l1), none, none] [vI (mI M a1 l1.toNatClampNeg), vI l1, vR (some a1)] M from ⟨h.1, ?_⟩)
  replace h := h.2
  refine RN_k (callX_det _) 3 _ _ _ _ (show inb M a1 11 l1 ∧ R175 sl sx d M0 P 129 [some (vR (some l0)), some (vI l1), none, none] [] (sI M a1 l1.toNatClampNeg ((mI M a1 l1.toNatClampNeg) + (1 : Int32))) from ⟨h.1, ?_⟩)
  replace h := h.2
  refine RN_k (callX_det _) 2 _ _ _ _ (show kd (sI M a1 l1.toNatClampNeg ((mI M a1 l1.toNatClampNeg) + (1 : Int32))) l0 10 ∧ callX TBg sl sx (d + 2) 168 [vR (some l0)] (sI M a1 l1.toNatClampNeg ((mI M a1 l1.toNatClampNeg) + (1 : Int32))) (fun v M9 => R175 sl sx d M0 P 133 [some (vR (some l0)), some (vI l1), none, none] (pushO v []) M9) from ⟨h.1, ?_⟩)
  replace h := h.2
  refine callX_mono (callX_len (d := (d + 2)) rfl rfl rfl (c168 (d := d) h)) ?_
  clear h
  rintro v9 M2 ⟨hl, rfl, h⟩
  replace hM := lenT hM hl
  show R175 sl sx d M0 P 133 [some (vR (some l0)), some (vI l1), none, none] [] M2
  exact RN_k (callX_det _) 2 _ _ _ _ (show rtW q175 M0 (PI P) (some (vI (1 : Int32))) M2 from ⟨⟨_, rfl, Or.inr rfl⟩, hM.1, hM.2, _, rfl, h⟩)
def w175_90 (l0 : Nat) (l1 : Int32) (l2 : Int32) (l3 : Int32) (M : MM) (P : Int32 → MM → Prop) : Prop := kd M l0 10 ∧ (∃ a1, mR M l0 1 = some a1 ∧ (inb M a1 11 ((l1 + (1 : Int32)) + ((2 : Int32) * l2)) ∧ (kd (sI M a1 ((l1 + (1 : Int32)) + ((2 : Int32) * l2)).toNatClampNeg l3) l0 10 ∧ (kd (sI M a1 ((l1 + (1 : Int32)) + ((2 : Int32) * l2)).toNatClampNeg l3) l0 10 ∧ (∃ a2, mR (sI M a1 ((l1 + (1 : Int32)) + ((2 : Int32) * l2)).toNatClampNeg l3) l0 1 = some a2 ∧ (inb (sI M a1 ((l1 + (1 : Int32)) + ((2 : Int32) * l2)).toNatClampNeg l3) a2 11 ((l1 + (2 : Int32)) + ((2 : Int32) * l2)) ∧ (w175_119  l0 l1 (sI (sI M a1 ((l1 + (1 : Int32)) + ((2 : Int32) * l2)).toNatClampNeg l3) a2 ((l1 + (2 : Int32)) + ((2 : Int32) * l2)).toNatClampNeg (mI (sI M a1 ((l1 + (1 : Int32)) + ((2 : Int32) * l2)).toNatClampNeg l3) l0 19)) P)))))))
theorem t175_90 {sl : Nat} {sx : Nat → Int32} {d : Nat} {M0 : MM} {P : Int32 → MM → Prop} (l0 : Nat) (l1 : Int32) (l2 : Int32) (l3 : Int32) (M : MM) (hM : lenO M0 M) (h : w175_90  l0 l1 l2 l3 M P) : R175 sl sx d M0 P 90 [some (vR (some l0)), some (vI l1), some (vI l2), some (vI l3)] [] M := by
  refine RN_k (callX_det _) 2 _ _ _ _ (show kd M l0 10 ∧ R175 sl sx d M0 P 94 [some (vR (some l0)), some (vI l1), some (vI l2), some (vI l3)] [vR (mR M l0 1)] M from ⟨h.1, ?_⟩)
  replace h := h.2
  obtain ⟨a1, he, h⟩ := h
  refine RN_k (callX_det _) 8 _ _ _ _ (show R175 sl sx d M0 P 102 [some (vR (some l0)), some (vI l1), some (vI l2), some (vI l3)] [vI l3, vI ((l1 + (1 : Int32)) + ((2 : Int32) * l2)), vR (mR M l0 1)] M from ?_)
  rw [he]
  refine RN_k (callX_det _) 1 _ _ _ _ (show inb M a1 11 ((l1 + (1 : Int32)) + ((2 : Int32) * l2)) ∧ R175 sl sx d M0 P 103 [some (vR (some l0)), some (vI l1), some (vI l2), some (vI l3)] [] (sI M a1 ((l1 + (1 : Int32)) + ((2 : Int32) * l2)).toNatClampNeg l3) from ⟨h.1, ?_⟩)
  replace h := h.2
  refine RN_k (callX_det _) 2 _ _ _ _ (show kd (sI M a1 ((l1 + (1 : Int32)) + ((2 : Int32) * l2)).toNatClampNeg l3) l0 10 ∧ R175 sl sx d M0 P 107 [some (vR (some l0)), some (vI l1), some (vI l2), some (vI l3)] [vR (mR (sI M a1 ((l1 + (1 : Int32)) + ((2 : Int32) * l2)).toNatClampNeg l3) l0 1)] (sI M a1 ((l1 + (1 : Int32)) + ((2 : Int32) * l2)).toNatClampNeg l3) from ⟨h.1, ?_⟩)
  replace h := h.2
  refine RN_k (callX_det _) 9 _ _ _ _ (show kd (sI M a1 ((l1 + (1 : Int32)) + ((2 : Int32) * l2)).toNatClampNeg l3) l0 10 ∧ R175 sl sx d M0 P 118 [some (vR (some l0)), some (vI l1), some (vI l2), some (vI l3)] [vI (mI (sI M a1 ((l1 + (1 : Int32)) + ((2 : Int32) * l2)).toNatClampNeg l3) l0 19), vI ((l1 + (2 : Int32)) + ((2 : Int32) * l2)), vR (mR (sI M a1 ((l1 + (1 : Int32)) + ((2 : Int32) * l2)).toNatClampNeg l3) l0 1)] (sI M a1 ((l1 + (1 : Int32)) + ((2 : Int32) * l2)).toNatClampNeg l3) from ⟨h.1, ?_⟩)
  replace h := h.2
  obtain ⟨a2, he, h⟩ := h
  rw [he]
  refine RN_k (callX_det _) 1 _ _ _ _ (show inb (sI M a1 ((l1 + (1 : Int32)) + ((2 : Int32) * l2)).toNatClampNeg l3) a2 11 ((l1 + (2 : Int32)) + ((2 : Int32) * l2)) ∧ R175 sl sx d M0 P 119 [some (vR (some l0)), some (vI l1), some (vI l2), some (vI l3)] [] (sI (sI M a1 ((l1 + (1 : Int32)) + ((2 : Int32) * l2)).toNatClampNeg l3) a2 ((l1 + (2 : Int32)) + ((2 : Int32) * l2)).toNatClampNeg (mI (sI M a1 ((l1 + (1 : Int32)) + ((2 : Int32) * l2)).toNatClampNeg l3) l0 19)) from ⟨h.1, ?_⟩)
  replace h := h.2
  exact RN_weak (K := [some (vR (some l0)), some (vI l1), none, none]) (callX_det _) (show _ ∧ _ ∧ True from ⟨rfl, rfl, trivial⟩) (t175_119  l0 l1 _ hM h)
def w175 (l0 : Nat) (l1 : Int32) (M : MM) (P : Int32 → MM → Prop) : Prop := kd M l0 10 ∧ (∃ a1, mR M l0 1 = some a1 ∧ (inb M a1 11 l1 ∧ (kd M l0 10 ∧ w176 l0 M (fun r3 M2 => (r3 ≠ 0 → (((mI M a1 l1.toNatClampNeg) ≠ (8 : Int32) → (kd M2 l0 10 ∧ (kd M2 l0 10 ∧ w168 l0 M2 (fun M4 => kd M4 l0 10 ∧ w176 l0 M4 (fun r6 M5 => (r6 ≠ 0 → (((mI M a1 l1.toNatClampNeg) ≤ 0 → (w175_90  l0 l1 (mI M a1 l1.toNatClampNeg) (mI M2 l0 19) M5 P)) ∧ (¬ ((mI M a1 l1.toNatClampNeg) ≤ 0) → (kd M5 l0 10 ∧ (∃ a7, mR M5 l0 1 = some a7 ∧ (inb M5 a7 11 ((l1 + ((2 : Int32) * (mI M a1 l1.toNatClampNeg))) - (1 : Int32)) ∧ (((mI M5 a7 ((l1 + ((2 : Int32) * (mI M a1 l1.toNatClampNeg))) - (1 : Int32)).toNatClampNeg) ≠ (mI M2 l0 19) → (w175_90  l0 l1 (mI M a1 l1.toNatClampNeg) (mI M2 l0 19) M5 P)) ∧ (¬ ((mI M5 a7 ((l1 + ((2 : Int32) * (mI M a1 l1.toNatClampNeg))) - (1 : Int32)).toNatClampNeg) ≠ (mI M2 l0 19)) → (kd M5 l0 10 ∧ (∃ a8, mR M5 l0 1 = some a8 ∧ (inb M5 a8 11 (l1 + ((2 : Int32) * (mI M a1 l1.toNatClampNeg))) ∧ (kd M5 l0 10 ∧ (((mI M5 a8 (l1 + ((2 : Int32) * (mI M a1 l1.toNatClampNeg))).toNatClampNeg) ≠ (mI M5 l0 19) → (w175_90  l0 l1 (mI M a1 l1.toNatClampNeg) (mI M2 l0 19) M5 P)) ∧ (¬ ((mI M5 a8 (l1 + ((2 : Int32) * (mI M a1 l1.toNatClampNeg))).toNatClampNeg) ≠ (mI M5 l0 19)) → (kd M5 l0 10 ∧ w173 l0 (6 : Int32) M5 (fun r10 M9 => (r10 = 0 ∨ r10 = 1) ∧ P r10 M9)))))))))))))))) ∧ (¬ (r6 ≠ 0) → (P (0 : Int32) M5))))))) ∧ (¬ ((mI M a1 l1.toNatClampNeg) ≠ (8 : Int32)) → (kd M2 l0 10 ∧ w173 l0 (5 : Int32) M2 (fun r12 M11 => (r12 = 0 ∨ r12 = 1) ∧ P r12 M11))))) ∧ (¬ (r3 ≠ 0) → (P (0 : Int32) M2))))))
theorem t175_E {sl : Nat} {sx : Nat → Int32} {d : Nat} {M0 : MM} {P : Int32 → MM → Prop} (l0 : Nat) (l1 : Int32) (M : MM) (hM : lenO M0 M) (h : w175  l0 l1 M P) : R175 sl sx d M0 P 0 [some (vR (some l0)), some (vI l1), none, none] [] M := by
  refine RN_k (callX_det _) 2 _ _ _ _ (show kd M l0 10 ∧ R175 sl sx d M0 P 4 [some (vR (some l0)), some (vI l1), none, none] [vR (mR M l0 1)] M from ⟨h.1, ?_⟩)
  replace h := h.2
  obtain ⟨a1, he, h⟩ := h
  refine RN_k (callX_det _) 1 _ _ _ _ (show R175 sl sx d M0 P 5 [some (vR (some l0)), some (vI l1), none, none] [vI l1, vR (mR M l0 1)] M from ?_)
  rw [he]
  refine RN_k (callX_det _) 1 _ _ _ _ (show inb M a1 11 l1 ∧ R175 sl sx d M0 P 6 [some (vR (some l0)), some (vI l1), none, none] [vI (mI M a1 l1.toNatClampNeg)] M from ⟨h.1, ?_⟩)
  replace h := h.2
  refine RN_k (callX_det _) 3 _ _ _ _ (show kd M l0 10 ∧ callX TBg sl sx (d + 2) 176 [vR (some l0)] M (fun v M9 => R175 sl sx d M0 P 11 [some (vR (some l0)), some (vI l1), some (vI (mI M a1 l1.toNatClampNeg)), none] (pushO v []) M9) from ⟨h.1, ?_⟩)
  replace h := h.2
  refine callX_mono (callX_len (d := (d + 2)) rfl rfl rfl (c176 (d := d) h)) ?_
  clear h
  rintro v9 M2 ⟨hl, r3, rfl, h⟩
  replace hM := lenT hM hl
  show R175 sl sx d M0 P 11 [some (vR (some l0)), some (vI l1), some (vI (mI M a1 l1.toNatClampNeg)), none] [vI r3] M2
  refine RN_k (callX_det _) 1 _ _ _ _ (show (r3 ≠ 0 → R175 sl sx d M0 P 16 [some (vR (some l0)), some (vI l1), some (vI (mI M a1 l1.toNatClampNeg)), none] [] M2) ∧ (¬ (r3 ≠ 0) → R175 sl sx d M0 P 14 [some (vR (some l0)), some (vI l1), some (vI (mI M a1 l1.toNatClampNeg)), none] [] M2) from ⟨fun hc => ?_, fun hc => ?_⟩)
  · replace h := h.1 hc
    refine RN_k (callX_det _) 3 _ _ _ _ (show ((mI M a1 l1.toNatClampNeg) ≠ (8 : Int32) → R175 sl sx d M0 P 28 [some (vR (some l0)), some (vI l1), some (vI (mI M a1 l1.toNatClampNeg)), none] [] M2) ∧ (¬ ((mI M a1 l1.toNatClampNeg) ≠ (8 : Int32)) → R175 sl sx d M0 P 22 [some (vR (some l0)), some (vI l1), some (vI (mI M a1 l1.toNatClampNeg)), none] [] M2) from ⟨fun hc => ?_, fun hc => ?_⟩)
    · replace h := h.1 hc
      refine RN_k (callX_det _) 2 _ _ _ _ (show kd M2 l0 10 ∧ R175 sl sx d M0 P 32 [some (vR (some l0)), some (vI l1), some (vI (mI M a1 l1.toNatClampNeg)), none] [vI (mI M2 l0 19)] M2 from ⟨h.1, ?_⟩)
      replace h := h.2
      refine RN_k (callX_det _) 3 _ _ _ _ (show kd M2 l0 10 ∧ callX TBg sl sx (d + 2) 168 [vR (some l0)] M2 (fun v M9 => R175 sl sx d M0 P 37 [some (vR (some l0)), some (vI l1), some (vI (mI M a1 l1.toNatClampNeg)), some (vI (mI M2 l0 19))] (pushO v []) M9) from ⟨h.1, ?_⟩)
      replace h := h.2
      refine callX_mono (callX_len (d := (d + 2)) rfl rfl rfl (c168 (d := d) h)) ?_
      clear h
      rintro v9 M4 ⟨hl, rfl, h⟩
      replace hM := lenT hM hl
      show R175 sl sx d M0 P 37 [some (vR (some l0)), some (vI l1), some (vI (mI M a1 l1.toNatClampNeg)), some (vI (mI M2 l0 19))] [] M4
      refine RN_k (callX_det _) 2 _ _ _ _ (show kd M4 l0 10 ∧ callX TBg sl sx (d + 2) 176 [vR (some l0)] M4 (fun v M9 => R175 sl sx d M0 P 41 [some (vR (some l0)), some (vI l1), some (vI (mI M a1 l1.toNatClampNeg)), some (vI (mI M2 l0 19))] (pushO v []) M9) from ⟨h.1, ?_⟩)
      replace h := h.2
      refine callX_mono (callX_len (d := (d + 2)) rfl rfl rfl (c176 (d := d) h)) ?_
      clear h
      rintro v9 M5 ⟨hl, r6, rfl, h⟩
      replace hM := lenT hM hl
      show R175 sl sx d M0 P 41 [some (vR (some l0)), some (vI l1), some (vI (mI M a1 l1.toNatClampNeg)), some (vI (mI M2 l0 19))] [vI r6] M5
      refine RN_k (callX_det _) 1 _ _ _ _ (show (r6 ≠ 0 → R175 sl sx d M0 P 46 [some (vR (some l0)), some (vI l1), some (vI (mI M a1 l1.toNatClampNeg)), some (vI (mI M2 l0 19))] [] M5) ∧ (¬ (r6 ≠ 0) → R175 sl sx d M0 P 44 [some (vR (some l0)), some (vI l1), some (vI (mI M a1 l1.toNatClampNeg)), some (vI (mI M2 l0 19))] [] M5) from ⟨fun hc => ?_, fun hc => ?_⟩)
      · replace h := h.1 hc
        refine RN_k (callX_det _) 2 _ _ _ _ (show ((mI M a1 l1.toNatClampNeg) ≤ 0 → R175 sl sx d M0 P 90 [some (vR (some l0)), some (vI l1), some (vI (mI M a1 l1.toNatClampNeg)), some (vI (mI M2 l0 19))] [] M5) ∧ (¬ ((mI M a1 l1.toNatClampNeg) ≤ 0) → R175 sl sx d M0 P 50 [some (vR (some l0)), some (vI l1), some (vI (mI M a1 l1.toNatClampNeg)), some (vI (mI M2 l0 19))] [] M5) from ⟨fun hc => ?_, fun hc => ?_⟩)
        · replace h := h.1 hc
          exact RN_weak (K := [some (vR (some l0)), some (vI l1), some (vI (mI M a1 l1.toNatClampNeg)), some (vI (mI M2 l0 19))]) (callX_det _) (show _ ∧ _ ∧ _ ∧ _ ∧ True from ⟨rfl, rfl, rfl, rfl, trivial⟩) (t175_90  l0 l1 (mI M a1 l1.toNatClampNeg) (mI M2 l0 19) _ hM h)
        · replace h := h.2 hc
          refine RN_k (callX_det _) 2 _ _ _ _ (show kd M5 l0 10 ∧ R175 sl sx d M0 P 54 [some (vR (some l0)), some (vI l1), some (vI (mI M a1 l1.toNatClampNeg)), some (vI (mI M2 l0 19))] [vR (mR M5 l0 1)] M5 from ⟨h.1, ?_⟩)
          replace h := h.2
          obtain ⟨a7, he, h⟩ := h
          refine RN_k (callX_det _) 7 _ _ _ _ (show R175 sl sx d M0 P 61 [some (vR (some l0)), some (vI l1), some (vI (mI M a1 l1.toNatClampNeg)), some (vI (mI M2 l0 19))] [vI ((l1 + ((2 : Int32) * (mI M a1 l1.toNatClampNeg))) - (1 : Int32)), vR (mR M5 l0 1)] M5 from ?_)
          rw [he]
          refine RN_k (callX_det _) 1 _ _ _ _ (show inb M5 a7 11 ((l1 + ((2 : Int32) * (mI M a1 l1.toNatClampNeg))) - (1 : Int32)) ∧ R175 sl sx d M0 P 62 [some (vR (some l0)), some (vI l1), some (vI (mI M a1 l1.toNatClampNeg)), some (vI (mI M2 l0 19))] [vI (mI M5 a7 ((l1 + ((2 : Int32) * (mI M a1 l1.toNatClampNeg))) - (1 : Int32)).toNatClampNeg)] M5 from ⟨h.1, ?_⟩)
          replace h := h.2
          refine RN_k (callX_det _) 2 _ _ _ _ (show ((mI M5 a7 ((l1 + ((2 : Int32) * (mI M a1 l1.toNatClampNeg))) - (1 : Int32)).toNatClampNeg) ≠ (mI M2 l0 19) → R175 sl sx d M0 P 90 [some (vR (some l0)), some (vI l1), some (vI (mI M a1 l1.toNatClampNeg)), some (vI (mI M2 l0 19))] [] M5) ∧ (¬ ((mI M5 a7 ((l1 + ((2 : Int32) * (mI M a1 l1.toNatClampNeg))) - (1 : Int32)).toNatClampNeg) ≠ (mI M2 l0 19)) → R175 sl sx d M0 P 66 [some (vR (some l0)), some (vI l1), some (vI (mI M a1 l1.toNatClampNeg)), some (vI (mI M2 l0 19))] [] M5) from ⟨fun hc => ?_, fun hc => ?_⟩)
          · replace h := h.1 hc
            exact RN_weak (K := [some (vR (some l0)), some (vI l1), some (vI (mI M a1 l1.toNatClampNeg)), some (vI (mI M2 l0 19))]) (callX_det _) (show _ ∧ _ ∧ _ ∧ _ ∧ True from ⟨rfl, rfl, rfl, rfl, trivial⟩) (t175_90  l0 l1 (mI M a1 l1.toNatClampNeg) (mI M2 l0 19) _ hM h)
          · replace h := h.2 hc
            refine RN_k (callX_det _) 2 _ _ _ _ (show kd M5 l0 10 ∧ R175 sl sx d M0 P 70 [some (vR (some l0)), some (vI l1), some (vI (mI M a1 l1.toNatClampNeg)), some (vI (mI M2 l0 19))] [vR (mR M5 l0 1)] M5 from ⟨h.1, ?_⟩)
            replace h := h.2
            obtain ⟨a8, he, h⟩ := h
            refine RN_k (callX_det _) 5 _ _ _ _ (show R175 sl sx d M0 P 75 [some (vR (some l0)), some (vI l1), some (vI (mI M a1 l1.toNatClampNeg)), some (vI (mI M2 l0 19))] [vI (l1 + ((2 : Int32) * (mI M a1 l1.toNatClampNeg))), vR (mR M5 l0 1)] M5 from ?_)
            rw [he]
            refine RN_k (callX_det _) 1 _ _ _ _ (show inb M5 a8 11 (l1 + ((2 : Int32) * (mI M a1 l1.toNatClampNeg))) ∧ R175 sl sx d M0 P 76 [some (vR (some l0)), some (vI l1), some (vI (mI M a1 l1.toNatClampNeg)), some (vI (mI M2 l0 19))] [vI (mI M5 a8 (l1 + ((2 : Int32) * (mI M a1 l1.toNatClampNeg))).toNatClampNeg)] M5 from ⟨h.1, ?_⟩)
            replace h := h.2
            refine RN_k (callX_det _) 2 _ _ _ _ (show kd M5 l0 10 ∧ R175 sl sx d M0 P 80 [some (vR (some l0)), some (vI l1), some (vI (mI M a1 l1.toNatClampNeg)), some (vI (mI M2 l0 19))] [vI (mI M5 l0 19), vI (mI M5 a8 (l1 + ((2 : Int32) * (mI M a1 l1.toNatClampNeg))).toNatClampNeg)] M5 from ⟨h.1, ?_⟩)
            replace h := h.2
            refine RN_k (callX_det _) 1 _ _ _ _ (show ((mI M5 a8 (l1 + ((2 : Int32) * (mI M a1 l1.toNatClampNeg))).toNatClampNeg) ≠ (mI M5 l0 19) → R175 sl sx d M0 P 90 [some (vR (some l0)), some (vI l1), some (vI (mI M a1 l1.toNatClampNeg)), some (vI (mI M2 l0 19))] [] M5) ∧ (¬ ((mI M5 a8 (l1 + ((2 : Int32) * (mI M a1 l1.toNatClampNeg))).toNatClampNeg) ≠ (mI M5 l0 19)) → R175 sl sx d M0 P 83 [some (vR (some l0)), some (vI l1), some (vI (mI M a1 l1.toNatClampNeg)), some (vI (mI M2 l0 19))] [] M5) from ⟨fun hc => ?_, fun hc => ?_⟩)
            · replace h := h.1 hc
              exact RN_weak (K := [some (vR (some l0)), some (vI l1), some (vI (mI M a1 l1.toNatClampNeg)), some (vI (mI M2 l0 19))]) (callX_det _) (show _ ∧ _ ∧ _ ∧ _ ∧ True from ⟨rfl, rfl, rfl, rfl, trivial⟩) (t175_90  l0 l1 (mI M a1 l1.toNatClampNeg) (mI M2 l0 19) _ hM h)
            · replace h := h.2 hc
              refine RN_k (callX_det _) 3 _ _ _ _ (show kd M5 l0 10 ∧ callX TBg sl sx (d + 2) 173 [vR (some l0), vI (6 : Int32)] M5 (fun v M9 => R175 sl sx d M0 P 89 [some (vR (some l0)), some (vI l1), some (vI (mI M a1 l1.toNatClampNeg)), some (vI (mI M2 l0 19))] (pushO v []) M9) from ⟨h.1, ?_⟩)
              replace h := h.2
              refine callX_mono (callX_len (d := (d + 2)) rfl rfl rfl (c173 (d := d + 1) h)) ?_
              clear h
              rintro v9 M9 ⟨hl, r10, rfl, h⟩
              replace hM := lenT hM hl
              show R175 sl sx d M0 P 89 [some (vR (some l0)), some (vI l1), some (vI (mI M a1 l1.toNatClampNeg)), some (vI (mI M2 l0 19))] [vI r10] M9
              exact RN_k (callX_det _) 1 _ _ _ _ (show rtW q175 M0 (PI P) (some (vI r10)) M9 from ⟨⟨_, rfl, h.1⟩, hM.1, hM.2, _, rfl, h.2⟩)
      · replace h := h.2 hc
        exact RN_k (callX_det _) 2 _ _ _ _ (show rtW q175 M0 (PI P) (some (vI (0 : Int32))) M5 from ⟨⟨_, rfl, Or.inl rfl⟩, hM.1, hM.2, _, rfl, h⟩)
    · replace h := h.2 hc
      refine RN_k (callX_det _) 3 _ _ _ _ (show kd M2 l0 10 ∧ callX TBg sl sx (d + 2) 173 [vR (some l0), vI (5 : Int32)] M2 (fun v M9 => R175 sl sx d M0 P 27 [some (vR (some l0)), some (vI l1), some (vI (mI M a1 l1.toNatClampNeg)), none] (pushO v []) M9) from ⟨h.1, ?_⟩)
      replace h := h.2
      refine callX_mono (callX_len (d := (d + 2)) rfl rfl rfl (c173 (d := d + 1) h)) ?_
      clear h
      rintro v9 M11 ⟨hl, r12, rfl, h⟩
      replace hM := lenT hM hl
      show R175 sl sx d M0 P 27 [some (vR (some l0)), some (vI l1), some (vI (mI M a1 l1.toNatClampNeg)), none] [vI r12] M11
      exact RN_k (callX_det _) 1 _ _ _ _ (show rtW q175 M0 (PI P) (some (vI r12)) M11 from ⟨⟨_, rfl, h.1⟩, hM.1, hM.2, _, rfl, h.2⟩)
  · replace h := h.2 hc
    exact RN_k (callX_det _) 2 _ _ _ _ (show rtW q175 M0 (PI P) (some (vI (0 : Int32))) M2 from ⟨⟨_, rfl, Or.inl rfl⟩, hM.1, hM.2, _, rfl, h⟩)
theorem c175 {sl : Nat} {sx : Nat → Int32} {d : Nat} {l0 : Nat} {l1 : Int32} {M : MM} {P : Int32 → MM → Prop} (h : w175 l0 l1 M P) : callX TBg sl sx (d + 3) 175 [vR (some l0), vI l1] M (PI P) :=
  cX (d := d + 2) q175 (false, tb175) rfl rfl rfl (t175_E l0 l1 M lenR h)
-- TwoLeashModel.readWay()Z
abbrev q172 : MQ7 := (1, 1, 2, 10, 0, 0, 4)
abbrev R172 (sl : Nat) (sx : Nat → Int32) (d : Nat) (M0 : MM) (P : Int32 → MM → Prop) : Nat → LL → List VV → MM → Prop := RN 10 false (mS M0).length (mT M0) 0 0 sl sx (callX TBg sl sx (d + 3)) (rtW q172 M0 (PI P)) (as2 tb172)
def w172_136 : Nat → Nat → Int32 → MM → (Int32 → MM → Prop) → Prop
  | 0 => fun _ _ _ _ => False
  | n + 1 => fun l0 l1 M P => kd M l0 10 ∧ w175 l0 l1 M (fun r2 M1 => (r2 ≠ 0 → (kd M1 l0 10 ∧ (∃ a3, mR M1 l0 1 = some a3 ∧ (inb M1 a3 11 l1 ∧ (((mI M1 a3 l1.toNatClampNeg) < (2 : Int32) → (w172_136  n l0 l1 M1 P)) ∧ (¬ ((mI M1 a3 l1.toNatClampNeg) < (2 : Int32)) → (kd M1 l0 10 ∧ (((mI M1 l0 18) = (3 : Int32) → (w172_136  n l0 l1 M1 P)) ∧ (¬ ((mI M1 l0 18) = (3 : Int32)) → (kd M1 l0 10 ∧ (((mI M1 l0 18) = (4 : Int32) → (kd M1 l0 10 ∧ w168 l0 M1 (fun M4 => kd M4 l0 10 ∧ (kd M4 l0 10 ∧ (P (1 : Int32) (sI M4 l0 6 ((mI M4 l0 6) + (1 : Int32)))))))) ∧ (¬ ((mI M1 l0 18) = (4 : Int32)) → (kd M1 l0 10 ∧ w173 l0 (2 : Int32) M1 (fun r6 M5 => (r6 = 0 ∨ r6 = 1) ∧ P r6 M5)))))))))))))) ∧ (¬ (r2 ≠ 0) → (P (0 : Int32) M1)))
theorem t172_136 {sl : Nat} {sx : Nat → Int32} {d : Nat} {M0 : MM} {P : Int32 → MM → Prop} (n : Nat) : ∀ (l0 : Nat) (l1 : Int32) (M : MM) (_ : lenO M0 M) (_ : w172_136  n l0 l1 M P), R172 sl sx d M0 P 136 [some (vR (some l0)), some (vI l1)] [] M := by
  induction n with
  | zero => intro l0 l1 M hM h; cases h
  | succ n ih =>
    intro l0 l1 M hM h
    refine RN_k (callX_det _) 3 _ _ _ _ (show kd M l0 10 ∧ callX TBg sl sx (d + 3) 175 [vR (some l0), vI l1] M (fun v M9 => R172 sl sx d M0 P 141 [some (vR (some l0)), some (vI l1)] (pushO v []) M9) from ⟨h.1, ?_⟩)
    replace h := h.2
    refine callX_mono (callX_len (d := (d + 3)) rfl rfl rfl (c175 (d := d) h)) ?_
    clear h
    rintro v9 M1 ⟨hl, r2, rfl, h⟩
    replace hM := lenT hM hl
    show R172 sl sx d M0 P 141 [some (vR (some l0)), some (vI l1)] [vI r2] M1
    refine RN_k (callX_det _) 1 _ _ _ _ (show (r2 ≠ 0 → R172 sl sx d M0 P 146 [some (vR (some l0)), some (vI l1)] [] M1) ∧ (¬ (r2 ≠ 0) → R172 sl sx d M0 P 144 [some (vR (some l0)), some (vI l1)] [] M1) from ⟨fun hc => ?_, fun hc => ?_⟩)
    · replace h := h.1 hc
      refine RN_k (callX_det _) 2 _ _ _ _ (show kd M1 l0 10 ∧ R172 sl sx d M0 P 150 [some (vR (some l0)), some (vI l1)] [vR (mR M1 l0 1)] M1 from ⟨h.1, ?_⟩)
      replace h := h.2
      obtain ⟨a3, he, h⟩ := h
      refine RN_k (callX_det _) 1 _ _ _ _ (show R172 sl sx d M0 P 151 [some (vR (some l0)), some (vI l1)] [vI l1, vR (mR M1 l0 1)] M1 from ?_)
      rw [he]
      refine RN_k (callX_det _) 1 _ _ _ _ (show inb M1 a3 11 l1 ∧ R172 sl sx d M0 P 152 [some (vR (some l0)), some (vI l1)] [vI (mI M1 a3 l1.toNatClampNeg)] M1 from ⟨h.1, ?_⟩)
      replace h := h.2
      refine RN_k (callX_det _) 2 _ _ _ _ (show ((mI M1 a3 l1.toNatClampNeg) < (2 : Int32) → R172 sl sx d M0 P 136 [some (vR (some l0)), some (vI l1)] [] M1) ∧ (¬ ((mI M1 a3 l1.toNatClampNeg) < (2 : Int32)) → R172 sl sx d M0 P 156 [some (vR (some l0)), some (vI l1)] [] M1) from ⟨fun hc => ?_, fun hc => ?_⟩)
      · replace h := h.1 hc
        exact RN_weak (K := [some (vR (some l0)), some (vI l1)]) (callX_det _) (show _ ∧ _ ∧ True from ⟨rfl, rfl, trivial⟩) (ih l0 l1 _ hM h)
      · replace h := h.2 hc
        refine RN_k (callX_det _) 2 _ _ _ _ (show kd M1 l0 10 ∧ R172 sl sx d M0 P 160 [some (vR (some l0)), some (vI l1)] [vI (mI M1 l0 18)] M1 from ⟨h.1, ?_⟩)
        replace h := h.2
        refine RN_k (callX_det _) 2 _ _ _ _ (show ((mI M1 l0 18) = (3 : Int32) → R172 sl sx d M0 P 136 [some (vR (some l0)), some (vI l1)] [] M1) ∧ (¬ ((mI M1 l0 18) = (3 : Int32)) → R172 sl sx d M0 P 164 [some (vR (some l0)), some (vI l1)] [] M1) from ⟨fun hc => ?_, fun hc => ?_⟩)
        · replace h := h.1 hc
          exact RN_weak (K := [some (vR (some l0)), some (vI l1)]) (callX_det _) (show _ ∧ _ ∧ True from ⟨rfl, rfl, trivial⟩) (ih l0 l1 _ hM h)
        · replace h := h.2 hc
          refine RN_k (callX_det _) 2 _ _ _ _ (show kd M1 l0 10 ∧ R172 sl sx d M0 P 168 [some (vR (some l0)), some (vI l1)] [vI (mI M1 l0 18)] M1 from ⟨h.1, ?_⟩)
          replace h := h.2
          refine RN_k (callX_det _) 2 _ _ _ _ (show ((mI M1 l0 18) = (4 : Int32) → R172 sl sx d M0 P 178 [some (vR (some l0)), some (vI l1)] [] M1) ∧ (¬ ((mI M1 l0 18) = (4 : Int32)) → R172 sl sx d M0 P 172 [some (vR (some l0)), some (vI l1)] [] M1) from ⟨fun hc => ?_, fun hc => ?_⟩)
          · replace h := h.1 hc
            refine RN_k (callX_det _) 2 _ _ _ _ (show kd M1 l0 10 ∧ callX TBg sl sx (d + 3) 168 [vR (some l0)] M1 (fun v M9 => R172 sl sx d M0 P 182 [some (vR (some l0)), some (vI l1)] (pushO v []) M9) from ⟨h.1, ?_⟩)
            replace h := h.2
            refine callX_mono (callX_len (d := (d + 3)) rfl rfl rfl (c168 (d := d + 1) h)) ?_
            clear h
            rintro v9 M4 ⟨hl, rfl, h⟩
            replace hM := lenT hM hl
            show R172 sl sx d M0 P 182 [some (vR (some l0)), some (vI l1)] [] M4
            refine RN_k (callX_det _) 3 _ _ _ _ (show kd M4 l0 10 ∧ R172 sl sx d M0 P 187 [some (vR (some l0)), some (vI l1)] [vI (mI M4 l0 6), vR (some l0)] M4 from ⟨h.1, ?_⟩)
            replace h := h.2
            refine RN_k (callX_det _) 3 _ _ _ _ (show kd M4 l0 10 ∧ R172 sl sx d M0 P 192 [some (vR (some l0)), some (vI l1)] [] (sI M4 l0 6 ((mI M4 l0 6) + (1 : Int32))) from ⟨h.1, ?_⟩)
            replace h := h.2
            exact RN_k (callX_det _) 2 _ _ _ _ (show rtW q172 M0 (PI P) (some (vI (1 : Int32))) (sI M4 l0 6 ((mI M4 l0 6) + (1 : Int32))) from ⟨⟨_, rfl, Or.inr rfl⟩, hM.1, hM.2, _, rfl, h⟩)
          · replace h := h.2 hc
            refine RN_k (callX_det _) 3 _ _ _ _ (show kd M1 l0 10 ∧ callX TBg sl sx (d + 3) 173 [vR (some l0), vI (2 : Int32)] M1 (fun v M9 => R172 sl sx d M0 P 177 [some (vR (some l0)), some (vI l1)] (pushO v []) M9) from ⟨h.1, ?_⟩)
            replace h := h.2
            refine callX_mono (callX_len (d := (d + 3)) rfl rfl rfl (c173 (d := d + 2) h)) ?_
            clear h
            rintro v9 M5 ⟨hl, r6, rfl, h⟩
            replace hM := lenT hM hl
            show R172 sl sx d M0 P 177 [some (vR (some l0)), some (vI l1)] [vI r6] M5
            exact RN_k (callX_det _) 1 _ _ _ _ (show rtW q172 M0 (PI P) (some (vI r6)) M5 from ⟨⟨_, rfl, h.1⟩, hM.1, hM.2, _, rfl, h.2⟩)
    · replace h := h.2 hc
      exact RN_k (callX_det _) 2 _ _ _ _ (show rtW q172 M0 (PI P) (some (vI (0 : Int32))) M1 from ⟨⟨_, rfl, Or.inl rfl⟩, hM.1, hM.2, _, rfl, h⟩)
def w172_70 : Nat → Nat → Int32 → MM → (Int32 → MM → Prop) → Prop
  | 0 => fun _ _ _ _ => False
  | n + 1 => fun l0 l1 M P => kd M l0 10 ∧ (((mI M l0 6) ≤ l1 → (kd M l0 10 ∧ (kd M l0 10 ∧ (kd M l0 10 ∧ (∃ a1, mR M l0 4 = some a1 ∧ (inb M a1 12 (mI M l0 6) ∧ (kd (sL M a1 (mI M l0 6).toNatClampNeg (mL M l0 22)) l0 10 ∧ w168 l0 (sL M a1 (mI M l0 6).toNatClampNeg (mL M l0 22)) (fun M2 => kd M2 l0 10 ∧ (w174 (mI M2 l0 6) M2 (fun r4 M3 => kd M3 l0 10 ∧ (∃ a5, mR M3 l0 1 = some a5 ∧ (inb M3 a5 11 r4 ∧ (∃ n2, w172_136  n2 l0 r4 (sI M3 a5 r4.toNatClampNeg (0 : Int32)) P))))))))))))) ∧ (¬ ((mI M l0 6) ≤ l1) → (kd M l0 10 ∧ (∃ a6, mR M l0 4 = some a6 ∧ (inb M a6 12 l1 ∧ (kd M l0 10 ∧ (((lg_cmp (mL M a6 l1.toNatClampNeg) (mL M l0 22)) ≠ 0 → (w172_70  n l0 (l1 + (1 : Int32)) M P)) ∧ (¬ ((lg_cmp (mL M a6 l1.toNatClampNeg) (mL M l0 22)) ≠ 0) → (kd M l0 10 ∧ w173 l0 (4 : Int32) M (fun r8 M7 => (r8 = 0 ∨ r8 = 1) ∧ P r8 M7))))))))))
theorem t172_70 {sl : Nat} {sx : Nat → Int32} {d : Nat} {M0 : MM} {P : Int32 → MM → Prop} (n : Nat) : ∀ (l0 : Nat) (l1 : Int32) (M : MM) (_ : lenO M0 M) (_ : w172_70  n l0 l1 M P), R172 sl sx d M0 P 70 [some (vR (some l0)), some (vI l1)] [] M := by
  induction n with
  | zero => intro l0 l1 M hM h; cases h
  | succ n ih =>
    intro l0 l1 M hM h
    refine RN_k (callX_det _) 3 _ _ _ _ (show kd M l0 10 ∧ R172 sl sx d M0 P 75 [some (vR (some l0)), some (vI l1)] [vI (mI M l0 6), vI l1] M from ⟨h.1, ?_⟩)
    replace h := h.2
    refine RN_k (callX_det _) 1 _ _ _ _ (show ((mI M l0 6) ≤ l1 → R172 sl sx d M0 P 104 [some (vR (some l0)), some (vI l1)] [] M) ∧ (¬ ((mI M l0 6) ≤ l1) → R172 sl sx d M0 P 78 [some (vR (some l0)), some (vI l1)] [] M) from ⟨fun hc => ?_, fun hc => ?_⟩)
    · replace h := h.1 hc
      refine RN_k (callX_det _) 2 _ _ _ _ (show kd M l0 10 ∧ R172 sl sx d M0 P 108 [some (vR (some l0)), some (vI l1)] [vR (mR M l0 4)] M from ⟨h.1, ?_⟩)
      replace h := h.2
      refine RN_k (callX_det _) 2 _ _ _ _ (show kd M l0 10 ∧ R172 sl sx d M0 P 112 [some (vR (some l0)), some (vI l1)] [vI (mI M l0 6), vR (mR M l0 4)] M from ⟨h.1, ?_⟩)
      replace h := h.2
      refine RN_k (callX_det _) 2 _ _ _ _ (show kd M l0 10 ∧ R172 sl sx d M0 P 116 [some (vR (some l0)), some (vI l1)] [vL (mL M l0 22), vI (mI M l0 6), vR (mR M l0 4)] M from ⟨h.1, ?_⟩)
      replace h := h.2
      obtain ⟨a1, he, h⟩ := h
      rw [he]
      refine RN_k (callX_det _) 1 _ _ _ _ (show inb M a1 12 (mI M l0 6) ∧ R172 sl sx d M0 P 117 [some (vR (some l0)), some (vI l1)] [] (sL M a1 (mI M l0 6).toNatClampNeg (mL M l0 22)) from ⟨h.1, ?_⟩)
      replace h := h.2
      refine RN_k (callX_det _) 2 _ _ _ _ (show kd (sL M a1 (mI M l0 6).toNatClampNeg (mL M l0 22)) l0 10 ∧ callX TBg sl sx (d + 3) 168 [vR (some l0)] (sL M a1 (mI M l0 6).toNatClampNeg (mL M l0 22)) (fun v M9 => R172 sl sx d M0 P 121 [some (vR (some l0)), some (vI l1)] (pushO v []) M9) from ⟨h.1, ?_⟩)
      replace h := h.2
      refine callX_mono (callX_len (d := (d + 3)) rfl rfl rfl (c168 (d := d + 1) h)) ?_
      clear h
      rintro v9 M2 ⟨hl, rfl, h⟩
      replace hM := lenT hM hl
      show R172 sl sx d M0 P 121 [some (vR (some l0)), some (vI l1)] [] M2
      refine RN_k (callX_det _) 2 _ _ _ _ (show kd M2 l0 10 ∧ R172 sl sx d M0 P 125 [some (vR (some l0)), some (vI l1)] [vI (mI M2 l0 6)] M2 from ⟨h.1, ?_⟩)
      replace h := h.2
      refine RN_k (callX_det _) 1 _ _ _ _ (show callX TBg sl sx (d + 3) 174 [vI (mI M2 l0 6)] M2 (fun v M9 => R172 sl sx d M0 P 128 [some (vR (some l0)), some (vI l1)] (pushO v []) M9) from ?_)
      refine callX_mono (callX_len (d := (d + 3)) rfl rfl rfl (c174 (d := d + 2) h)) ?_
      clear h
      rintro v9 M3 ⟨hl, r4, rfl, h⟩
      replace hM := lenT hM hl
      show R172 sl sx d M0 P 128 [some (vR (some l0)), some (vI l1)] [vI r4] M3
      refine RN_k (callX_det _) 3 _ _ _ _ (show kd M3 l0 10 ∧ R172 sl sx d M0 P 133 [some (vR (some l0)), some (vI r4)] [vR (mR M3 l0 1)] M3 from ⟨h.1, ?_⟩)
      replace h := h.2
      obtain ⟨a5, he, h⟩ := h
      refine RN_k (callX_det _) 2 _ _ _ _ (show R172 sl sx d M0 P 135 [some (vR (some l0)), some (vI r4)] [vI (0 : Int32), vI r4, vR (mR M3 l0 1)] M3 from ?_)
      rw [he]
      refine RN_k (callX_det _) 1 _ _ _ _ (show inb M3 a5 11 r4 ∧ R172 sl sx d M0 P 136 [some (vR (some l0)), some (vI r4)] [] (sI M3 a5 r4.toNatClampNeg (0 : Int32)) from ⟨h.1, ?_⟩)
      replace h := h.2
      obtain ⟨n2, h⟩ := h
      exact RN_weak (K := [some (vR (some l0)), some (vI r4)]) (callX_det _) (show _ ∧ _ ∧ True from ⟨rfl, rfl, trivial⟩) (t172_136  n2 l0 r4 _ hM h)
    · replace h := h.2 hc
      refine RN_k (callX_det _) 2 _ _ _ _ (show kd M l0 10 ∧ R172 sl sx d M0 P 82 [some (vR (some l0)), some (vI l1)] [vR (mR M l0 4)] M from ⟨h.1, ?_⟩)
      replace h := h.2
      obtain ⟨a6, he, h⟩ := h
      refine RN_k (callX_det _) 1 _ _ _ _ (show R172 sl sx d M0 P 83 [some (vR (some l0)), some (vI l1)] [vI l1, vR (mR M l0 4)] M from ?_)
      rw [he]
      refine RN_k (callX_det _) 1 _ _ _ _ (show inb M a6 12 l1 ∧ R172 sl sx d M0 P 84 [some (vR (some l0)), some (vI l1)] [vL (mL M a6 l1.toNatClampNeg)] M from ⟨h.1, ?_⟩)
      replace h := h.2
      refine RN_k (callX_det _) 2 _ _ _ _ (show kd M l0 10 ∧ R172 sl sx d M0 P 88 [some (vR (some l0)), some (vI l1)] [vL (mL M l0 22), vL (mL M a6 l1.toNatClampNeg)] M from ⟨h.1, ?_⟩)
      replace h := h.2
      refine RN_k (callX_det _) 2 _ _ _ _ (show ((lg_cmp (mL M a6 l1.toNatClampNeg) (mL M l0 22)) ≠ 0 → R172 sl sx d M0 P 98 [some (vR (some l0)), some (vI l1)] [] M) ∧ (¬ ((lg_cmp (mL M a6 l1.toNatClampNeg) (mL M l0 22)) ≠ 0) → R172 sl sx d M0 P 92 [some (vR (some l0)), some (vI l1)] [] M) from ⟨fun hc => ?_, fun hc => ?_⟩)
      · replace h := h.1 hc
        refine RN_k (callX_det _) 2 _ _ _ _ (show R172 sl sx d M0 P 70 [some (vR (some l0)), some (vI (l1 + (1 : Int32)))] [] M from ?_)
        exact RN_weak (K := [some (vR (some l0)), some (vI (l1 + (1 : Int32)))]) (callX_det _) (show _ ∧ _ ∧ True from ⟨rfl, rfl, trivial⟩) (ih l0 (l1 + (1 : Int32)) _ hM h)
      · replace h := h.2 hc
        refine RN_k (callX_det _) 3 _ _ _ _ (show kd M l0 10 ∧ callX TBg sl sx (d + 3) 173 [vR (some l0), vI (4 : Int32)] M (fun v M9 => R172 sl sx d M0 P 97 [some (vR (some l0)), some (vI l1)] (pushO v []) M9) from ⟨h.1, ?_⟩)
        replace h := h.2
        refine callX_mono (callX_len (d := (d + 3)) rfl rfl rfl (c173 (d := d + 2) h)) ?_
        clear h
        rintro v9 M7 ⟨hl, r8, rfl, h⟩
        replace hM := lenT hM hl
        show R172 sl sx d M0 P 97 [some (vR (some l0)), some (vI l1)] [vI r8] M7
        exact RN_k (callX_det _) 1 _ _ _ _ (show rtW q172 M0 (PI P) (some (vI r8)) M7 from ⟨⟨_, rfl, h.1⟩, hM.1, hM.2, _, rfl, h.2⟩)
def w172_19 (l0 : Nat) (M : MM) (P : Int32 → MM → Prop) : Prop := kd M l0 10 ∧ w173 l0 (2 : Int32) M (fun r2 M1 => (r2 = 0 ∨ r2 = 1) ∧ P r2 M1)
theorem t172_19 {sl : Nat} {sx : Nat → Int32} {d : Nat} {M0 : MM} {P : Int32 → MM → Prop} (l0 : Nat) (M : MM) (hM : lenO M0 M) (h : w172_19  l0 M P) : R172 sl sx d M0 P 19 [some (vR (some l0)), none] [] M := by
  refine RN_k (callX_det _) 3 _ _ _ _ (show kd M l0 10 ∧ callX TBg sl sx (d + 3) 173 [vR (some l0), vI (2 : Int32)] M (fun v M9 => R172 sl sx d M0 P 24 [some (vR (some l0)), none] (pushO v []) M9) from ⟨h.1, ?_⟩)
  replace h := h.2
  refine callX_mono (callX_len (d := (d + 3)) rfl rfl rfl (c173 (d := d + 2) h)) ?_
  clear h
  rintro v9 M1 ⟨hl, r2, rfl, h⟩
  replace hM := lenT hM hl
  show R172 sl sx d M0 P 24 [some (vR (some l0)), none] [vI r2] M1
  exact RN_k (callX_det _) 1 _ _ _ _ (show rtW q172 M0 (PI P) (some (vI r2)) M1 from ⟨⟨_, rfl, h.1⟩, hM.1, hM.2, _, rfl, h.2⟩)
def w172_62 (l0 : Nat) (M : MM) (P : Int32 → MM → Prop) : Prop := kd M l0 10 ∧ w173 l0 (2 : Int32) M (fun r2 M1 => (r2 = 0 ∨ r2 = 1) ∧ P r2 M1)
theorem t172_62 {sl : Nat} {sx : Nat → Int32} {d : Nat} {M0 : MM} {P : Int32 → MM → Prop} (l0 : Nat) (M : MM) (hM : lenO M0 M) (h : w172_62  l0 M P) : R172 sl sx d M0 P 62 [some (vR (some l0)), none] [] M := by
  refine RN_k (callX_det _) 3 _ _ _ _ (show kd M l0 10 ∧ callX TBg sl sx (d + 3) 173 [vR (some l0), vI (2 : Int32)] M (fun v M9 => R172 sl sx d M0 P 67 [some (vR (some l0)), none] (pushO v []) M9) from ⟨h.1, ?_⟩)
  replace h := h.2
  refine callX_mono (callX_len (d := (d + 3)) rfl rfl rfl (c173 (d := d + 2) h)) ?_
  clear h
  rintro v9 M1 ⟨hl, r2, rfl, h⟩
  replace hM := lenT hM hl
  show R172 sl sx d M0 P 67 [some (vR (some l0)), none] [vI r2] M1
  exact RN_k (callX_det _) 1 _ _ _ _ (show rtW q172 M0 (PI P) (some (vI r2)) M1 from ⟨⟨_, rfl, h.1⟩, hM.1, hM.2, _, rfl, h.2⟩)
def w172 (l0 : Nat) (M : MM) (P : Int32 → MM → Prop) : Prop := kd M l0 10 ∧ (((mI M l0 18) ≠ (2 : Int32) → (w172_19  l0 M P)) ∧ (¬ ((mI M l0 18) ≠ (2 : Int32)) → (kd M l0 10 ∧ (((lg_cmp (mL M l0 22) (23609 : Int64)) = 0 → (kd M l0 10 ∧ (((mI M l0 6) ≠ (4 : Int32) → (kd M l0 10 ∧ w168 l0 M (fun M1 => kd M1 l0 10 ∧ (((mI M1 l0 18) ≠ (2 : Int32) → (w172_62  l0 M1 P)) ∧ (¬ ((mI M1 l0 18) ≠ (2 : Int32)) → (kd M1 l0 10 ∧ (((lg_cmp (mL M1 l0 22) (23609 : Int64)) ≠ 0 → (∃ n2, w172_70  n2 l0 (0 : Int32) M1 P)) ∧ (¬ ((lg_cmp (mL M1 l0 22) (23609 : Int64)) ≠ 0) → (w172_62  l0 M1 P))))))))) ∧ (¬ ((mI M l0 6) ≠ (4 : Int32)) → (kd M l0 10 ∧ w173 l0 (5 : Int32) M (fun r3 M2 => (r3 = 0 ∨ r3 = 1) ∧ P r3 M2)))))) ∧ (¬ ((lg_cmp (mL M l0 22) (23609 : Int64)) = 0) → (w172_19  l0 M P))))))
theorem t172_E {sl : Nat} {sx : Nat → Int32} {d : Nat} {M0 : MM} {P : Int32 → MM → Prop} (l0 : Nat) (M : MM) (hM : lenO M0 M) (h : w172  l0 M P) : R172 sl sx d M0 P 0 [some (vR (some l0)), none] [] M := by
  refine RN_k (callX_det _) 2 _ _ _ _ (show kd M l0 10 ∧ R172 sl sx d M0 P 4 [some (vR (some l0)), none] [vI (mI M l0 18)] M from ⟨h.1, ?_⟩)
  replace h := h.2
  refine RN_k (callX_det _) 2 _ _ _ _ (show ((mI M l0 18) ≠ (2 : Int32) → R172 sl sx d M0 P 19 [some (vR (some l0)), none] [] M) ∧ (¬ ((mI M l0 18) ≠ (2 : Int32)) → R172 sl sx d M0 P 8 [some (vR (some l0)), none] [] M) from ⟨fun hc => ?_, fun hc => ?_⟩)
  · replace h := h.1 hc
    exact RN_weak (K := [some (vR (some l0)), none]) (callX_det _) (show _ ∧ True from ⟨rfl, trivial⟩) (t172_19  l0 _ hM h)
  · replace h := h.2 hc
    refine RN_k (callX_det _) 2 _ _ _ _ (show kd M l0 10 ∧ R172 sl sx d M0 P 12 [some (vR (some l0)), none] [vL (mL M l0 22)] M from ⟨h.1, ?_⟩)
    replace h := h.2
    refine RN_k (callX_det _) 3 _ _ _ _ (show ((lg_cmp (mL M l0 22) (23609 : Int64)) = 0 → R172 sl sx d M0 P 25 [some (vR (some l0)), none] [] M) ∧ (¬ ((lg_cmp (mL M l0 22) (23609 : Int64)) = 0) → R172 sl sx d M0 P 19 [some (vR (some l0)), none] [] M) from ⟨fun hc => ?_, fun hc => ?_⟩)
    · replace h := h.1 hc
      refine RN_k (callX_det _) 2 _ _ _ _ (show kd M l0 10 ∧ R172 sl sx d M0 P 29 [some (vR (some l0)), none] [vI (mI M l0 6)] M from ⟨h.1, ?_⟩)
      replace h := h.2
      refine RN_k (callX_det _) 2 _ _ _ _ (show ((mI M l0 6) ≠ (4 : Int32) → R172 sl sx d M0 P 39 [some (vR (some l0)), none] [] M) ∧ (¬ ((mI M l0 6) ≠ (4 : Int32)) → R172 sl sx d M0 P 33 [some (vR (some l0)), none] [] M) from ⟨fun hc => ?_, fun hc => ?_⟩)
      · replace h := h.1 hc
        refine RN_k (callX_det _) 2 _ _ _ _ (show kd M l0 10 ∧ callX TBg sl sx (d + 3) 168 [vR (some l0)] M (fun v M9 => R172 sl sx d M0 P 43 [some (vR (some l0)), none] (pushO v []) M9) from ⟨h.1, ?_⟩)
        replace h := h.2
        refine callX_mono (callX_len (d := (d + 3)) rfl rfl rfl (c168 (d := d + 1) h)) ?_
        clear h
        rintro v9 M1 ⟨hl, rfl, h⟩
        replace hM := lenT hM hl
        show R172 sl sx d M0 P 43 [some (vR (some l0)), none] [] M1
        refine RN_k (callX_det _) 2 _ _ _ _ (show kd M1 l0 10 ∧ R172 sl sx d M0 P 47 [some (vR (some l0)), none] [vI (mI M1 l0 18)] M1 from ⟨h.1, ?_⟩)
        replace h := h.2
        refine RN_k (callX_det _) 2 _ _ _ _ (show ((mI M1 l0 18) ≠ (2 : Int32) → R172 sl sx d M0 P 62 [some (vR (some l0)), none] [] M1) ∧ (¬ ((mI M1 l0 18) ≠ (2 : Int32)) → R172 sl sx d M0 P 51 [some (vR (some l0)), none] [] M1) from ⟨fun hc => ?_, fun hc => ?_⟩)
        · replace h := h.1 hc
          exact RN_weak (K := [some (vR (some l0)), none]) (callX_det _) (show _ ∧ True from ⟨rfl, trivial⟩) (t172_62  l0 _ hM h)
        · replace h := h.2 hc
          refine RN_k (callX_det _) 2 _ _ _ _ (show kd M1 l0 10 ∧ R172 sl sx d M0 P 55 [some (vR (some l0)), none] [vL (mL M1 l0 22)] M1 from ⟨h.1, ?_⟩)
          replace h := h.2
          refine RN_k (callX_det _) 3 _ _ _ _ (show ((lg_cmp (mL M1 l0 22) (23609 : Int64)) ≠ 0 → R172 sl sx d M0 P 68 [some (vR (some l0)), none] [] M1) ∧ (¬ ((lg_cmp (mL M1 l0 22) (23609 : Int64)) ≠ 0) → R172 sl sx d M0 P 62 [some (vR (some l0)), none] [] M1) from ⟨fun hc => ?_, fun hc => ?_⟩)
          · replace h := h.1 hc
            refine RN_k (callX_det _) 2 _ _ _ _ (show R172 sl sx d M0 P 70 [some (vR (some l0)), some (vI (0 : Int32))] [] M1 from ?_)
            obtain ⟨n2, h⟩ := h
            exact RN_weak (K := [some (vR (some l0)), some (vI (0 : Int32))]) (callX_det _) (show _ ∧ _ ∧ True from ⟨rfl, rfl, trivial⟩) (t172_70  n2 l0 (0 : Int32) _ hM h)
          · replace h := h.2 hc
            exact RN_weak (K := [some (vR (some l0)), none]) (callX_det _) (show _ ∧ True from ⟨rfl, trivial⟩) (t172_62  l0 _ hM h)
      · replace h := h.2 hc
        refine RN_k (callX_det _) 3 _ _ _ _ (show kd M l0 10 ∧ callX TBg sl sx (d + 3) 173 [vR (some l0), vI (5 : Int32)] M (fun v M9 => R172 sl sx d M0 P 38 [some (vR (some l0)), none] (pushO v []) M9) from ⟨h.1, ?_⟩)
        replace h := h.2
        refine callX_mono (callX_len (d := (d + 3)) rfl rfl rfl (c173 (d := d + 2) h)) ?_
        clear h
        rintro v9 M2 ⟨hl, r3, rfl, h⟩
        replace hM := lenT hM hl
        show R172 sl sx d M0 P 38 [some (vR (some l0)), none] [vI r3] M2
        exact RN_k (callX_det _) 1 _ _ _ _ (show rtW q172 M0 (PI P) (some (vI r3)) M2 from ⟨⟨_, rfl, h.1⟩, hM.1, hM.2, _, rfl, h.2⟩)
    · replace h := h.2 hc
      exact RN_weak (K := [some (vR (some l0)), none]) (callX_det _) (show _ ∧ True from ⟨rfl, trivial⟩) (t172_19  l0 _ hM h)
theorem c172 {sl : Nat} {sx : Nat → Int32} {d : Nat} {l0 : Nat} {M : MM} {P : Int32 → MM → Prop} (h : w172 l0 M P) : callX TBg sl sx (d + 4) 172 [vR (some l0)] M (PI P) :=
  cX (d := d + 3) q172 (false, tb172) rfl rfl rfl (t172_E l0 M lenR h)
-- TwoLeashModel.gives(I)I
abbrev q177 : MQ7 := (2, 1, 2, 10, 0, 0, 1)
abbrev R177 (sl : Nat) (sx : Nat → Int32) (d : Nat) (M0 : MM) (P : Int32 → MM → Prop) : Nat → LL → List VV → MM → Prop := RN 10 false (mS M0).length (mT M0) 0 0 sl sx (callX TBg sl sx (d + 0)) (rtW q177 M0 (PI P)) (as2 tb177)
def w177 (l0 : Nat) (l1 : Int32) (M : MM) (P : Int32 → MM → Prop) : Prop := kd M l0 10 ∧ (P l1 (sI M l0 9 (0 : Int32)))
theorem t177_E {sl : Nat} {sx : Nat → Int32} {d : Nat} {M0 : MM} {P : Int32 → MM → Prop} (l0 : Nat) (l1 : Int32) (M : MM) (hM : lenO M0 M) (h : w177  l0 l1 M P) : R177 sl sx d M0 P 0 [some (vR (some l0)), some (vI l1)] [] M := by
  refine RN_k (callX_det _) 3 _ _ _ _ (show kd M l0 10 ∧ R177 sl sx d M0 P 5 [some (vR (some l0)), some (vI l1)] [] (sI M l0 9 (0 : Int32)) from ⟨h.1, ?_⟩)
  replace h := h.2
  exact RN_k (callX_det _) 2 _ _ _ _ (show rtW q177 M0 (PI P) (some (vI l1)) (sI M l0 9 (0 : Int32)) from ⟨⟨_, rfl⟩, hM.1, hM.2, _, rfl, h⟩)
theorem c177 {sl : Nat} {sx : Nat → Int32} {d : Nat} {l0 : Nat} {l1 : Int32} {M : MM} {P : Int32 → MM → Prop} (h : w177 l0 l1 M P) : callX TBg sl sx (d + 1) 177 [vR (some l0), vI l1] M (PI P) :=
  cX (d := d + 0) q177 (false, tb177) rfl rfl rfl (t177_E l0 l1 M lenR h)
-- TwoLeashModel.load(I)I
abbrev q165 : MQ7 := (2, 1, 4, 10, 0, 0, 1)
abbrev R165 (sl : Nat) (sx : Nat → Int32) (d : Nat) (M0 : MM) (P : Int32 → MM → Prop) : Nat → LL → List VV → MM → Prop := RN 10 false (mS M0).length (mT M0) 0 0 sl sx (callX TBg sl sx (d + 4)) (rtW q165 M0 (PI P)) (as2 tb165)
def w165_128 : Nat → Nat → Int32 → MM → (Int32 → MM → Prop) → Prop
  | 0 => fun _ _ _ _ => False
  | n + 1 => fun l0 l3 M P => ((4 : Int32) ≤ l3 → (kd M l0 10 ∧ (kd M l0 10 ∧ (kd (sI M l0 5 (mI M l0 6)) l0 10 ∧ (kd (sI (sI M l0 5 (mI M l0 6)) l0 12 (0 : Int32)) l0 10 ∧ (kd (sI (sI M l0 5 (mI M l0 6)) l0 12 (0 : Int32)) l0 10 ∧ w177 l0 (mI (sI (sI M l0 5 (mI M l0 6)) l0 12 (0 : Int32)) l0 5) (sI (sI M l0 5 (mI M l0 6)) l0 12 (0 : Int32)) (fun r2 M1 => P r2 M1))))))) ∧ (¬ ((4 : Int32) ≤ l3) → (kd M l0 10 ∧ (kd M l0 10 ∧ (∃ a3, mR M l0 4 = some a3 ∧ (inb M a3 12 l3 ∧ (∃ a4, mR M l0 3 = some a4 ∧ (inb M a4 12 l3 ∧ (w165_128  n l0 (l3 + (1 : Int32)) (sL M a4 l3.toNatClampNeg (mL M a3 l3.toNatClampNeg)) P))))))))
theorem t165_128 {sl : Nat} {sx : Nat → Int32} {d : Nat} {M0 : MM} {P : Int32 → MM → Prop} (n : Nat) : ∀ (l0 : Nat) (l3 : Int32) (M : MM) (_ : lenO M0 M) (_ : w165_128  n l0 l3 M P), R165 sl sx d M0 P 128 [some (vR (some l0)), none, none, some (vI l3)] [] M := by
  induction n with
  | zero => intro l0 l3 M hM h; cases h
  | succ n ih =>
    intro l0 l3 M hM h
    refine RN_k (callX_det _) 3 _ _ _ _ (show ((4 : Int32) ≤ l3 → R165 sl sx d M0 P 151 [some (vR (some l0)), none, none, some (vI l3)] [] M) ∧ (¬ ((4 : Int32) ≤ l3) → R165 sl sx d M0 P 133 [some (vR (some l0)), none, none, some (vI l3)] [] M) from ⟨fun hc => ?_, fun hc => ?_⟩)
    · replace h := h.1 hc
      refine RN_k (callX_det _) 3 _ _ _ _ (show kd M l0 10 ∧ R165 sl sx d M0 P 156 [some (vR (some l0)), none, none, some (vI l3)] [vI (mI M l0 6), vR (some l0)] M from ⟨h.1, ?_⟩)
      replace h := h.2
      refine RN_k (callX_det _) 1 _ _ _ _ (show kd M l0 10 ∧ R165 sl sx d M0 P 159 [some (vR (some l0)), none, none, some (vI l3)] [] (sI M l0 5 (mI M l0 6)) from ⟨h.1, ?_⟩)
      replace h := h.2
      refine RN_k (callX_det _) 3 _ _ _ _ (show kd (sI M l0 5 (mI M l0 6)) l0 10 ∧ R165 sl sx d M0 P 164 [some (vR (some l0)), none, none, some (vI l3)] [] (sI (sI M l0 5 (mI M l0 6)) l0 12 (0 : Int32)) from ⟨h.1, ?_⟩)
      replace h := h.2
      refine RN_k (callX_det _) 3 _ _ _ _ (show kd (sI (sI M l0 5 (mI M l0 6)) l0 12 (0 : Int32)) l0 10 ∧ R165 sl sx d M0 P 169 [some (vR (some l0)), none, none, some (vI l3)] [vI (mI (sI (sI M l0 5 (mI M l0 6)) l0 12 (0 : Int32)) l0 5), vR (some l0)] (sI (sI M l0 5 (mI M l0 6)) l0 12 (0 : Int32)) from ⟨h.1, ?_⟩)
      replace h := h.2
      refine RN_k (callX_det _) 1 _ _ _ _ (show kd (sI (sI M l0 5 (mI M l0 6)) l0 12 (0 : Int32)) l0 10 ∧ callX TBg sl sx (d + 4) 177 [vR (some l0), vI (mI (sI (sI M l0 5 (mI M l0 6)) l0 12 (0 : Int32)) l0 5)] (sI (sI M l0 5 (mI M l0 6)) l0 12 (0 : Int32)) (fun v M9 => R165 sl sx d M0 P 172 [some (vR (some l0)), none, none, some (vI l3)] (pushO v []) M9) from ⟨h.1, ?_⟩)
      replace h := h.2
      refine callX_mono (callX_len (d := (d + 4)) rfl rfl rfl (c177 (d := d + 3) h)) ?_
      clear h
      rintro v9 M1 ⟨hl, r2, rfl, h⟩
      replace hM := lenT hM hl
      show R165 sl sx d M0 P 172 [some (vR (some l0)), none, none, some (vI l3)] [vI r2] M1
      exact RN_k (callX_det _) 1 _ _ _ _ (show rtW q165 M0 (PI P) (some (vI r2)) M1 from ⟨⟨_, rfl⟩, hM.1, hM.2, _, rfl, h⟩)
    · replace h := h.2 hc
      refine RN_k (callX_det _) 2 _ _ _ _ (show kd M l0 10 ∧ R165 sl sx d M0 P 137 [some (vR (some l0)), none, none, some (vI l3)] [vR (mR M l0 3)] M from ⟨h.1, ?_⟩)
      replace h := h.2
      refine RN_k (callX_det _) 3 _ _ _ _ (show kd M l0 10 ∧ R165 sl sx d M0 P 142 [some (vR (some l0)), none, none, some (vI l3)] [vR (mR M l0 4), vI l3, vR (mR M l0 3)] M from ⟨h.1, ?_⟩)
      replace h := h.2
      obtain ⟨a3, he, h⟩ := h
      refine RN_k (callX_det _) 1 _ _ _ _ (show R165 sl sx d M0 P 143 [some (vR (some l0)), none, none, some (vI l3)] [vI l3, vR (mR M l0 4), vI l3, vR (mR M l0 3)] M from ?_)
      rw [he]
      refine RN_k (callX_det _) 1 _ _ _ _ (show inb M a3 12 l3 ∧ R165 sl sx d M0 P 144 [some (vR (some l0)), none, none, some (vI l3)] [vL (mL M a3 l3.toNatClampNeg), vI l3, vR (mR M l0 3)] M from ⟨h.1, ?_⟩)
      replace h := h.2
      obtain ⟨a4, he, h⟩ := h
      rw [he]
      refine RN_k (callX_det _) 1 _ _ _ _ (show inb M a4 12 l3 ∧ R165 sl sx d M0 P 145 [some (vR (some l0)), none, none, some (vI l3)] [] (sL M a4 l3.toNatClampNeg (mL M a3 l3.toNatClampNeg)) from ⟨h.1, ?_⟩)
      replace h := h.2
      refine RN_k (callX_det _) 2 _ _ _ _ (show R165 sl sx d M0 P 128 [some (vR (some l0)), none, none, some (vI (l3 + (1 : Int32)))] [] (sL M a4 l3.toNatClampNeg (mL M a3 l3.toNatClampNeg)) from ?_)
      exact RN_weak (K := [some (vR (some l0)), none, none, some (vI (l3 + (1 : Int32)))]) (callX_det _) (show _ ∧ _ ∧ True from ⟨rfl, rfl, trivial⟩) (ih l0 (l3 + (1 : Int32)) _ hM h)
def w165_102 : Nat → Nat → Int32 → MM → (Int32 → MM → Prop) → Prop
  | 0 => fun _ _ _ _ => False
  | n + 1 => fun l0 l3 M P => ((68 : Int32) ≤ l3 → (∃ n2, w165_128  n2 l0 (0 : Int32) M P)) ∧ (¬ ((68 : Int32) ≤ l3) → (kd M l0 10 ∧ (kd M l0 10 ∧ (∃ a1, mR M l0 1 = some a1 ∧ (inb M a1 11 l3 ∧ (∃ a2, mR M l0 0 = some a2 ∧ (inb M a2 11 l3 ∧ (w165_102  n l0 (l3 + (1 : Int32)) (sI M a2 l3.toNatClampNeg (mI M a1 l3.toNatClampNeg)) P))))))))
theorem t165_102 {sl : Nat} {sx : Nat → Int32} {d : Nat} {M0 : MM} {P : Int32 → MM → Prop} (n : Nat) : ∀ (l0 : Nat) (l3 : Int32) (M : MM) (_ : lenO M0 M) (_ : w165_102  n l0 l3 M P), R165 sl sx d M0 P 102 [some (vR (some l0)), none, none, some (vI l3)] [] M := by
  induction n with
  | zero => intro l0 l3 M hM h; cases h
  | succ n ih =>
    intro l0 l3 M hM h
    refine RN_k (callX_det _) 3 _ _ _ _ (show ((68 : Int32) ≤ l3 → R165 sl sx d M0 P 126 [some (vR (some l0)), none, none, some (vI l3)] [] M) ∧ (¬ ((68 : Int32) ≤ l3) → R165 sl sx d M0 P 108 [some (vR (some l0)), none, none, some (vI l3)] [] M) from ⟨fun hc => ?_, fun hc => ?_⟩)
    · replace h := h.1 hc
      refine RN_k (callX_det _) 2 _ _ _ _ (show R165 sl sx d M0 P 128 [some (vR (some l0)), none, none, some (vI (0 : Int32))] [] M from ?_)
      obtain ⟨n2, h⟩ := h
      exact RN_weak (K := [some (vR (some l0)), none, none, some (vI (0 : Int32))]) (callX_det _) (show _ ∧ _ ∧ True from ⟨rfl, rfl, trivial⟩) (t165_128  n2 l0 (0 : Int32) _ hM h)
    · replace h := h.2 hc
      refine RN_k (callX_det _) 2 _ _ _ _ (show kd M l0 10 ∧ R165 sl sx d M0 P 112 [some (vR (some l0)), none, none, some (vI l3)] [vR (mR M l0 0)] M from ⟨h.1, ?_⟩)
      replace h := h.2
      refine RN_k (callX_det _) 3 _ _ _ _ (show kd M l0 10 ∧ R165 sl sx d M0 P 117 [some (vR (some l0)), none, none, some (vI l3)] [vR (mR M l0 1), vI l3, vR (mR M l0 0)] M from ⟨h.1, ?_⟩)
      replace h := h.2
      obtain ⟨a1, he, h⟩ := h
      refine RN_k (callX_det _) 1 _ _ _ _ (show R165 sl sx d M0 P 118 [some (vR (some l0)), none, none, some (vI l3)] [vI l3, vR (mR M l0 1), vI l3, vR (mR M l0 0)] M from ?_)
      rw [he]
      refine RN_k (callX_det _) 1 _ _ _ _ (show inb M a1 11 l3 ∧ R165 sl sx d M0 P 119 [some (vR (some l0)), none, none, some (vI l3)] [vI (mI M a1 l3.toNatClampNeg), vI l3, vR (mR M l0 0)] M from ⟨h.1, ?_⟩)
      replace h := h.2
      obtain ⟨a2, he, h⟩ := h
      rw [he]
      refine RN_k (callX_det _) 1 _ _ _ _ (show inb M a2 11 l3 ∧ R165 sl sx d M0 P 120 [some (vR (some l0)), none, none, some (vI l3)] [] (sI M a2 l3.toNatClampNeg (mI M a1 l3.toNatClampNeg)) from ⟨h.1, ?_⟩)
      replace h := h.2
      refine RN_k (callX_det _) 2 _ _ _ _ (show R165 sl sx d M0 P 102 [some (vR (some l0)), none, none, some (vI (l3 + (1 : Int32)))] [] (sI M a2 l3.toNatClampNeg (mI M a1 l3.toNatClampNeg)) from ?_)
      exact RN_weak (K := [some (vR (some l0)), none, none, some (vI (l3 + (1 : Int32)))]) (callX_det _) (show _ ∧ _ ∧ True from ⟨rfl, rfl, trivial⟩) (ih l0 (l3 + (1 : Int32)) _ hM h)
def w165_73 (l0 : Nat) (l2 : Int32) (M : MM) (P : Int32 → MM → Prop) : Prop := kd M l0 10 ∧ (kd M l0 10 ∧ (kd (sI M l0 10 (mI M l0 20)) l0 10 ∧ (kd (sI M l0 10 (mI M l0 20)) l0 10 ∧ ((l2 ≠ 0 → (∃ n2, w165_102  n2 l0 (0 : Int32) (sI (sI M l0 10 (mI M l0 20)) l0 11 (mI (sI M l0 10 (mI M l0 20)) l0 21)) P)) ∧ (¬ (l2 ≠ 0) → (kd (sI (sI M l0 10 (mI M l0 20)) l0 11 (mI (sI M l0 10 (mI M l0 20)) l0 21)) l0 10 ∧ w167 l0 (9 : Int32) (sI (sI M l0 10 (mI M l0 20)) l0 11 (mI (sI M l0 10 (mI M l0 20)) l0 21)) (fun r2 M1 => P r2 M1)))))))
theorem t165_73 {sl : Nat} {sx : Nat → Int32} {d : Nat} {M0 : MM} {P : Int32 → MM → Prop} (l0 : Nat) (l2 : Int32) (M : MM) (hM : lenO M0 M) (h : w165_73  l0 l2 M P) : R165 sl sx d M0 P 73 [some (vR (some l0)), none, some (vI l2), none] [] M := by
  refine RN_k (callX_det _) 3 _ _ _ _ (show kd M l0 10 ∧ R165 sl sx d M0 P 78 [some (vR (some l0)), none, some (vI l2), none] [vI (mI M l0 20), vR (some l0)] M from ⟨h.1, ?_⟩)
  replace h := h.2
  refine RN_k (callX_det _) 1 _ _ _ _ (show kd M l0 10 ∧ R165 sl sx d M0 P 81 [some (vR (some l0)), none, some (vI l2), none] [] (sI M l0 10 (mI M l0 20)) from ⟨h.1, ?_⟩)
  replace h := h.2
  refine RN_k (callX_det _) 3 _ _ _ _ (show kd (sI M l0 10 (mI M l0 20)) l0 10 ∧ R165 sl sx d M0 P 86 [some (vR (some l0)), none, some (vI l2), none] [vI (mI (sI M l0 10 (mI M l0 20)) l0 21), vR (some l0)] (sI M l0 10 (mI M l0 20)) from ⟨h.1, ?_⟩)
  replace h := h.2
  refine RN_k (callX_det _) 1 _ _ _ _ (show kd (sI M l0 10 (mI M l0 20)) l0 10 ∧ R165 sl sx d M0 P 89 [some (vR (some l0)), none, some (vI l2), none] [] (sI (sI M l0 10 (mI M l0 20)) l0 11 (mI (sI M l0 10 (mI M l0 20)) l0 21)) from ⟨h.1, ?_⟩)
  replace h := h.2
  refine RN_k (callX_det _) 2 _ _ _ _ (show (l2 ≠ 0 → R165 sl sx d M0 P 100 [some (vR (some l0)), none, some (vI l2), none] [] (sI (sI M l0 10 (mI M l0 20)) l0 11 (mI (sI M l0 10 (mI M l0 20)) l0 21))) ∧ (¬ (l2 ≠ 0) → R165 sl sx d M0 P 93 [some (vR (some l0)), none, some (vI l2), none] [] (sI (sI M l0 10 (mI M l0 20)) l0 11 (mI (sI M l0 10 (mI M l0 20)) l0 21))) from ⟨fun hc => ?_, fun hc => ?_⟩)
  · replace h := h.1 hc
    refine RN_k (callX_det _) 2 _ _ _ _ (show R165 sl sx d M0 P 102 [some (vR (some l0)), none, some (vI l2), some (vI (0 : Int32))] [] (sI (sI M l0 10 (mI M l0 20)) l0 11 (mI (sI M l0 10 (mI M l0 20)) l0 21)) from ?_)
    obtain ⟨n2, h⟩ := h
    exact RN_weak (K := [some (vR (some l0)), none, none, some (vI (0 : Int32))]) (callX_det _) (show _ ∧ _ ∧ True from ⟨rfl, rfl, trivial⟩) (t165_102  n2 l0 (0 : Int32) _ hM h)
  · replace h := h.2 hc
    refine RN_k (callX_det _) 3 _ _ _ _ (show kd (sI (sI M l0 10 (mI M l0 20)) l0 11 (mI (sI M l0 10 (mI M l0 20)) l0 21)) l0 10 ∧ callX TBg sl sx (d + 4) 167 [vR (some l0), vI (9 : Int32)] (sI (sI M l0 10 (mI M l0 20)) l0 11 (mI (sI M l0 10 (mI M l0 20)) l0 21)) (fun v M9 => R165 sl sx d M0 P 99 [some (vR (some l0)), none, some (vI l2), none] (pushO v []) M9) from ⟨h.1, ?_⟩)
    replace h := h.2
    refine callX_mono (callX_len (d := (d + 4)) rfl rfl rfl (c167 (d := d + 3) h)) ?_
    clear h
    rintro v9 M1 ⟨hl, r2, rfl, h⟩
    replace hM := lenT hM hl
    show R165 sl sx d M0 P 99 [some (vR (some l0)), none, some (vI l2), none] [vI r2] M1
    exact RN_k (callX_det _) 1 _ _ _ _ (show rtW q165 M0 (PI P) (some (vI r2)) M1 from ⟨⟨_, rfl⟩, hM.1, hM.2, _, rfl, h⟩)
def w165_54 : Nat → Nat → Int32 → MM → (Int32 → MM → Prop) → Prop
  | 0 => fun _ _ _ _ => False
  | n + 1 => fun l0 l2 M P => (l2 = 0 → (w165_73  l0 l2 M P)) ∧ (¬ (l2 = 0) → (kd M l0 10 ∧ (((mI M l0 18) = 0 → (w165_73  l0 l2 M P)) ∧ (¬ ((mI M l0 18) = 0) → (kd M l0 10 ∧ w172 l0 M (fun r2 M1 => w165_54  n l0 r2 M1 P))))))
theorem t165_54 {sl : Nat} {sx : Nat → Int32} {d : Nat} {M0 : MM} {P : Int32 → MM → Prop} (n : Nat) : ∀ (l0 : Nat) (l2 : Int32) (M : MM) (_ : lenO M0 M) (_ : w165_54  n l0 l2 M P), R165 sl sx d M0 P 54 [some (vR (some l0)), none, some (vI l2), none] [] M := by
  induction n with
  | zero => intro l0 l2 M hM h; cases h
  | succ n ih =>
    intro l0 l2 M hM h
    refine RN_k (callX_det _) 2 _ _ _ _ (show (l2 = 0 → R165 sl sx d M0 P 73 [some (vR (some l0)), none, some (vI l2), none] [] M) ∧ (¬ (l2 = 0) → R165 sl sx d M0 P 58 [some (vR (some l0)), none, some (vI l2), none] [] M) from ⟨fun hc => ?_, fun hc => ?_⟩)
    · replace h := h.1 hc
      exact RN_weak (K := [some (vR (some l0)), none, some (vI l2), none]) (callX_det _) (show _ ∧ _ ∧ True from ⟨rfl, rfl, trivial⟩) (t165_73  l0 l2 _ hM h)
    · replace h := h.2 hc
      refine RN_k (callX_det _) 2 _ _ _ _ (show kd M l0 10 ∧ R165 sl sx d M0 P 62 [some (vR (some l0)), none, some (vI l2), none] [vI (mI M l0 18)] M from ⟨h.1, ?_⟩)
      replace h := h.2
      refine RN_k (callX_det _) 1 _ _ _ _ (show ((mI M l0 18) = 0 → R165 sl sx d M0 P 73 [some (vR (some l0)), none, some (vI l2), none] [] M) ∧ (¬ ((mI M l0 18) = 0) → R165 sl sx d M0 P 65 [some (vR (some l0)), none, some (vI l2), none] [] M) from ⟨fun hc => ?_, fun hc => ?_⟩)
      · replace h := h.1 hc
        exact RN_weak (K := [some (vR (some l0)), none, some (vI l2), none]) (callX_det _) (show _ ∧ _ ∧ True from ⟨rfl, rfl, trivial⟩) (t165_73  l0 l2 _ hM h)
      · replace h := h.2 hc
        refine RN_k (callX_det _) 2 _ _ _ _ (show kd M l0 10 ∧ callX TBg sl sx (d + 4) 172 [vR (some l0)] M (fun v M9 => R165 sl sx d M0 P 69 [some (vR (some l0)), none, some (vI l2), none] (pushO v []) M9) from ⟨h.1, ?_⟩)
        replace h := h.2
        refine callX_mono (callX_len (d := (d + 4)) rfl rfl rfl (c172 (d := d) h)) ?_
        clear h
        rintro v9 M1 ⟨hl, r2, rfl, h⟩
        replace hM := lenT hM hl
        show R165 sl sx d M0 P 69 [some (vR (some l0)), none, some (vI l2), none] [vI r2] M1
        refine RN_k (callX_det _) 2 _ _ _ _ (show R165 sl sx d M0 P 54 [some (vR (some l0)), none, some (vI r2), none] [] M1 from ?_)
        exact RN_weak (K := [some (vR (some l0)), none, some (vI r2), none]) (callX_det _) (show _ ∧ _ ∧ True from ⟨rfl, rfl, trivial⟩) (ih l0 r2 _ hM h)
def w165 (l0 : Nat) (l1 : Int32) (M : MM) (P : Int32 → MM → Prop) : Prop := kd M l0 10 ∧ (w166 l1 (0 : Int32) (mI M l0 8) M (fun r2 M1 => (r2 ≠ 0 → (kd M1 l0 10 ∧ (kd (sI M1 l0 15 l1) l0 10 ∧ (kd (sI (sI M1 l0 15 l1) l0 8 (0 : Int32)) l0 10 ∧ (kd (sI (sI (sI M1 l0 15 l1) l0 8 (0 : Int32)) l0 17 (0 : Int32)) l0 10 ∧ (kd (sI (sI (sI (sI M1 l0 15 l1) l0 8 (0 : Int32)) l0 17 (0 : Int32)) l0 20 (0 : Int32)) l0 10 ∧ (kd (sI (sI (sI (sI (sI M1 l0 15 l1) l0 8 (0 : Int32)) l0 17 (0 : Int32)) l0 20 (0 : Int32)) l0 21 (-1 : Int32)) l0 10 ∧ (kd (sI (sI (sI (sI (sI (sI M1 l0 15 l1) l0 8 (0 : Int32)) l0 17 (0 : Int32)) l0 20 (0 : Int32)) l0 21 (-1 : Int32)) l0 6 (0 : Int32)) l0 10 ∧ w168 l0 (sI (sI (sI (sI (sI (sI M1 l0 15 l1) l0 8 (0 : Int32)) l0 17 (0 : Int32)) l0 20 (0 : Int32)) l0 21 (-1 : Int32)) l0 6 (0 : Int32)) (fun M3 => ∃ n2, w165_54  n2 l0 (1 : Int32) M3 P))))))))) ∧ (¬ (r2 ≠ 0) → (kd M1 l0 10 ∧ w167 l0 (1 : Int32) M1 (fun r5 M4 => P r5 M4)))))
theorem t165_E {sl : Nat} {sx : Nat → Int32} {d : Nat} {M0 : MM} {P : Int32 → MM → Prop} (l0 : Nat) (l1 : Int32) (M : MM) (hM : lenO M0 M) (h : w165  l0 l1 M P) : R165 sl sx d M0 P 0 [some (vR (some l0)), some (vI l1), none, none] [] M := by
  refine RN_k (callX_det _) 4 _ _ _ _ (show kd M l0 10 ∧ R165 sl sx d M0 P 6 [some (vR (some l0)), some (vI l1), none, none] [vI (mI M l0 8), vI (0 : Int32), vI l1] M from ⟨h.1, ?_⟩)
  replace h := h.2
  refine RN_k (callX_det _) 1 _ _ _ _ (show callX TBg sl sx (d + 4) 166 [vI l1, vI (0 : Int32), vI (mI M l0 8)] M (fun v M9 => R165 sl sx d M0 P 9 [some (vR (some l0)), some (vI l1), none, none] (pushO v []) M9) from ?_)
  refine callX_mono (callX_len (d := (d + 4)) rfl rfl rfl (c166 (d := d + 3) h)) ?_
  clear h
  rintro v9 M1 ⟨hl, r2, rfl, h⟩
  replace hM := lenT hM hl
  show R165 sl sx d M0 P 9 [some (vR (some l0)), some (vI l1), none, none] [vI r2] M1
  refine RN_k (callX_det _) 1 _ _ _ _ (show (r2 ≠ 0 → R165 sl sx d M0 P 18 [some (vR (some l0)), some (vI l1), none, none] [] M1) ∧ (¬ (r2 ≠ 0) → R165 sl sx d M0 P 12 [some (vR (some l0)), some (vI l1), none, none] [] M1) from ⟨fun hc => ?_, fun hc => ?_⟩)
  · replace h := h.1 hc
    refine RN_k (callX_det _) 3 _ _ _ _ (show kd M1 l0 10 ∧ R165 sl sx d M0 P 23 [some (vR (some l0)), some (vI l1), none, none] [] (sI M1 l0 15 l1) from ⟨h.1, ?_⟩)
    replace h := h.2
    refine RN_k (callX_det _) 3 _ _ _ _ (show kd (sI M1 l0 15 l1) l0 10 ∧ R165 sl sx d M0 P 28 [some (vR (some l0)), some (vI l1), none, none] [] (sI (sI M1 l0 15 l1) l0 8 (0 : Int32)) from ⟨h.1, ?_⟩)
    replace h := h.2
    refine RN_k (callX_det _) 3 _ _ _ _ (show kd (sI (sI M1 l0 15 l1) l0 8 (0 : Int32)) l0 10 ∧ R165 sl sx d M0 P 33 [some (vR (some l0)), some (vI l1), none, none] [] (sI (sI (sI M1 l0 15 l1) l0 8 (0 : Int32)) l0 17 (0 : Int32)) from ⟨h.1, ?_⟩)
    replace h := h.2
    refine RN_k (callX_det _) 3 _ _ _ _ (show kd (sI (sI (sI M1 l0 15 l1) l0 8 (0 : Int32)) l0 17 (0 : Int32)) l0 10 ∧ R165 sl sx d M0 P 38 [some (vR (some l0)), some (vI l1), none, none] [] (sI (sI (sI (sI M1 l0 15 l1) l0 8 (0 : Int32)) l0 17 (0 : Int32)) l0 20 (0 : Int32)) from ⟨h.1, ?_⟩)
    replace h := h.2
    refine RN_k (callX_det _) 3 _ _ _ _ (show kd (sI (sI (sI (sI M1 l0 15 l1) l0 8 (0 : Int32)) l0 17 (0 : Int32)) l0 20 (0 : Int32)) l0 10 ∧ R165 sl sx d M0 P 43 [some (vR (some l0)), some (vI l1), none, none] [] (sI (sI (sI (sI (sI M1 l0 15 l1) l0 8 (0 : Int32)) l0 17 (0 : Int32)) l0 20 (0 : Int32)) l0 21 (-1 : Int32)) from ⟨h.1, ?_⟩)
    replace h := h.2
    refine RN_k (callX_det _) 3 _ _ _ _ (show kd (sI (sI (sI (sI (sI M1 l0 15 l1) l0 8 (0 : Int32)) l0 17 (0 : Int32)) l0 20 (0 : Int32)) l0 21 (-1 : Int32)) l0 10 ∧ R165 sl sx d M0 P 48 [some (vR (some l0)), some (vI l1), none, none] [] (sI (sI (sI (sI (sI (sI M1 l0 15 l1) l0 8 (0 : Int32)) l0 17 (0 : Int32)) l0 20 (0 : Int32)) l0 21 (-1 : Int32)) l0 6 (0 : Int32)) from ⟨h.1, ?_⟩)
    replace h := h.2
    refine RN_k (callX_det _) 2 _ _ _ _ (show kd (sI (sI (sI (sI (sI (sI M1 l0 15 l1) l0 8 (0 : Int32)) l0 17 (0 : Int32)) l0 20 (0 : Int32)) l0 21 (-1 : Int32)) l0 6 (0 : Int32)) l0 10 ∧ callX TBg sl sx (d + 4) 168 [vR (some l0)] (sI (sI (sI (sI (sI (sI M1 l0 15 l1) l0 8 (0 : Int32)) l0 17 (0 : Int32)) l0 20 (0 : Int32)) l0 21 (-1 : Int32)) l0 6 (0 : Int32)) (fun v M9 => R165 sl sx d M0 P 52 [some (vR (some l0)), some (vI l1), none, none] (pushO v []) M9) from ⟨h.1, ?_⟩)
    replace h := h.2
    refine callX_mono (callX_len (d := (d + 4)) rfl rfl rfl (c168 (d := d + 2) h)) ?_
    clear h
    rintro v9 M3 ⟨hl, rfl, h⟩
    replace hM := lenT hM hl
    show R165 sl sx d M0 P 52 [some (vR (some l0)), some (vI l1), none, none] [] M3
    refine RN_k (callX_det _) 2 _ _ _ _ (show R165 sl sx d M0 P 54 [some (vR (some l0)), some (vI l1), some (vI (1 : Int32)), none] [] M3 from ?_)
    obtain ⟨n2, h⟩ := h
    exact RN_weak (K := [some (vR (some l0)), none, some (vI (1 : Int32)), none]) (callX_det _) (show _ ∧ _ ∧ True from ⟨rfl, rfl, trivial⟩) (t165_54  n2 l0 (1 : Int32) _ hM h)
  · replace h := h.2 hc
    refine RN_k (callX_det _) 3 _ _ _ _ (show kd M1 l0 10 ∧ callX TBg sl sx (d + 4) 167 [vR (some l0), vI (1 : Int32)] M1 (fun v M9 => R165 sl sx d M0 P 17 [some (vR (some l0)), some (vI l1), none, none] (pushO v []) M9) from ⟨h.1, ?_⟩)
    replace h := h.2
    refine callX_mono (callX_len (d := (d + 4)) rfl rfl rfl (c167 (d := d + 3) h)) ?_
    clear h
    rintro v9 M4 ⟨hl, r5, rfl, h⟩
    replace hM := lenT hM hl
    show R165 sl sx d M0 P 17 [some (vR (some l0)), some (vI l1), none, none] [vI r5] M4
    exact RN_k (callX_det _) 1 _ _ _ _ (show rtW q165 M0 (PI P) (some (vI r5)) M4 from ⟨⟨_, rfl⟩, hM.1, hM.2, _, rfl, h⟩)
theorem c165 {sl : Nat} {sx : Nat → Int32} {d : Nat} {l0 : Nat} {l1 : Int32} {M : MM} {P : Int32 → MM → Prop} (h : w165 l0 l1 M P) : callX TBg sl sx (d + 5) 165 [vR (some l0), vI l1] M (PI P) :=
  cX (d := d + 4) q165 (false, tb165) rfl rfl rfl (t165_E l0 l1 M lenR h)
-- TwoLeashModel.fault(I)I
abbrev q178 : MQ7 := (2, 1, 2, 10, 0, 0, 1)
abbrev R178 (sl : Nat) (sx : Nat → Int32) (d : Nat) (M0 : MM) (P : Int32 → MM → Prop) : Nat → LL → List VV → MM → Prop := RN 10 false (mS M0).length (mT M0) 0 0 sl sx (callX TBg sl sx (d + 0)) (rtW q178 M0 (PI P)) (as2 tb178)
def w178_24 (s0 : Int32) (M : MM) (P : Int32 → MM → Prop) : Prop := P s0 M
theorem t178_24 {sl : Nat} {sx : Nat → Int32} {d : Nat} {M0 : MM} {P : Int32 → MM → Prop} (s0 : Int32) (M : MM) (hM : lenO M0 M) (h : w178_24  s0 M P) : R178 sl sx d M0 P 24 [none, none] [vI s0] M := by
  exact RN_k (callX_det _) 1 _ _ _ _ (show rtW q178 M0 (PI P) (some (vI s0)) M from ⟨⟨_, rfl⟩, hM.1, hM.2, _, rfl, h⟩)
def w178 (l0 : Nat) (l1 : Int32) (M : MM) (P : Int32 → MM → Prop) : Prop := (l1 ≠ 0 → ((l1 ≠ (1 : Int32) → (w178_24  (-1 : Int32) M P)) ∧ (¬ (l1 ≠ (1 : Int32)) → (kd M l0 10 ∧ (w178_24  (mI M l0 11) M P))))) ∧ (¬ (l1 ≠ 0) → (kd M l0 10 ∧ (w178_24  (mI M l0 10) M P)))
theorem t178_E {sl : Nat} {sx : Nat → Int32} {d : Nat} {M0 : MM} {P : Int32 → MM → Prop} (l0 : Nat) (l1 : Int32) (M : MM) (hM : lenO M0 M) (h : w178  l0 l1 M P) : R178 sl sx d M0 P 0 [some (vR (some l0)), some (vI l1)] [] M := by
  refine RN_k (callX_det _) 2 _ _ _ _ (show (l1 ≠ 0 → R178 sl sx d M0 P 11 [some (vR (some l0)), some (vI l1)] [] M) ∧ (¬ (l1 ≠ 0) → R178 sl sx d M0 P 4 [some (vR (some l0)), some (vI l1)] [] M) from ⟨fun hc => ?_, fun hc => ?_⟩)
  · replace h := h.1 hc
    refine RN_k (callX_det _) 3 _ _ _ _ (show (l1 ≠ (1 : Int32) → R178 sl sx d M0 P 23 [some (vR (some l0)), some (vI l1)] [] M) ∧ (¬ (l1 ≠ (1 : Int32)) → R178 sl sx d M0 P 16 [some (vR (some l0)), some (vI l1)] [] M) from ⟨fun hc => ?_, fun hc => ?_⟩)
    · replace h := h.1 hc
      refine RN_k (callX_det _) 1 _ _ _ _ (show R178 sl sx d M0 P 24 [some (vR (some l0)), some (vI l1)] [vI (-1 : Int32)] M from ?_)
      exact RN_weak (K := [none, none]) (callX_det _) (show True from trivial) (t178_24  (-1 : Int32) _ hM h)
    · replace h := h.2 hc
      refine RN_k (callX_det _) 2 _ _ _ _ (show kd M l0 10 ∧ R178 sl sx d M0 P 20 [some (vR (some l0)), some (vI l1)] [vI (mI M l0 11)] M from ⟨h.1, ?_⟩)
      replace h := h.2
      refine RN_k (callX_det _) 1 _ _ _ _ (show R178 sl sx d M0 P 24 [some (vR (some l0)), some (vI l1)] [vI (mI M l0 11)] M from ?_)
      exact RN_weak (K := [none, none]) (callX_det _) (show True from trivial) (t178_24  (mI M l0 11) _ hM h)
  · replace h := h.2 hc
    refine RN_k (callX_det _) 2 _ _ _ _ (show kd M l0 10 ∧ R178 sl sx d M0 P 8 [some (vR (some l0)), some (vI l1)] [vI (mI M l0 10)] M from ⟨h.1, ?_⟩)
    replace h := h.2
    refine RN_k (callX_det _) 1 _ _ _ _ (show R178 sl sx d M0 P 24 [some (vR (some l0)), some (vI l1)] [vI (mI M l0 10)] M from ?_)
    exact RN_weak (K := [none, none]) (callX_det _) (show True from trivial) (t178_24  (mI M l0 10) _ hM h)
theorem c178 {sl : Nat} {sx : Nat → Int32} {d : Nat} {l0 : Nat} {l1 : Int32} {M : MM} {P : Int32 → MM → Prop} (h : w178 l0 l1 M P) : callX TBg sl sx (d + 1) 178 [vR (some l0), vI l1] M (PI P) :=
  cX (d := d + 0) q178 (false, tb178) rfl rfl rfl (t178_E l0 l1 M lenR h)
-- TwoLeashModel.points(I)I
abbrev q180 : MQ7 := (2, 1, 2, 10, 0, 0, 1)
abbrev R180 (sl : Nat) (sx : Nat → Int32) (d : Nat) (M0 : MM) (P : Int32 → MM → Prop) : Nat → LL → List VV → MM → Prop := RN 10 false (mS M0).length (mT M0) 0 0 sl sx (callX TBg sl sx (d + 1)) (rtW q180 M0 (PI P)) (as2 tb180)
def w180 (l0 : Nat) (l1 : Int32) (M : MM) (P : Int32 → MM → Prop) : Prop := kd M l0 10 ∧ (w174 l1 M (fun r2 M1 => ∃ a3, mR M l0 0 = some a3 ∧ (inb M1 a3 11 r2 ∧ (P (mI M1 a3 r2.toNatClampNeg) M1))))
theorem t180_E {sl : Nat} {sx : Nat → Int32} {d : Nat} {M0 : MM} {P : Int32 → MM → Prop} (l0 : Nat) (l1 : Int32) (M : MM) (hM : lenO M0 M) (h : w180  l0 l1 M P) : R180 sl sx d M0 P 0 [some (vR (some l0)), some (vI l1)] [] M := by
  refine RN_k (callX_det _) 2 _ _ _ _ (show kd M l0 10 ∧ R180 sl sx d M0 P 4 [some (vR (some l0)), some (vI l1)] [vR (mR M l0 0)] M from ⟨h.1, ?_⟩)
  replace h := h.2
  refine RN_k (callX_det _) 2 _ _ _ _ (show callX TBg sl sx (d + 1) 174 [vI l1] M (fun v M9 => R180 sl sx d M0 P 8 [some (vR (some l0)), some (vI l1)] (pushO v [vR (mR M l0 0)]) M9) from ?_)
  refine callX_mono (callX_len (d := (d + 1)) rfl rfl rfl (c174 (d := d) h)) ?_
  clear h
  rintro v9 M1 ⟨hl, r2, rfl, h⟩
  replace hM := lenT hM hl
  show R180 sl sx d M0 P 8 [some (vR (some l0)), some (vI l1)] [vI r2, vR (mR M l0 0)] M1
  obtain ⟨a3, he, h⟩ := h
  rw [he]
  refine RN_k (callX_det _) 1 _ _ _ _ (show inb M1 a3 11 r2 ∧ R180 sl sx d M0 P 9 [some (vR (some l0)), some (vI l1)] [vI (mI M1 a3 r2.toNatClampNeg)] M1 from ⟨h.1, ?_⟩)
  replace h := h.2
  exact RN_k (callX_det _) 1 _ _ _ _ (show rtW q180 M0 (PI P) (some (vI (mI M1 a3 r2.toNatClampNeg))) M1 from ⟨⟨_, rfl⟩, hM.1, hM.2, _, rfl, h⟩)
theorem c180 {sl : Nat} {sx : Nat → Int32} {d : Nat} {l0 : Nat} {l1 : Int32} {M : MM} {P : Int32 → MM → Prop} (h : w180 l0 l1 M P) : callX TBg sl sx (d + 2) 180 [vR (some l0), vI l1] M (PI P) :=
  cX (d := d + 1) q180 (false, tb180) rfl rfl rfl (t180_E l0 l1 M lenR h)
-- TwoLeashModel.many(I)I
abbrev q179 : MQ7 := (2, 1, 4, 10, 0, 0, 1)
abbrev R179 (sl : Nat) (sx : Nat → Int32) (d : Nat) (M0 : MM) (P : Int32 → MM → Prop) : Nat → LL → List VV → MM → Prop := RN 10 false (mS M0).length (mT M0) 0 0 sl sx (callX TBg sl sx (d + 2)) (rtW q179 M0 (PI P)) (as2 tb179)
def w179_66 (s0 : Option Nat) (s1 : Int32) (M : MM) (P : Int32 → MM → Prop) : Prop := ∃ a1, s0 = some a1 ∧ (kd M a1 10 ∧ w177 a1 s1 M (fun r3 M2 => P r3 M2))
theorem t179_66 {sl : Nat} {sx : Nat → Int32} {d : Nat} {M0 : MM} {P : Int32 → MM → Prop} (s0 : Option Nat) (s1 : Int32) (M : MM) (hM : lenO M0 M) (h : w179_66  s0 s1 M P) : R179 sl sx d M0 P 66 [none, none, none, none] [vI s1, vR s0] M := by
  obtain ⟨a1, he, h⟩ := h
  subst he
  refine RN_k (callX_det _) 1 _ _ _ _ (show kd M a1 10 ∧ callX TBg sl sx (d + 2) 177 [vR (some a1), vI s1] M (fun v M9 => R179 sl sx d M0 P 69 [none, none, none, none] (pushO v []) M9) from ⟨h.1, ?_⟩)
  replace h := h.2
  refine callX_mono (callX_len (d := (d + 2)) rfl rfl rfl (c177 (d := d + 1) h)) ?_
  clear h
  rintro v9 M2 ⟨hl, r3, rfl, h⟩
  replace hM := lenT hM hl
  show R179 sl sx d M0 P 69 [none, none, none, none] [vI r3] M2
  exact RN_k (callX_det _) 1 _ _ _ _ (show rtW q179 M0 (PI P) (some (vI r3)) M2 from ⟨⟨_, rfl⟩, hM.1, hM.2, _, rfl, h⟩)
def w179_19 : Nat → Nat → Int32 → Int32 → Int32 → MM → (Int32 → MM → Prop) → Prop
  | 0 => fun _ _ _ _ _ _ => False
  | n + 1 => fun l0 l1 l2 l3 M P => kd M l0 10 ∧ (((mI M l0 5) ≤ l3 → ((l1 ≠ 0 → ((l1 ≠ (1 : Int32) → (kd M l0 10 ∧ (w179_66  (some l0) (mI M l0 12) M P))) ∧ (¬ (l1 ≠ (1 : Int32)) → (w179_66  (some l0) l2 M P)))) ∧ (¬ (l1 ≠ 0) → (kd M l0 10 ∧ (w179_66  (some l0) (mI M l0 5) M P))))) ∧ (¬ ((mI M l0 5) ≤ l3) → (kd M l0 10 ∧ w180 l0 l3 M (fun r2 M1 => w179_19  n l0 l1 (l2 + r2) (l3 + (1 : Int32)) M1 P))))
theorem t179_19 {sl : Nat} {sx : Nat → Int32} {d : Nat} {M0 : MM} {P : Int32 → MM → Prop} (n : Nat) : ∀ (l0 : Nat) (l1 : Int32) (l2 : Int32) (l3 : Int32) (M : MM) (_ : lenO M0 M) (_ : w179_19  n l0 l1 l2 l3 M P), R179 sl sx d M0 P 19 [some (vR (some l0)), some (vI l1), some (vI l2), some (vI l3)] [] M := by
  induction n with
  | zero => intro l0 l1 l2 l3 M hM h; cases h
  | succ n ih =>
    intro l0 l1 l2 l3 M hM h
    refine RN_k (callX_det _) 3 _ _ _ _ (show kd M l0 10 ∧ R179 sl sx d M0 P 24 [some (vR (some l0)), some (vI l1), some (vI l2), some (vI l3)] [vI (mI M l0 5), vI l3] M from ⟨h.1, ?_⟩)
    replace h := h.2
    refine RN_k (callX_det _) 1 _ _ _ _ (show ((mI M l0 5) ≤ l3 → R179 sl sx d M0 P 41 [some (vR (some l0)), some (vI l1), some (vI l2), some (vI l3)] [] M) ∧ (¬ ((mI M l0 5) ≤ l3) → R179 sl sx d M0 P 27 [some (vR (some l0)), some (vI l1), some (vI l2), some (vI l3)] [] M) from ⟨fun hc => ?_, fun hc => ?_⟩)
    · replace h := h.1 hc
      refine RN_k (callX_det _) 3 _ _ _ _ (show (l1 ≠ 0 → R179 sl sx d M0 P 53 [some (vR (some l0)), some (vI l1), some (vI l2), some (vI l3)] [vR (some l0)] M) ∧ (¬ (l1 ≠ 0) → R179 sl sx d M0 P 46 [some (vR (some l0)), some (vI l1), some (vI l2), some (vI l3)] [vR (some l0)] M) from ⟨fun hc => ?_, fun hc => ?_⟩)
      · replace h := h.1 hc
        refine RN_k (callX_det _) 3 _ _ _ _ (show (l1 ≠ (1 : Int32) → R179 sl sx d M0 P 62 [some (vR (some l0)), some (vI l1), some (vI l2), some (vI l3)] [vR (some l0)] M) ∧ (¬ (l1 ≠ (1 : Int32)) → R179 sl sx d M0 P 58 [some (vR (some l0)), some (vI l1), some (vI l2), some (vI l3)] [vR (some l0)] M) from ⟨fun hc => ?_, fun hc => ?_⟩)
        · replace h := h.1 hc
          refine RN_k (callX_det _) 2 _ _ _ _ (show kd M l0 10 ∧ R179 sl sx d M0 P 66 [some (vR (some l0)), some (vI l1), some (vI l2), some (vI l3)] [vI (mI M l0 12), vR (some l0)] M from ⟨h.1, ?_⟩)
          replace h := h.2
          exact RN_weak (K := [none, none, none, none]) (callX_det _) (show True from trivial) (t179_66  (some l0) (mI M l0 12) _ hM h)
        · replace h := h.2 hc
          refine RN_k (callX_det _) 2 _ _ _ _ (show R179 sl sx d M0 P 66 [some (vR (some l0)), some (vI l1), some (vI l2), some (vI l3)] [vI l2, vR (some l0)] M from ?_)
          exact RN_weak (K := [none, none, none, none]) (callX_det _) (show True from trivial) (t179_66  (some l0) l2 _ hM h)
      · replace h := h.2 hc
        refine RN_k (callX_det _) 2 _ _ _ _ (show kd M l0 10 ∧ R179 sl sx d M0 P 50 [some (vR (some l0)), some (vI l1), some (vI l2), some (vI l3)] [vI (mI M l0 5), vR (some l0)] M from ⟨h.1, ?_⟩)
        replace h := h.2
        refine RN_k (callX_det _) 1 _ _ _ _ (show R179 sl sx d M0 P 66 [some (vR (some l0)), some (vI l1), some (vI l2), some (vI l3)] [vI (mI M l0 5), vR (some l0)] M from ?_)
        exact RN_weak (K := [none, none, none, none]) (callX_det _) (show True from trivial) (t179_66  (some l0) (mI M l0 5) _ hM h)
    · replace h := h.2 hc
      refine RN_k (callX_det _) 4 _ _ _ _ (show kd M l0 10 ∧ callX TBg sl sx (d + 2) 180 [vR (some l0), vI l3] M (fun v M9 => R179 sl sx d M0 P 33 [some (vR (some l0)), some (vI l1), some (vI l2), some (vI l3)] (pushO v [vI l2]) M9) from ⟨h.1, ?_⟩)
      replace h := h.2
      refine callX_mono (callX_len (d := (d + 2)) rfl rfl rfl (c180 (d := d) h)) ?_
      clear h
      rintro v9 M1 ⟨hl, r2, rfl, h⟩
      replace hM := lenT hM hl
      show R179 sl sx d M0 P 33 [some (vR (some l0)), some (vI l1), some (vI l2), some (vI l3)] [vI r2, vI l2] M1
      refine RN_k (callX_det _) 4 _ _ _ _ (show R179 sl sx d M0 P 19 [some (vR (some l0)), some (vI l1), some (vI (l2 + r2)), some (vI (l3 + (1 : Int32)))] [] M1 from ?_)
      exact RN_weak (K := [some (vR (some l0)), some (vI l1), some (vI (l2 + r2)), some (vI (l3 + (1 : Int32)))]) (callX_det _) (show _ ∧ _ ∧ _ ∧ _ ∧ True from ⟨rfl, rfl, rfl, rfl, trivial⟩) (ih l0 l1 (l2 + r2) (l3 + (1 : Int32)) _ hM h)
def w179 (l0 : Nat) (l1 : Int32) (M : MM) (P : Int32 → MM → Prop) : Prop := w166 l1 (0 : Int32) (2 : Int32) M (fun r2 M1 => (r2 ≠ 0 → (∃ n2, w179_19  n2 l0 l1 (0 : Int32) (0 : Int32) M1 P)) ∧ (¬ (r2 ≠ 0) → (kd M1 l0 10 ∧ w167 l0 (1 : Int32) M1 (fun r4 M3 => P r4 M3))))
theorem t179_E {sl : Nat} {sx : Nat → Int32} {d : Nat} {M0 : MM} {P : Int32 → MM → Prop} (l0 : Nat) (l1 : Int32) (M : MM) (hM : lenO M0 M) (h : w179  l0 l1 M P) : R179 sl sx d M0 P 0 [some (vR (some l0)), some (vI l1), none, none] [] M := by
  refine RN_k (callX_det _) 4 _ _ _ _ (show callX TBg sl sx (d + 2) 166 [vI l1, vI (0 : Int32), vI (2 : Int32)] M (fun v M9 => R179 sl sx d M0 P 6 [some (vR (some l0)), some (vI l1), none, none] (pushO v []) M9) from ?_)
  refine callX_mono (callX_len (d := (d + 2)) rfl rfl rfl (c166 (d := d + 1) h)) ?_
  clear h
  rintro v9 M1 ⟨hl, r2, rfl, h⟩
  replace hM := lenT hM hl
  show R179 sl sx d M0 P 6 [some (vR (some l0)), some (vI l1), none, none] [vI r2] M1
  refine RN_k (callX_det _) 1 _ _ _ _ (show (r2 ≠ 0 → R179 sl sx d M0 P 15 [some (vR (some l0)), some (vI l1), none, none] [] M1) ∧ (¬ (r2 ≠ 0) → R179 sl sx d M0 P 9 [some (vR (some l0)), some (vI l1), none, none] [] M1) from ⟨fun hc => ?_, fun hc => ?_⟩)
  · replace h := h.1 hc
    refine RN_k (callX_det _) 4 _ _ _ _ (show R179 sl sx d M0 P 19 [some (vR (some l0)), some (vI l1), some (vI (0 : Int32)), some (vI (0 : Int32))] [] M1 from ?_)
    obtain ⟨n2, h⟩ := h
    exact RN_weak (K := [some (vR (some l0)), some (vI l1), some (vI (0 : Int32)), some (vI (0 : Int32))]) (callX_det _) (show _ ∧ _ ∧ _ ∧ _ ∧ True from ⟨rfl, rfl, rfl, rfl, trivial⟩) (t179_19  n2 l0 l1 (0 : Int32) (0 : Int32) _ hM h)
  · replace h := h.2 hc
    refine RN_k (callX_det _) 3 _ _ _ _ (show kd M1 l0 10 ∧ callX TBg sl sx (d + 2) 167 [vR (some l0), vI (1 : Int32)] M1 (fun v M9 => R179 sl sx d M0 P 14 [some (vR (some l0)), some (vI l1), none, none] (pushO v []) M9) from ⟨h.1, ?_⟩)
    replace h := h.2
    refine callX_mono (callX_len (d := (d + 2)) rfl rfl rfl (c167 (d := d + 1) h)) ?_
    clear h
    rintro v9 M3 ⟨hl, r4, rfl, h⟩
    replace hM := lenT hM hl
    show R179 sl sx d M0 P 14 [some (vR (some l0)), some (vI l1), none, none] [vI r4] M3
    exact RN_k (callX_det _) 1 _ _ _ _ (show rtW q179 M0 (PI P) (some (vI r4)) M3 from ⟨⟨_, rfl⟩, hM.1, hM.2, _, rfl, h⟩)
theorem c179 {sl : Nat} {sx : Nat → Int32} {d : Nat} {l0 : Nat} {l1 : Int32} {M : MM} {P : Int32 → MM → Prop} (h : w179 l0 l1 M P) : callX TBg sl sx (d + 3) 179 [vR (some l0), vI l1] M (PI P) :=
  cX (d := d + 2) q179 (false, tb179) rfl rfl rfl (t179_E l0 l1 M lenR h)
-- TwoLeashModel.isWay(I)Z
abbrev q182 : MQ7 := (2, 1, 2, 10, 0, 0, 4)
abbrev R182 (sl : Nat) (sx : Nat → Int32) (d : Nat) (M0 : MM) (P : Int32 → MM → Prop) : Nat → LL → List VV → MM → Prop := RN 10 false (mS M0).length (mT M0) 0 0 sl sx (callX TBg sl sx (d + 1)) (rtW q182 M0 (PI P)) (as2 tb182)
def w182 (l0 : Nat) (l1 : Int32) (M : MM) (P : Int32 → MM → Prop) : Prop := kd M l0 10 ∧ (w166 l1 (0 : Int32) ((mI M l0 5) - (1 : Int32)) M (fun r2 M1 => (r2 = 0 ∨ r2 = 1) ∧ P r2 M1))
theorem t182_E {sl : Nat} {sx : Nat → Int32} {d : Nat} {M0 : MM} {P : Int32 → MM → Prop} (l0 : Nat) (l1 : Int32) (M : MM) (hM : lenO M0 M) (h : w182  l0 l1 M P) : R182 sl sx d M0 P 0 [some (vR (some l0)), some (vI l1)] [] M := by
  refine RN_k (callX_det _) 4 _ _ _ _ (show kd M l0 10 ∧ R182 sl sx d M0 P 6 [some (vR (some l0)), some (vI l1)] [vI (mI M l0 5), vI (0 : Int32), vI l1] M from ⟨h.1, ?_⟩)
  replace h := h.2
  refine RN_k (callX_det _) 3 _ _ _ _ (show callX TBg sl sx (d + 1) 166 [vI l1, vI (0 : Int32), vI ((mI M l0 5) - (1 : Int32))] M (fun v M9 => R182 sl sx d M0 P 11 [some (vR (some l0)), some (vI l1)] (pushO v []) M9) from ?_)
  refine callX_mono (callX_len (d := (d + 1)) rfl rfl rfl (c166 (d := d) h)) ?_
  clear h
  rintro v9 M1 ⟨hl, r2, rfl, h⟩
  replace hM := lenT hM hl
  show R182 sl sx d M0 P 11 [some (vR (some l0)), some (vI l1)] [vI r2] M1
  exact RN_k (callX_det _) 1 _ _ _ _ (show rtW q182 M0 (PI P) (some (vI r2)) M1 from ⟨⟨_, rfl, h.1⟩, hM.1, hM.2, _, rfl, h.2⟩)
theorem c182 {sl : Nat} {sx : Nat → Int32} {d : Nat} {l0 : Nat} {l1 : Int32} {M : MM} {P : Int32 → MM → Prop} (h : w182 l0 l1 M P) : callX TBg sl sx (d + 2) 182 [vR (some l0), vI l1] M (PI P) :=
  cX (d := d + 1) q182 (false, tb182) rfl rfl rfl (t182_E l0 l1 M lenR h)
