/-! ===== printed by program: what must hold that a call ends with what is asked ===== -/
-- TwoLeashModel.ring(II)I
abbrev q263 : MQ7 := (3, 1, 8, 10, 0, 0, 1)
abbrev R263 (sl : Nat) (sx : Nat → Int32) (d : Nat) (M0 : MM) (P : Int32 → MM → Prop) : Nat → LL → List VV → MM → Prop := RN 10 false (mS M0).length (mT M0) 0 0 sl sx (callX TBg sl sx (d + 105)) (rtW q263 M0 (PI P)) (as2 tb263)
def w263_58 (l0 : Nat) (M : MM) (P : Int32 → MM → Prop) : Prop := kd M l0 10 ∧ w167 l0 (5 : Int32) M (fun r2 M1 => P r2 M1)
theorem t263_58 {sl : Nat} {sx : Nat → Int32} {d : Nat} {M0 : MM} {P : Int32 → MM → Prop} (l0 : Nat) (M : MM) (hM : lenO M0 M) (h : w263_58  l0 M P) : R263 sl sx d M0 P 58 [some (vR (some l0)), none, none, none, none, none, none, none] [] M := by
  refine RN_k (callX_det _) 3 _ _ _ _ (show kd M l0 10 ∧ callX TBg sl sx (d + 105) 167 [vR (some l0), vI (5 : Int32)] M (fun v M9 => R263 sl sx d M0 P 63 [some (vR (some l0)), none, none, none, none, none, none, none] (pushO v []) M9) from ⟨h.1, ?_⟩)
  replace h := h.2
  refine callX_mono (callX_len (d := (d + 105)) rfl rfl rfl (c167 (d := d + 104) h)) ?_
  clear h
  rintro v9 M1 ⟨hl, r2, rfl, h⟩
  replace hM := lenT hM hl
  show R263 sl sx d M0 P 63 [some (vR (some l0)), none, none, none, none, none, none, none] [vI r2] M1
  exact RN_k (callX_det _) 1 _ _ _ _ (show rtW q263 M0 (PI P) (some (vI r2)) M1 from ⟨⟨_, rfl⟩, hM.1, hM.2, _, rfl, h⟩)
def w263_180 (k83 : Nat → Int32 → Int32 → Int32 → Int32 → MM → Prop) (l0 : Nat) (l2 : Int32) (l4 : Int32) (l5 : Int32) (l6 : Int32) (M : MM) (P : Int32 → MM → Prop) : Prop := k83 l0 l2 l4 l5 (l6 + (1 : Int32)) M
theorem t263_180 {sl : Nat} {sx : Nat → Int32} {d : Nat} {M0 : MM} {P : Int32 → MM → Prop} {k83 : Nat → Int32 → Int32 → Int32 → Int32 → MM → Prop} (hk83 : ∀ (l0 : Nat) (l2 : Int32) (l4 : Int32) (l5 : Int32) (l6 : Int32) (M : MM), lenO M0 M → k83 l0 l2 l4 l5 l6 M → R263 sl sx d M0 P 83 [some (vR (some l0)), none, some (vI l2), none, some (vI l4), some (vI l5), some (vI l6), none] [] M) (l0 : Nat) (l2 : Int32) (l4 : Int32) (l5 : Int32) (l6 : Int32) (M : MM) (hM : lenO M0 M) (h : w263_180 k83 l0 l2 l4 l5 l6 M P) : R263 sl sx d M0 P 180 [some (vR (some l0)), none, some (vI l2), none, some (vI l4), some (vI l5), some (vI l6), none] [] M := by
  refine RN_k (callX_det _) 2 _ _ _ _ (show R263 sl sx d M0 P 83 [some (vR (some l0)), none, some (vI l2), none, some (vI l4), some (vI l5), some (vI (l6 + (1 : Int32))), none] [] M from ?_)
  exact RN_weak (K := [some (vR (some l0)), none, some (vI l2), none, some (vI l4), some (vI l5), some (vI (l6 + (1 : Int32))), none]) (callX_det _) (show _ ∧ _ ∧ _ ∧ _ ∧ _ ∧ True from ⟨rfl, rfl, rfl, rfl, rfl, trivial⟩) (hk83 l0 l2 l4 l5 (l6 + (1 : Int32)) _ hM h)
def w263_160 (k83 : Nat → Int32 → Int32 → Int32 → Int32 → MM → Prop) (l0 : Nat) (l2 : Int32) (l4 : Int32) (l6 : Int32) (M : MM) (P : Int32 → MM → Prop) : Prop := kd M l0 10 ∧ (kd M l0 10 ∧ (kd (sL M l0 65 (mL M l0 52)) l0 10 ∧ (kd (sL M l0 65 (mL M l0 52)) l0 10 ∧ (w263_180 k83 l0 l2 l4 l6 l6 (sL (sL M l0 65 (mL M l0 52)) l0 66 (mL (sL M l0 65 (mL M l0 52)) l0 53)) P))))
theorem t263_160 {sl : Nat} {sx : Nat → Int32} {d : Nat} {M0 : MM} {P : Int32 → MM → Prop} {k83 : Nat → Int32 → Int32 → Int32 → Int32 → MM → Prop} (hk83 : ∀ (l0 : Nat) (l2 : Int32) (l4 : Int32) (l5 : Int32) (l6 : Int32) (M : MM), lenO M0 M → k83 l0 l2 l4 l5 l6 M → R263 sl sx d M0 P 83 [some (vR (some l0)), none, some (vI l2), none, some (vI l4), some (vI l5), some (vI l6), none] [] M) (l0 : Nat) (l2 : Int32) (l4 : Int32) (l6 : Int32) (M : MM) (hM : lenO M0 M) (h : w263_160 k83 l0 l2 l4 l6 M P) : R263 sl sx d M0 P 160 [some (vR (some l0)), none, some (vI l2), none, some (vI l4), none, some (vI l6), none] [] M := by
  refine RN_k (callX_det _) 5 _ _ _ _ (show kd M l0 10 ∧ R263 sl sx d M0 P 169 [some (vR (some l0)), none, some (vI l2), none, some (vI l4), some (vI l6), some (vI l6), none] [vL (mL M l0 52), vR (some l0)] M from ⟨h.1, ?_⟩)
  replace h := h.2
  refine RN_k (callX_det _) 1 _ _ _ _ (show kd M l0 10 ∧ R263 sl sx d M0 P 172 [some (vR (some l0)), none, some (vI l2), none, some (vI l4), some (vI l6), some (vI l6), none] [] (sL M l0 65 (mL M l0 52)) from ⟨h.1, ?_⟩)
  replace h := h.2
  refine RN_k (callX_det _) 3 _ _ _ _ (show kd (sL M l0 65 (mL M l0 52)) l0 10 ∧ R263 sl sx d M0 P 177 [some (vR (some l0)), none, some (vI l2), none, some (vI l4), some (vI l6), some (vI l6), none] [vL (mL (sL M l0 65 (mL M l0 52)) l0 53), vR (some l0)] (sL M l0 65 (mL M l0 52)) from ⟨h.1, ?_⟩)
  replace h := h.2
  refine RN_k (callX_det _) 1 _ _ _ _ (show kd (sL M l0 65 (mL M l0 52)) l0 10 ∧ R263 sl sx d M0 P 180 [some (vR (some l0)), none, some (vI l2), none, some (vI l4), some (vI l6), some (vI l6), none] [] (sL (sL M l0 65 (mL M l0 52)) l0 66 (mL (sL M l0 65 (mL M l0 52)) l0 53)) from ⟨h.1, ?_⟩)
  replace h := h.2
  exact RN_weak (K := [some (vR (some l0)), none, some (vI l2), none, some (vI l4), some (vI l6), some (vI l6), none]) (callX_det _) (show _ ∧ _ ∧ _ ∧ _ ∧ _ ∧ True from ⟨rfl, rfl, rfl, rfl, rfl, trivial⟩) (t263_180 hk83 l0 l2 l4 l6 l6 _ hM h)
def w263_98 (k83 : Nat → Int32 → Int32 → Int32 → Int32 → MM → Prop) : Nat → Nat → Int32 → Int32 → Int32 → Int32 → Int32 → MM → (Int32 → MM → Prop) → Prop
  | 0 => fun _ _ _ _ _ _ _ _ => False
  | n + 1 => fun l0 l2 l4 l5 l6 l7 M P => (l4 < l7 → (kd M l0 10 ∧ w245 l0 (0 : Int32) M (fun M1 => (l5 = (-1 : Int32) → (w263_160 k83 l0 l2 l4 l6 M1 P)) ∧ (¬ (l5 = (-1 : Int32)) → (kd M1 l0 10 ∧ (kd M1 l0 10 ∧ (kd M1 l0 10 ∧ (kd M1 l0 10 ∧ (w199 (mL M1 l0 52) (mL M1 l0 53) (mL M1 l0 65) (mL M1 l0 66) M1 (fun r3 M2 => (r3 < 0 → (w263_160 k83 l0 l2 l4 l6 M2 P)) ∧ (¬ (r3 < 0) → (w263_180 k83 l0 l2 l4 l5 l6 M2 P)))))))))))) ∧ (¬ (l4 < l7) → (¬ l4 = 0 ∧ (kd M l0 10 ∧ w214 l0 l2 ((l6 + l7) - (l6 + l7) / l4 * l4) M (fun M4 => w263_98 k83 n l0 l2 l4 l5 l6 (l7 + (1 : Int32)) M4 P))))
theorem t263_98 {sl : Nat} {sx : Nat → Int32} {d : Nat} {M0 : MM} {P : Int32 → MM → Prop} {k83 : Nat → Int32 → Int32 → Int32 → Int32 → MM → Prop} (hk83 : ∀ (l0 : Nat) (l2 : Int32) (l4 : Int32) (l5 : Int32) (l6 : Int32) (M : MM), lenO M0 M → k83 l0 l2 l4 l5 l6 M → R263 sl sx d M0 P 83 [some (vR (some l0)), none, some (vI l2), none, some (vI l4), some (vI l5), some (vI l6), none] [] M) (n : Nat) : ∀ (l0 : Nat) (l2 : Int32) (l4 : Int32) (l5 : Int32) (l6 : Int32) (l7 : Int32) (M : MM) (_ : lenO M0 M) (_ : w263_98 k83 n l0 l2 l4 l5 l6 l7 M P), R263 sl sx d M0 P 98 [some (vR (some l0)), none, some (vI l2), none, some (vI l4), some (vI l5), some (vI l6), some (vI l7)] [] M := by
  induction n with
  | zero => intro l0 l2 l4 l5 l6 l7 M hM h; cases h
  | succ n ih =>
    intro l0 l2 l4 l5 l6 l7 M hM h
    refine RN_k (callX_det _) 3 _ _ _ _ (show (l4 < l7 → R263 sl sx d M0 P 124 [some (vR (some l0)), none, some (vI l2), none, some (vI l4), some (vI l5), some (vI l6), some (vI l7)] [] M) ∧ (¬ (l4 < l7) → R263 sl sx d M0 P 105 [some (vR (some l0)), none, some (vI l2), none, some (vI l4), some (vI l5), some (vI l6), some (vI l7)] [] M) from ⟨fun hc => ?_, fun hc => ?_⟩)
    · replace h := h.1 hc
      refine RN_k (callX_det _) 3 _ _ _ _ (show kd M l0 10 ∧ callX TBg sl sx (d + 105) 245 [vR (some l0), vI (0 : Int32)] M (fun v M9 => R263 sl sx d M0 P 129 [some (vR (some l0)), none, some (vI l2), none, some (vI l4), some (vI l5), some (vI l6), some (vI l7)] (pushO v []) M9) from ⟨h.1, ?_⟩)
      replace h := h.2
      refine callX_mono (callX_len (d := (d + 105)) rfl rfl rfl (c245 (d := d) h)) ?_
      clear h
      rintro v9 M1 ⟨hl, rfl, h⟩
      replace hM := lenT hM hl
      show R263 sl sx d M0 P 129 [some (vR (some l0)), none, some (vI l2), none, some (vI l4), some (vI l5), some (vI l6), some (vI l7)] [] M1
      refine RN_k (callX_det _) 3 _ _ _ _ (show (l5 = (-1 : Int32) → R263 sl sx d M0 P 160 [some (vR (some l0)), none, some (vI l2), none, some (vI l4), some (vI l5), some (vI l6), some (vI l7)] [] M1) ∧ (¬ (l5 = (-1 : Int32)) → R263 sl sx d M0 P 135 [some (vR (some l0)), none, some (vI l2), none, some (vI l4), some (vI l5), some (vI l6), some (vI l7)] [] M1) from ⟨fun hc => ?_, fun hc => ?_⟩)
      · replace h := h.1 hc
        exact RN_weak (K := [some (vR (some l0)), none, some (vI l2), none, some (vI l4), none, some (vI l6), none]) (callX_det _) (show _ ∧ _ ∧ _ ∧ _ ∧ True from ⟨rfl, rfl, rfl, rfl, trivial⟩) (t263_160 hk83 l0 l2 l4 l6 _ hM h)
      · replace h := h.2 hc
        refine RN_k (callX_det _) 2 _ _ _ _ (show kd M1 l0 10 ∧ R263 sl sx d M0 P 139 [some (vR (some l0)), none, some (vI l2), none, some (vI l4), some (vI l5), some (vI l6), some (vI l7)] [vL (mL M1 l0 52)] M1 from ⟨h.1, ?_⟩)
        replace h := h.2
        refine RN_k (callX_det _) 2 _ _ _ _ (show kd M1 l0 10 ∧ R263 sl sx d M0 P 143 [some (vR (some l0)), none, some (vI l2), none, some (vI l4), some (vI l5), some (vI l6), some (vI l7)] [vL (mL M1 l0 53), vL (mL M1 l0 52)] M1 from ⟨h.1, ?_⟩)
        replace h := h.2
        refine RN_k (callX_det _) 2 _ _ _ _ (show kd M1 l0 10 ∧ R263 sl sx d M0 P 147 [some (vR (some l0)), none, some (vI l2), none, some (vI l4), some (vI l5), some (vI l6), some (vI l7)] [vL (mL M1 l0 65), vL (mL M1 l0 53), vL (mL M1 l0 52)] M1 from ⟨h.1, ?_⟩)
        replace h := h.2
        refine RN_k (callX_det _) 2 _ _ _ _ (show kd M1 l0 10 ∧ R263 sl sx d M0 P 151 [some (vR (some l0)), none, some (vI l2), none, some (vI l4), some (vI l5), some (vI l6), some (vI l7)] [vL (mL M1 l0 66), vL (mL M1 l0 65), vL (mL M1 l0 53), vL (mL M1 l0 52)] M1 from ⟨h.1, ?_⟩)
        replace h := h.2
        refine RN_k (callX_det _) 1 _ _ _ _ (show callX TBg sl sx (d + 105) 199 [vL (mL M1 l0 52), vL (mL M1 l0 53), vL (mL M1 l0 65), vL (mL M1 l0 66)] M1 (fun v M9 => R263 sl sx d M0 P 154 [some (vR (some l0)), none, some (vI l2), none, some (vI l4), some (vI l5), some (vI l6), some (vI l7)] (pushO v []) M9) from ?_)
        refine callX_mono (callX_len (d := (d + 105)) rfl rfl rfl (c199 (d := d + 103) h)) ?_
        clear h
        rintro v9 M2 ⟨hl, r3, rfl, h⟩
        replace hM := lenT hM hl
        show R263 sl sx d M0 P 154 [some (vR (some l0)), none, some (vI l2), none, some (vI l4), some (vI l5), some (vI l6), some (vI l7)] [vI r3] M2
        refine RN_k (callX_det _) 1 _ _ _ _ (show (r3 < 0 → R263 sl sx d M0 P 160 [some (vR (some l0)), none, some (vI l2), none, some (vI l4), some (vI l5), some (vI l6), some (vI l7)] [] M2) ∧ (¬ (r3 < 0) → R263 sl sx d M0 P 157 [some (vR (some l0)), none, some (vI l2), none, some (vI l4), some (vI l5), some (vI l6), some (vI l7)] [] M2) from ⟨fun hc => ?_, fun hc => ?_⟩)
        · replace h := h.1 hc
          exact RN_weak (K := [some (vR (some l0)), none, some (vI l2), none, some (vI l4), none, some (vI l6), none]) (callX_det _) (show _ ∧ _ ∧ _ ∧ _ ∧ True from ⟨rfl, rfl, rfl, rfl, trivial⟩) (t263_160 hk83 l0 l2 l4 l6 _ hM h)
        · replace h := h.2 hc
          refine RN_k (callX_det _) 1 _ _ _ _ (show R263 sl sx d M0 P 180 [some (vR (some l0)), none, some (vI l2), none, some (vI l4), some (vI l5), some (vI l6), some (vI l7)] [] M2 from ?_)
          exact RN_weak (K := [some (vR (some l0)), none, some (vI l2), none, some (vI l4), some (vI l5), some (vI l6), none]) (callX_det _) (show _ ∧ _ ∧ _ ∧ _ ∧ _ ∧ True from ⟨rfl, rfl, rfl, rfl, rfl, trivial⟩) (t263_180 hk83 l0 l2 l4 l5 l6 _ hM h)
    · replace h := h.2 hc
      refine RN_k (callX_det _) 7 _ _ _ _ (show ¬ l4 = 0 ∧ R263 sl sx d M0 P 115 [some (vR (some l0)), none, some (vI l2), none, some (vI l4), some (vI l5), some (vI l6), some (vI l7)] [vI ((l6 + l7) - (l6 + l7) / l4 * l4), vI l2, vR (some l0)] M from ⟨h.1, ?_⟩)
      replace h := h.2
      refine RN_k (callX_det _) 1 _ _ _ _ (show kd M l0 10 ∧ callX TBg sl sx (d + 105) 214 [vR (some l0), vI l2, vI ((l6 + l7) - (l6 + l7) / l4 * l4)] M (fun v M9 => R263 sl sx d M0 P 118 [some (vR (some l0)), none, some (vI l2), none, some (vI l4), some (vI l5), some (vI l6), some (vI l7)] (pushO v []) M9) from ⟨h.1, ?_⟩)
      replace h := h.2
      refine callX_mono (callX_len (d := (d + 105)) rfl rfl rfl (c214 (d := d + 102) h)) ?_
      clear h
      rintro v9 M4 ⟨hl, rfl, h⟩
      replace hM := lenT hM hl
      show R263 sl sx d M0 P 118 [some (vR (some l0)), none, some (vI l2), none, some (vI l4), some (vI l5), some (vI l6), some (vI l7)] [] M4
      refine RN_k (callX_det _) 2 _ _ _ _ (show R263 sl sx d M0 P 98 [some (vR (some l0)), none, some (vI l2), none, some (vI l4), some (vI l5), some (vI l6), some (vI (l7 + (1 : Int32)))] [] M4 from ?_)
      exact RN_weak (K := [some (vR (some l0)), none, some (vI l2), none, some (vI l4), some (vI l5), some (vI l6), some (vI (l7 + (1 : Int32)))]) (callX_det _) (show _ ∧ _ ∧ _ ∧ _ ∧ _ ∧ _ ∧ True from ⟨rfl, rfl, rfl, rfl, rfl, rfl, trivial⟩) (ih l0 l2 l4 l5 l6 (l7 + (1 : Int32)) _ hM h)
def w263_83 : Nat → Nat → Int32 → Int32 → Int32 → Int32 → MM → (Int32 → MM → Prop) → Prop
  | 0 => fun _ _ _ _ _ _ _ => False
  | n + 1 => fun l0 l2 l4 l5 l6 M P => (l4 ≤ l6 → (kd M l0 10 ∧ (kd M l0 10 ∧ (kd M l0 10 ∧ w195 l0 (mL M l0 65) (mL M l0 66) M (fun M1 => kd M1 l0 10 ∧ w177 l0 l5 M1 (fun r3 M2 => P r3 M2)))))) ∧ (¬ (l4 ≤ l6) → (kd M l0 10 ∧ (∃ n2, w263_98 (fun z0 z1 z2 z3 z4 z5 => w263_83  n z0 z1 z2 z3 z4 z5 P) n2 l0 l2 l4 l5 l6 (0 : Int32) (sI M l0 28 (0 : Int32)) P)))
theorem t263_83 {sl : Nat} {sx : Nat → Int32} {d : Nat} {M0 : MM} {P : Int32 → MM → Prop} (n : Nat) : ∀ (l0 : Nat) (l2 : Int32) (l4 : Int32) (l5 : Int32) (l6 : Int32) (M : MM) (_ : lenO M0 M) (_ : w263_83  n l0 l2 l4 l5 l6 M P), R263 sl sx d M0 P 83 [some (vR (some l0)), none, some (vI l2), none, some (vI l4), some (vI l5), some (vI l6), none] [] M := by
  induction n with
  | zero => intro l0 l2 l4 l5 l6 M hM h; cases h
  | succ n ih =>
    intro l0 l2 l4 l5 l6 M hM h
    refine RN_k (callX_det _) 3 _ _ _ _ (show (l4 ≤ l6 → R263 sl sx d M0 P 186 [some (vR (some l0)), none, some (vI l2), none, some (vI l4), some (vI l5), some (vI l6), none] [] M) ∧ (¬ (l4 ≤ l6) → R263 sl sx d M0 P 90 [some (vR (some l0)), none, some (vI l2), none, some (vI l4), some (vI l5), some (vI l6), none] [] M) from ⟨fun hc => ?_, fun hc => ?_⟩)
    · replace h := h.1 hc
      refine RN_k (callX_det _) 3 _ _ _ _ (show kd M l0 10 ∧ R263 sl sx d M0 P 191 [some (vR (some l0)), none, some (vI l2), none, some (vI l4), some (vI l5), some (vI l6), none] [vL (mL M l0 65), vR (some l0)] M from ⟨h.1, ?_⟩)
      replace h := h.2
      refine RN_k (callX_det _) 2 _ _ _ _ (show kd M l0 10 ∧ R263 sl sx d M0 P 195 [some (vR (some l0)), none, some (vI l2), none, some (vI l4), some (vI l5), some (vI l6), none] [vL (mL M l0 66), vL (mL M l0 65), vR (some l0)] M from ⟨h.1, ?_⟩)
      replace h := h.2
      refine RN_k (callX_det _) 1 _ _ _ _ (show kd M l0 10 ∧ callX TBg sl sx (d + 105) 195 [vR (some l0), vL (mL M l0 65), vL (mL M l0 66)] M (fun v M9 => R263 sl sx d M0 P 198 [some (vR (some l0)), none, some (vI l2), none, some (vI l4), some (vI l5), some (vI l6), none] (pushO v []) M9) from ⟨h.1, ?_⟩)
      replace h := h.2
      refine callX_mono (callX_len (d := (d + 105)) rfl rfl rfl (c195 (d := d + 4) h)) ?_
      clear h
      rintro v9 M1 ⟨hl, rfl, h⟩
      replace hM := lenT hM hl
      show R263 sl sx d M0 P 198 [some (vR (some l0)), none, some (vI l2), none, some (vI l4), some (vI l5), some (vI l6), none] [] M1
      refine RN_k (callX_det _) 3 _ _ _ _ (show kd M1 l0 10 ∧ callX TBg sl sx (d + 105) 177 [vR (some l0), vI l5] M1 (fun v M9 => R263 sl sx d M0 P 204 [some (vR (some l0)), none, some (vI l2), none, some (vI l4), some (vI l5), some (vI l6), none] (pushO v []) M9) from ⟨h.1, ?_⟩)
      replace h := h.2
      refine callX_mono (callX_len (d := (d + 105)) rfl rfl rfl (c177 (d := d + 104) h)) ?_
      clear h
      rintro v9 M2 ⟨hl, r3, rfl, h⟩
      replace hM := lenT hM hl
      show R263 sl sx d M0 P 204 [some (vR (some l0)), none, some (vI l2), none, some (vI l4), some (vI l5), some (vI l6), none] [vI r3] M2
      exact RN_k (callX_det _) 1 _ _ _ _ (show rtW q263 M0 (PI P) (some (vI r3)) M2 from ⟨⟨_, rfl⟩, hM.1, hM.2, _, rfl, h⟩)
    · replace h := h.2 hc
      refine RN_k (callX_det _) 3 _ _ _ _ (show kd M l0 10 ∧ R263 sl sx d M0 P 95 [some (vR (some l0)), none, some (vI l2), none, some (vI l4), some (vI l5), some (vI l6), none] [] (sI M l0 28 (0 : Int32)) from ⟨h.1, ?_⟩)
      replace h := h.2
      refine RN_k (callX_det _) 2 _ _ _ _ (show R263 sl sx d M0 P 98 [some (vR (some l0)), none, some (vI l2), none, some (vI l4), some (vI l5), some (vI l6), some (vI (0 : Int32))] [] (sI M l0 28 (0 : Int32)) from ?_)
      obtain ⟨n2, h⟩ := h
      exact RN_weak (K := [some (vR (some l0)), none, some (vI l2), none, some (vI l4), some (vI l5), some (vI l6), some (vI (0 : Int32))]) (callX_det _) (show _ ∧ _ ∧ _ ∧ _ ∧ _ ∧ _ ∧ True from ⟨rfl, rfl, rfl, rfl, rfl, rfl, trivial⟩) (t263_98 ih n2 l0 l2 l4 l5 l6 (0 : Int32) _ hM h)
def w263 (l0 : Nat) (l1 : Int32) (l2 : Int32) (M : MM) (P : Int32 → MM → Prop) : Prop := kd M l0 10 ∧ w202 l0 l1 l2 M (fun r2 M1 => (r2 ≤ 0 → (kd M1 l0 10 ∧ w180 l0 l2 M1 (fun r4 M3 => kd M3 l0 10 ∧ w184 l0 l2 (0 : Int32) M3 (fun r6 M5 => kd M5 l0 10 ∧ w184 l0 l2 (r4 - (1 : Int32)) M5 (fun r8 M7 => (r6 ≠ r8 → (w263_58  l0 M7 P)) ∧ (¬ (r6 ≠ r8) → (kd M7 l0 10 ∧ w185 l0 l2 (0 : Int32) M7 (fun r10 M9 => kd M9 l0 10 ∧ w185 l0 l2 (r4 - (1 : Int32)) M9 (fun r12 M11 => (r10 = r12 → (kd M11 l0 10 ∧ w180 l0 l1 M11 (fun r14 M13 => kd M13 l0 10 ∧ w212 l0 l1 (0 : Int32) (r14 - (1 : Int32)) M13 (fun M15 => ∃ n2, w263_83  n2 l0 l2 (r4 - (1 : Int32)) (-1 : Int32) (0 : Int32) M15 P)))) ∧ (¬ (r10 = r12) → (w263_58  l0 M11 P))))))))))) ∧ (¬ (r2 ≤ 0) → (kd M1 l0 10 ∧ w167 l0 r2 M1 (fun r17 M16 => P r17 M16))))
theorem t263_E {sl : Nat} {sx : Nat → Int32} {d : Nat} {M0 : MM} {P : Int32 → MM → Prop} (l0 : Nat) (l1 : Int32) (l2 : Int32) (M : MM) (hM : lenO M0 M) (h : w263  l0 l1 l2 M P) : R263 sl sx d M0 P 0 [some (vR (some l0)), some (vI l1), some (vI l2), none, none, none, none, none] [] M := by
  refine RN_k (callX_det _) 4 _ _ _ _ (show kd M l0 10 ∧ callX TBg sl sx (d + 105) 202 [vR (some l0), vI l1, vI l2] M (fun v M9 => R263 sl sx d M0 P 6 [some (vR (some l0)), some (vI l1), some (vI l2), none, none, none, none, none] (pushO v []) M9) from ⟨h.1, ?_⟩)
  replace h := h.2
  refine callX_mono (callX_len (d := (d + 105)) rfl rfl rfl (c202 (d := d + 102) h)) ?_
  clear h
  rintro v9 M1 ⟨hl, r2, rfl, h⟩
  replace hM := lenT hM hl
  show R263 sl sx d M0 P 6 [some (vR (some l0)), some (vI l1), some (vI l2), none, none, none, none, none] [vI r2] M1
  refine RN_k (callX_det _) 3 _ _ _ _ (show (r2 ≤ 0 → R263 sl sx d M0 P 17 [some (vR (some l0)), some (vI l1), some (vI l2), some (vI r2), none, none, none, none] [] M1) ∧ (¬ (r2 ≤ 0) → R263 sl sx d M0 P 11 [some (vR (some l0)), some (vI l1), some (vI l2), some (vI r2), none, none, none, none] [] M1) from ⟨fun hc => ?_, fun hc => ?_⟩)
  · replace h := h.1 hc
    refine RN_k (callX_det _) 3 _ _ _ _ (show kd M1 l0 10 ∧ callX TBg sl sx (d + 105) 180 [vR (some l0), vI l2] M1 (fun v M9 => R263 sl sx d M0 P 22 [some (vR (some l0)), some (vI l1), some (vI l2), some (vI r2), none, none, none, none] (pushO v []) M9) from ⟨h.1, ?_⟩)
    replace h := h.2
    refine callX_mono (callX_len (d := (d + 105)) rfl rfl rfl (c180 (d := d + 103) h)) ?_
    clear h
    rintro v9 M3 ⟨hl, r4, rfl, h⟩
    replace hM := lenT hM hl
    show R263 sl sx d M0 P 22 [some (vR (some l0)), some (vI l1), some (vI l2), some (vI r2), none, none, none, none] [vI r4] M3
    refine RN_k (callX_det _) 7 _ _ _ _ (show kd M3 l0 10 ∧ callX TBg sl sx (d + 105) 184 [vR (some l0), vI l2, vI (0 : Int32)] M3 (fun v M9 => R263 sl sx d M0 P 32 [some (vR (some l0)), some (vI l1), some (vI l2), some (vI r2), some (vI (r4 - (1 : Int32))), none, none, none] (pushO v []) M9) from ⟨h.1, ?_⟩)
    replace h := h.2
    refine callX_mono (callX_len (d := (d + 105)) rfl rfl rfl (c184 (d := d + 103) h)) ?_
    clear h
    rintro v9 M5 ⟨hl, r6, rfl, h⟩
    replace hM := lenT hM hl
    show R263 sl sx d M0 P 32 [some (vR (some l0)), some (vI l1), some (vI l2), some (vI r2), some (vI (r4 - (1 : Int32))), none, none, none] [vI r6] M5
    refine RN_k (callX_det _) 4 _ _ _ _ (show kd M5 l0 10 ∧ callX TBg sl sx (d + 105) 184 [vR (some l0), vI l2, vI (r4 - (1 : Int32))] M5 (fun v M9 => R263 sl sx d M0 P 39 [some (vR (some l0)), some (vI l1), some (vI l2), some (vI r2), some (vI (r4 - (1 : Int32))), none, none, none] (pushO v [vI r6]) M9) from ⟨h.1, ?_⟩)
    replace h := h.2
    refine callX_mono (callX_len (d := (d + 105)) rfl rfl rfl (c184 (d := d + 103) h)) ?_
    clear h
    rintro v9 M7 ⟨hl, r8, rfl, h⟩
    replace hM := lenT hM hl
    show R263 sl sx d M0 P 39 [some (vR (some l0)), some (vI l1), some (vI l2), some (vI r2), some (vI (r4 - (1 : Int32))), none, none, none] [vI r8, vI r6] M7
    refine RN_k (callX_det _) 1 _ _ _ _ (show (r6 ≠ r8 → R263 sl sx d M0 P 58 [some (vR (some l0)), some (vI l1), some (vI l2), some (vI r2), some (vI (r4 - (1 : Int32))), none, none, none] [] M7) ∧ (¬ (r6 ≠ r8) → R263 sl sx d M0 P 42 [some (vR (some l0)), some (vI l1), some (vI l2), some (vI r2), some (vI (r4 - (1 : Int32))), none, none, none] [] M7) from ⟨fun hc => ?_, fun hc => ?_⟩)
    · replace h := h.1 hc
      exact RN_weak (K := [some (vR (some l0)), none, none, none, none, none, none, none]) (callX_det _) (show _ ∧ True from ⟨rfl, trivial⟩) (t263_58  l0 _ hM h)
    · replace h := h.2 hc
      refine RN_k (callX_det _) 4 _ _ _ _ (show kd M7 l0 10 ∧ callX TBg sl sx (d + 105) 185 [vR (some l0), vI l2, vI (0 : Int32)] M7 (fun v M9 => R263 sl sx d M0 P 48 [some (vR (some l0)), some (vI l1), some (vI l2), some (vI r2), some (vI (r4 - (1 : Int32))), none, none, none] (pushO v []) M9) from ⟨h.1, ?_⟩)
      replace h := h.2
      refine callX_mono (callX_len (d := (d + 105)) rfl rfl rfl (c185 (d := d + 103) h)) ?_
      clear h
      rintro v9 M9 ⟨hl, r10, rfl, h⟩
      replace hM := lenT hM hl
      show R263 sl sx d M0 P 48 [some (vR (some l0)), some (vI l1), some (vI l2), some (vI r2), some (vI (r4 - (1 : Int32))), none, none, none] [vI r10] M9
      refine RN_k (callX_det _) 4 _ _ _ _ (show kd M9 l0 10 ∧ callX TBg sl sx (d + 105) 185 [vR (some l0), vI l2, vI (r4 - (1 : Int32))] M9 (fun v M9 => R263 sl sx d M0 P 55 [some (vR (some l0)), some (vI l1), some (vI l2), some (vI r2), some (vI (r4 - (1 : Int32))), none, none, none] (pushO v [vI r10]) M9) from ⟨h.1, ?_⟩)
      replace h := h.2
      refine callX_mono (callX_len (d := (d + 105)) rfl rfl rfl (c185 (d := d + 103) h)) ?_
      clear h
      rintro v9 M11 ⟨hl, r12, rfl, h⟩
      replace hM := lenT hM hl
      show R263 sl sx d M0 P 55 [some (vR (some l0)), some (vI l1), some (vI l2), some (vI r2), some (vI (r4 - (1 : Int32))), none, none, none] [vI r12, vI r10] M11
      refine RN_k (callX_det _) 1 _ _ _ _ (show (r10 = r12 → R263 sl sx d M0 P 64 [some (vR (some l0)), some (vI l1), some (vI l2), some (vI r2), some (vI (r4 - (1 : Int32))), none, none, none] [] M11) ∧ (¬ (r10 = r12) → R263 sl sx d M0 P 58 [some (vR (some l0)), some (vI l1), some (vI l2), some (vI r2), some (vI (r4 - (1 : Int32))), none, none, none] [] M11) from ⟨fun hc => ?_, fun hc => ?_⟩)
      · replace h := h.1 hc
        refine RN_k (callX_det _) 6 _ _ _ _ (show kd M11 l0 10 ∧ callX TBg sl sx (d + 105) 180 [vR (some l0), vI l1] M11 (fun v M9 => R263 sl sx d M0 P 72 [some (vR (some l0)), some (vI l1), some (vI l2), some (vI r2), some (vI (r4 - (1 : Int32))), none, none, none] (pushO v [vI (0 : Int32), vI l1, vR (some l0)]) M9) from ⟨h.1, ?_⟩)
        replace h := h.2
        refine callX_mono (callX_len (d := (d + 105)) rfl rfl rfl (c180 (d := d + 103) h)) ?_
        clear h
        rintro v9 M13 ⟨hl, r14, rfl, h⟩
        replace hM := lenT hM hl
        show R263 sl sx d M0 P 72 [some (vR (some l0)), some (vI l1), some (vI l2), some (vI r2), some (vI (r4 - (1 : Int32))), none, none, none] [vI r14, vI (0 : Int32), vI l1, vR (some l0)] M13
        refine RN_k (callX_det _) 3 _ _ _ _ (show kd M13 l0 10 ∧ callX TBg sl sx (d + 105) 212 [vR (some l0), vI l1, vI (0 : Int32), vI (r14 - (1 : Int32))] M13 (fun v M9 => R263 sl sx d M0 P 77 [some (vR (some l0)), some (vI l1), some (vI l2), some (vI r2), some (vI (r4 - (1 : Int32))), none, none, none] (pushO v []) M9) from ⟨h.1, ?_⟩)
        replace h := h.2
        refine callX_mono (callX_len (d := (d + 105)) rfl rfl rfl (c212 (d := d + 102) h)) ?_
        clear h
        rintro v9 M15 ⟨hl, rfl, h⟩
        replace hM := lenT hM hl
        show R263 sl sx d M0 P 77 [some (vR (some l0)), some (vI l1), some (vI l2), some (vI r2), some (vI (r4 - (1 : Int32))), none, none, none] [] M15
        refine RN_k (callX_det _) 4 _ _ _ _ (show R263 sl sx d M0 P 83 [some (vR (some l0)), some (vI l1), some (vI l2), some (vI r2), some (vI (r4 - (1 : Int32))), some (vI (-1 : Int32)), some (vI (0 : Int32)), none] [] M15 from ?_)
        obtain ⟨n2, h⟩ := h
        exact RN_weak (K := [some (vR (some l0)), none, some (vI l2), none, some (vI (r4 - (1 : Int32))), some (vI (-1 : Int32)), some (vI (0 : Int32)), none]) (callX_det _) (show _ ∧ _ ∧ _ ∧ _ ∧ _ ∧ True from ⟨rfl, rfl, rfl, rfl, rfl, trivial⟩) (t263_83  n2 l0 l2 (r4 - (1 : Int32)) (-1 : Int32) (0 : Int32) _ hM h)
      · replace h := h.2 hc
        exact RN_weak (K := [some (vR (some l0)), none, none, none, none, none, none, none]) (callX_det _) (show _ ∧ True from ⟨rfl, trivial⟩) (t263_58  l0 _ hM h)
  · replace h := h.2 hc
    refine RN_k (callX_det _) 3 _ _ _ _ (show kd M1 l0 10 ∧ callX TBg sl sx (d + 105) 167 [vR (some l0), vI r2] M1 (fun v M9 => R263 sl sx d M0 P 16 [some (vR (some l0)), some (vI l1), some (vI l2), some (vI r2), none, none, none, none] (pushO v []) M9) from ⟨h.1, ?_⟩)
    replace h := h.2
    refine callX_mono (callX_len (d := (d + 105)) rfl rfl rfl (c167 (d := d + 104) h)) ?_
    clear h
    rintro v9 M16 ⟨hl, r17, rfl, h⟩
    replace hM := lenT hM hl
    show R263 sl sx d M0 P 16 [some (vR (some l0)), some (vI l1), some (vI l2), some (vI r2), none, none, none, none] [vI r17] M16
    exact RN_k (callX_det _) 1 _ _ _ _ (show rtW q263 M0 (PI P) (some (vI r17)) M16 from ⟨⟨_, rfl⟩, hM.1, hM.2, _, rfl, h⟩)
theorem c263 {sl : Nat} {sx : Nat → Int32} {d : Nat} {l0 : Nat} {l1 : Int32} {l2 : Int32} {M : MM} {P : Int32 → MM → Prop} (h : w263 l0 l1 l2 M P) : callX TBg sl sx (d + 106) 263 [vR (some l0), vI l1, vI l2] M (PI P) :=
  cX (d := d + 105) q263 (false, tb263) rfl rfl rfl (t263_E l0 l1 l2 M lenR h)
-- TwoLeashModel.laysSpans(I)V
abbrev q265 : MQ7 := (2, 1, 4, 10, 0, 0, 0)
abbrev R265 (sl : Nat) (sx : Nat → Int32) (d : Nat) (M0 : MM) (P : MM → Prop) : Nat → LL → List VV → MM → Prop := RN 10 false (mS M0).length (mT M0) 0 0 sl sx (callX TBg sl sx (d + 9)) (rtW q265 M0 (PV P)) (as2 tb265)
def w265_145 (k2 : Nat → Int32 → Int32 → MM → Prop) (k15 : Nat → Int32 → Int32 → Int32 → MM → Prop) (l0 : Nat) (l1 : Int32) (l2 : Int32) (l3 : Int32) (M : MM) (P : MM → Prop) : Prop := k15 l0 l1 l2 (l3 + (1 : Int32)) M
theorem t265_145 {sl : Nat} {sx : Nat → Int32} {d : Nat} {M0 : MM} {P : MM → Prop} {k2 : Nat → Int32 → Int32 → MM → Prop} {k15 : Nat → Int32 → Int32 → Int32 → MM → Prop} (hk2 : ∀ (l0 : Nat) (l1 : Int32) (l2 : Int32) (M : MM), lenO M0 M → k2 l0 l1 l2 M → R265 sl sx d M0 P 2 [some (vR (some l0)), some (vI l1), some (vI l2), none] [] M) (hk15 : ∀ (l0 : Nat) (l1 : Int32) (l2 : Int32) (l3 : Int32) (M : MM), lenO M0 M → k15 l0 l1 l2 l3 M → R265 sl sx d M0 P 15 [some (vR (some l0)), some (vI l1), some (vI l2), some (vI l3)] [] M) (l0 : Nat) (l1 : Int32) (l2 : Int32) (l3 : Int32) (M : MM) (hM : lenO M0 M) (h : w265_145 k2 k15 l0 l1 l2 l3 M P) : R265 sl sx d M0 P 145 [some (vR (some l0)), some (vI l1), some (vI l2), some (vI l3)] [] M := by
  refine RN_k (callX_det _) 2 _ _ _ _ (show R265 sl sx d M0 P 15 [some (vR (some l0)), some (vI l1), some (vI l2), some (vI (l3 + (1 : Int32)))] [] M from ?_)
  exact RN_weak (K := [some (vR (some l0)), some (vI l1), some (vI l2), some (vI (l3 + (1 : Int32)))]) (callX_det _) (show _ ∧ _ ∧ _ ∧ _ ∧ True from ⟨rfl, rfl, rfl, rfl, trivial⟩) (hk15 l0 l1 l2 (l3 + (1 : Int32)) _ hM h)
def w265_69 (k2 : Nat → Int32 → Int32 → MM → Prop) (k15 : Nat → Int32 → Int32 → Int32 → MM → Prop) (l0 : Nat) (l1 : Int32) (l2 : Int32) (l3 : Int32) (M : MM) (P : MM → Prop) : Prop := kd M l0 10 ∧ (kd (sI M l0 27 (2 : Int32)) l0 10 ∧ (kd (sI M l0 27 (2 : Int32)) l0 10 ∧ w184 l0 l1 l2 (sI M l0 27 (2 : Int32)) (fun r2 M1 => ∃ a3, mR (sI M l0 27 (2 : Int32)) l0 23 = some a3 ∧ (inb M1 a3 11 (0 : Int32) ∧ (kd (sI M1 a3 (0 : Int32).toNatClampNeg r2) l0 10 ∧ (kd (sI M1 a3 (0 : Int32).toNatClampNeg r2) l0 10 ∧ w185 l0 l1 l2 (sI M1 a3 (0 : Int32).toNatClampNeg r2) (fun r5 M4 => ∃ a6, mR (sI M1 a3 (0 : Int32).toNatClampNeg r2) l0 24 = some a6 ∧ (inb M4 a6 11 (0 : Int32) ∧ (kd (sI M4 a6 (0 : Int32).toNatClampNeg r5) l0 10 ∧ (kd (sI M4 a6 (0 : Int32).toNatClampNeg r5) l0 10 ∧ w184 l0 l1 l3 (sI M4 a6 (0 : Int32).toNatClampNeg r5) (fun r8 M7 => ∃ a9, mR (sI M4 a6 (0 : Int32).toNatClampNeg r5) l0 23 = some a9 ∧ (inb M7 a9 11 (1 : Int32) ∧ (kd (sI M7 a9 (1 : Int32).toNatClampNeg r8) l0 10 ∧ (kd (sI M7 a9 (1 : Int32).toNatClampNeg r8) l0 10 ∧ w185 l0 l1 l3 (sI M7 a9 (1 : Int32).toNatClampNeg r8) (fun r11 M10 => ∃ a12, mR (sI M7 a9 (1 : Int32).toNatClampNeg r8) l0 24 = some a12 ∧ (inb M10 a12 11 (1 : Int32) ∧ (kd (sI M10 a12 (1 : Int32).toNatClampNeg r11) l0 10 ∧ w213 l0 l1 l2 l3 (sI M10 a12 (1 : Int32).toNatClampNeg r11) (fun M13 => kd M13 l0 10 ∧ (kd M13 l0 10 ∧ w239 l0 (0 : Int32) M13 (fun r15 M14 => ∃ a16, mR M13 l0 67 = some a16 ∧ (inb M14 a16 14 (((8 : Int32) * l2) + l3) ∧ (w265_145 k2 k15 l0 l1 l2 l3 (sI M14 a16 (((8 : Int32) * l2) + l3).toNatClampNeg (r15 &&& 1)) P))))))))))))))))))))))
theorem t265_69 {sl : Nat} {sx : Nat → Int32} {d : Nat} {M0 : MM} {P : MM → Prop} {k2 : Nat → Int32 → Int32 → MM → Prop} {k15 : Nat → Int32 → Int32 → Int32 → MM → Prop} (hk2 : ∀ (l0 : Nat) (l1 : Int32) (l2 : Int32) (M : MM), lenO M0 M → k2 l0 l1 l2 M → R265 sl sx d M0 P 2 [some (vR (some l0)), some (vI l1), some (vI l2), none] [] M) (hk15 : ∀ (l0 : Nat) (l1 : Int32) (l2 : Int32) (l3 : Int32) (M : MM), lenO M0 M → k15 l0 l1 l2 l3 M → R265 sl sx d M0 P 15 [some (vR (some l0)), some (vI l1), some (vI l2), some (vI l3)] [] M) (l0 : Nat) (l1 : Int32) (l2 : Int32) (l3 : Int32) (M : MM) (hM : lenO M0 M) (h : w265_69 k2 k15 l0 l1 l2 l3 M P) : R265 sl sx d M0 P 69 [some (vR (some l0)), some (vI l1), some (vI l2), some (vI l3)] [] M := by
  refine RN_k (callX_det _) 3 _ _ _ _ (show kd M l0 10 ∧ R265 sl sx d M0 P 74 [some (vR (some l0)), some (vI l1), some (vI l2), some (vI l3)] [] (sI M l0 27 (2 : Int32)) from ⟨h.1, ?_⟩)
  replace h := h.2
  refine RN_k (callX_det _) 2 _ _ _ _ (show kd (sI M l0 27 (2 : Int32)) l0 10 ∧ R265 sl sx d M0 P 78 [some (vR (some l0)), some (vI l1), some (vI l2), some (vI l3)] [vR (mR (sI M l0 27 (2 : Int32)) l0 23)] (sI M l0 27 (2 : Int32)) from ⟨h.1, ?_⟩)
  replace h := h.2
  refine RN_k (callX_det _) 5 _ _ _ _ (show kd (sI M l0 27 (2 : Int32)) l0 10 ∧ callX TBg sl sx (d + 9) 184 [vR (some l0), vI l1, vI l2] (sI M l0 27 (2 : Int32)) (fun v M9 => R265 sl sx d M0 P 85 [some (vR (some l0)), some (vI l1), some (vI l2), some (vI l3)] (pushO v [vI (0 : Int32), vR (mR (sI M l0 27 (2 : Int32)) l0 23)]) M9) from ⟨h.1, ?_⟩)
  replace h := h.2
  refine callX_mono (callX_len (d := (d + 9)) rfl rfl rfl (c184 (d := d + 7) h)) ?_
  clear h
  rintro v9 M1 ⟨hl, r2, rfl, h⟩
  replace hM := lenT hM hl
  show R265 sl sx d M0 P 85 [some (vR (some l0)), some (vI l1), some (vI l2), some (vI l3)] [vI r2, vI (0 : Int32), vR (mR (sI M l0 27 (2 : Int32)) l0 23)] M1
  obtain ⟨a3, he, h⟩ := h
  rw [he]
  refine RN_k (callX_det _) 1 _ _ _ _ (show inb M1 a3 11 (0 : Int32) ∧ R265 sl sx d M0 P 86 [some (vR (some l0)), some (vI l1), some (vI l2), some (vI l3)] [] (sI M1 a3 (0 : Int32).toNatClampNeg r2) from ⟨h.1, ?_⟩)
  replace h := h.2
  refine RN_k (callX_det _) 2 _ _ _ _ (show kd (sI M1 a3 (0 : Int32).toNatClampNeg r2) l0 10 ∧ R265 sl sx d M0 P 90 [some (vR (some l0)), some (vI l1), some (vI l2), some (vI l3)] [vR (mR (sI M1 a3 (0 : Int32).toNatClampNeg r2) l0 24)] (sI M1 a3 (0 : Int32).toNatClampNeg r2) from ⟨h.1, ?_⟩)
  replace h := h.2
  refine RN_k (callX_det _) 5 _ _ _ _ (show kd (sI M1 a3 (0 : Int32).toNatClampNeg r2) l0 10 ∧ callX TBg sl sx (d + 9) 185 [vR (some l0), vI l1, vI l2] (sI M1 a3 (0 : Int32).toNatClampNeg r2) (fun v M9 => R265 sl sx d M0 P 97 [some (vR (some l0)), some (vI l1), some (vI l2), some (vI l3)] (pushO v [vI (0 : Int32), vR (mR (sI M1 a3 (0 : Int32).toNatClampNeg r2) l0 24)]) M9) from ⟨h.1, ?_⟩)
  replace h := h.2
  refine callX_mono (callX_len (d := (d + 9)) rfl rfl rfl (c185 (d := d + 7) h)) ?_
  clear h
  rintro v9 M4 ⟨hl, r5, rfl, h⟩
  replace hM := lenT hM hl
  show R265 sl sx d M0 P 97 [some (vR (some l0)), some (vI l1), some (vI l2), some (vI l3)] [vI r5, vI (0 : Int32), vR (mR (sI M1 a3 (0 : Int32).toNatClampNeg r2) l0 24)] M4
  obtain ⟨a6, he, h⟩ := h
  rw [he]
  refine RN_k (callX_det _) 1 _ _ _ _ (show inb M4 a6 11 (0 : Int32) ∧ R265 sl sx d M0 P 98 [some (vR (some l0)), some (vI l1), some (vI l2), some (vI l3)] [] (sI M4 a6 (0 : Int32).toNatClampNeg r5) from ⟨h.1, ?_⟩)
  replace h := h.2
  refine RN_k (callX_det _) 2 _ _ _ _ (show kd (sI M4 a6 (0 : Int32).toNatClampNeg r5) l0 10 ∧ R265 sl sx d M0 P 102 [some (vR (some l0)), some (vI l1), some (vI l2), some (vI l3)] [vR (mR (sI M4 a6 (0 : Int32).toNatClampNeg r5) l0 23)] (sI M4 a6 (0 : Int32).toNatClampNeg r5) from ⟨h.1, ?_⟩)
  replace h := h.2
  refine RN_k (callX_det _) 5 _ _ _ _ (show kd (sI M4 a6 (0 : Int32).toNatClampNeg r5) l0 10 ∧ callX TBg sl sx (d + 9) 184 [vR (some l0), vI l1, vI l3] (sI M4 a6 (0 : Int32).toNatClampNeg r5) (fun v M9 => R265 sl sx d M0 P 109 [some (vR (some l0)), some (vI l1), some (vI l2), some (vI l3)] (pushO v [vI (1 : Int32), vR (mR (sI M4 a6 (0 : Int32).toNatClampNeg r5) l0 23)]) M9) from ⟨h.1, ?_⟩)
  replace h := h.2
  refine callX_mono (callX_len (d := (d + 9)) rfl rfl rfl (c184 (d := d + 7) h)) ?_
  clear h
  rintro v9 M7 ⟨hl, r8, rfl, h⟩
  replace hM := lenT hM hl
  show R265 sl sx d M0 P 109 [some (vR (some l0)), some (vI l1), some (vI l2), some (vI l3)] [vI r8, vI (1 : Int32), vR (mR (sI M4 a6 (0 : Int32).toNatClampNeg r5) l0 23)] M7
  obtain ⟨a9, he, h⟩ := h
  rw [he]
  refine RN_k (callX_det _) 1 _ _ _ _ (show inb M7 a9 11 (1 : Int32) ∧ R265 sl sx d M0 P 110 [some (vR (some l0)), some (vI l1), some (vI l2), some (vI l3)] [] (sI M7 a9 (1 : Int32).toNatClampNeg r8) from ⟨h.1, ?_⟩)
  replace h := h.2
  refine RN_k (callX_det _) 2 _ _ _ _ (show kd (sI M7 a9 (1 : Int32).toNatClampNeg r8) l0 10 ∧ R265 sl sx d M0 P 114 [some (vR (some l0)), some (vI l1), some (vI l2), some (vI l3)] [vR (mR (sI M7 a9 (1 : Int32).toNatClampNeg r8) l0 24)] (sI M7 a9 (1 : Int32).toNatClampNeg r8) from ⟨h.1, ?_⟩)
  replace h := h.2
  refine RN_k (callX_det _) 5 _ _ _ _ (show kd (sI M7 a9 (1 : Int32).toNatClampNeg r8) l0 10 ∧ callX TBg sl sx (d + 9) 185 [vR (some l0), vI l1, vI l3] (sI M7 a9 (1 : Int32).toNatClampNeg r8) (fun v M9 => R265 sl sx d M0 P 121 [some (vR (some l0)), some (vI l1), some (vI l2), some (vI l3)] (pushO v [vI (1 : Int32), vR (mR (sI M7 a9 (1 : Int32).toNatClampNeg r8) l0 24)]) M9) from ⟨h.1, ?_⟩)
  replace h := h.2
  refine callX_mono (callX_len (d := (d + 9)) rfl rfl rfl (c185 (d := d + 7) h)) ?_
  clear h
  rintro v9 M10 ⟨hl, r11, rfl, h⟩
  replace hM := lenT hM hl
  show R265 sl sx d M0 P 121 [some (vR (some l0)), some (vI l1), some (vI l2), some (vI l3)] [vI r11, vI (1 : Int32), vR (mR (sI M7 a9 (1 : Int32).toNatClampNeg r8) l0 24)] M10
  obtain ⟨a12, he, h⟩ := h
  rw [he]
  refine RN_k (callX_det _) 1 _ _ _ _ (show inb M10 a12 11 (1 : Int32) ∧ R265 sl sx d M0 P 122 [some (vR (some l0)), some (vI l1), some (vI l2), some (vI l3)] [] (sI M10 a12 (1 : Int32).toNatClampNeg r11) from ⟨h.1, ?_⟩)
  replace h := h.2
  refine RN_k (callX_det _) 5 _ _ _ _ (show kd (sI M10 a12 (1 : Int32).toNatClampNeg r11) l0 10 ∧ callX TBg sl sx (d + 9) 213 [vR (some l0), vI l1, vI l2, vI l3] (sI M10 a12 (1 : Int32).toNatClampNeg r11) (fun v M9 => R265 sl sx d M0 P 129 [some (vR (some l0)), some (vI l1), some (vI l2), some (vI l3)] (pushO v []) M9) from ⟨h.1, ?_⟩)
  replace h := h.2
  refine callX_mono (callX_len (d := (d + 9)) rfl rfl rfl (c213 (d := d + 5) h)) ?_
  clear h
  rintro v9 M13 ⟨hl, rfl, h⟩
  replace hM := lenT hM hl
  show R265 sl sx d M0 P 129 [some (vR (some l0)), some (vI l1), some (vI l2), some (vI l3)] [] M13
  refine RN_k (callX_det _) 2 _ _ _ _ (show kd M13 l0 10 ∧ R265 sl sx d M0 P 133 [some (vR (some l0)), some (vI l1), some (vI l2), some (vI l3)] [vR (mR M13 l0 67)] M13 from ⟨h.1, ?_⟩)
  replace h := h.2
  refine RN_k (callX_det _) 8 _ _ _ _ (show kd M13 l0 10 ∧ callX TBg sl sx (d + 9) 239 [vR (some l0), vI (0 : Int32)] M13 (fun v M9 => R265 sl sx d M0 P 144 [some (vR (some l0)), some (vI l1), some (vI l2), some (vI l3)] (pushO v [vI (((8 : Int32) * l2) + l3), vR (mR M13 l0 67)]) M9) from ⟨h.1, ?_⟩)
  replace h := h.2
  refine callX_mono (callX_len (d := (d + 9)) rfl rfl rfl (c239 (d := d) h)) ?_
  clear h
  rintro v9 M14 ⟨hl, r15, rfl, h⟩
  replace hM := lenT hM hl
  show R265 sl sx d M0 P 144 [some (vR (some l0)), some (vI l1), some (vI l2), some (vI l3)] [vI r15, vI (((8 : Int32) * l2) + l3), vR (mR M13 l0 67)] M14
  obtain ⟨a16, he, h⟩ := h
  rw [he]
  refine RN_k (callX_det _) 1 _ _ _ _ (show inb M14 a16 14 (((8 : Int32) * l2) + l3) ∧ R265 sl sx d M0 P 145 [some (vR (some l0)), some (vI l1), some (vI l2), some (vI l3)] [] (sI M14 a16 (((8 : Int32) * l2) + l3).toNatClampNeg (r15 &&& 1)) from ⟨h.1, ?_⟩)
  replace h := h.2
  exact RN_weak (K := [some (vR (some l0)), some (vI l1), some (vI l2), some (vI l3)]) (callX_det _) (show _ ∧ _ ∧ _ ∧ _ ∧ True from ⟨rfl, rfl, rfl, rfl, trivial⟩) (t265_145 hk2 hk15 l0 l1 l2 l3 _ hM h)
def w265_15 (k2 : Nat → Int32 → Int32 → MM → Prop) : Nat → Nat → Int32 → Int32 → Int32 → MM → (MM → Prop) → Prop
  | 0 => fun _ _ _ _ _ _ => False
  | n + 1 => fun l0 l1 l2 l3 M P => kd M l0 10 ∧ w180 l0 l1 M (fun r2 M1 => (r2 ≤ l3 → (k2 l0 l1 (l2 + (1 : Int32)) M1)) ∧ (¬ (r2 ≤ l3) → (kd M1 l0 10 ∧ (∃ a3, mR M1 l0 67 = some a3 ∧ (inb M1 a3 14 (((8 : Int32) * l2) + l3) ∧ (kd (sI M1 a3 (((8 : Int32) * l2) + l3).toNatClampNeg ((0 : Int32) &&& 1)) l0 10 ∧ w184 l0 l1 l2 (sI M1 a3 (((8 : Int32) * l2) + l3).toNatClampNeg ((0 : Int32) &&& 1)) (fun r5 M4 => kd M4 l0 10 ∧ w184 l0 l1 l3 M4 (fun r7 M6 => (r5 ≠ r7 → (w265_69 k2 (fun z0 z1 z2 z3 z4 => w265_15 k2 n z0 z1 z2 z3 z4 P) l0 l1 l2 l3 M6 P)) ∧ (¬ (r5 ≠ r7) → (kd M6 l0 10 ∧ w185 l0 l1 l2 M6 (fun r9 M8 => kd M8 l0 10 ∧ w185 l0 l1 l3 M8 (fun r11 M10 => (r9 ≠ r11 → (w265_69 k2 (fun z0 z1 z2 z3 z4 => w265_15 k2 n z0 z1 z2 z3 z4 P) l0 l1 l2 l3 M10 P)) ∧ (¬ (r9 ≠ r11) → (w265_145 k2 (fun z0 z1 z2 z3 z4 => w265_15 k2 n z0 z1 z2 z3 z4 P) l0 l1 l2 l3 M10 P))))))))))))))
theorem t265_15 {sl : Nat} {sx : Nat → Int32} {d : Nat} {M0 : MM} {P : MM → Prop} {k2 : Nat → Int32 → Int32 → MM → Prop} (hk2 : ∀ (l0 : Nat) (l1 : Int32) (l2 : Int32) (M : MM), lenO M0 M → k2 l0 l1 l2 M → R265 sl sx d M0 P 2 [some (vR (some l0)), some (vI l1), some (vI l2), none] [] M) (n : Nat) : ∀ (l0 : Nat) (l1 : Int32) (l2 : Int32) (l3 : Int32) (M : MM) (_ : lenO M0 M) (_ : w265_15 k2 n l0 l1 l2 l3 M P), R265 sl sx d M0 P 15 [some (vR (some l0)), some (vI l1), some (vI l2), some (vI l3)] [] M := by
  induction n with
  | zero => intro l0 l1 l2 l3 M hM h; cases h
  | succ n ih =>
    intro l0 l1 l2 l3 M hM h
    refine RN_k (callX_det _) 4 _ _ _ _ (show kd M l0 10 ∧ callX TBg sl sx (d + 9) 180 [vR (some l0), vI l1] M (fun v M9 => R265 sl sx d M0 P 21 [some (vR (some l0)), some (vI l1), some (vI l2), some (vI l3)] (pushO v [vI l3]) M9) from ⟨h.1, ?_⟩)
    replace h := h.2
    refine callX_mono (callX_len (d := (d + 9)) rfl rfl rfl (c180 (d := d + 7) h)) ?_
    clear h
    rintro v9 M1 ⟨hl, r2, rfl, h⟩
    replace hM := lenT hM hl
    show R265 sl sx d M0 P 21 [some (vR (some l0)), some (vI l1), some (vI l2), some (vI l3)] [vI r2, vI l3] M1
    refine RN_k (callX_det _) 1 _ _ _ _ (show (r2 ≤ l3 → R265 sl sx d M0 P 151 [some (vR (some l0)), some (vI l1), some (vI l2), some (vI l3)] [] M1) ∧ (¬ (r2 ≤ l3) → R265 sl sx d M0 P 24 [some (vR (some l0)), some (vI l1), some (vI l2), some (vI l3)] [] M1) from ⟨fun hc => ?_, fun hc => ?_⟩)
    · replace h := h.1 hc
      refine RN_k (callX_det _) 2 _ _ _ _ (show R265 sl sx d M0 P 2 [some (vR (some l0)), some (vI l1), some (vI (l2 + (1 : Int32))), some (vI l3)] [] M1 from ?_)
      exact RN_weak (K := [some (vR (some l0)), some (vI l1), some (vI (l2 + (1 : Int32))), none]) (callX_det _) (show _ ∧ _ ∧ _ ∧ True from ⟨rfl, rfl, rfl, trivial⟩) (hk2 l0 l1 (l2 + (1 : Int32)) _ hM h)
    · replace h := h.2 hc
      refine RN_k (callX_det _) 2 _ _ _ _ (show kd M1 l0 10 ∧ R265 sl sx d M0 P 28 [some (vR (some l0)), some (vI l1), some (vI l2), some (vI l3)] [vR (mR M1 l0 67)] M1 from ⟨h.1, ?_⟩)
      replace h := h.2
      obtain ⟨a3, he, h⟩ := h
      refine RN_k (callX_det _) 6 _ _ _ _ (show R265 sl sx d M0 P 35 [some (vR (some l0)), some (vI l1), some (vI l2), some (vI l3)] [vI (0 : Int32), vI (((8 : Int32) * l2) + l3), vR (mR M1 l0 67)] M1 from ?_)
      rw [he]
      refine RN_k (callX_det _) 1 _ _ _ _ (show inb M1 a3 14 (((8 : Int32) * l2) + l3) ∧ R265 sl sx d M0 P 36 [some (vR (some l0)), some (vI l1), some (vI l2), some (vI l3)] [] (sI M1 a3 (((8 : Int32) * l2) + l3).toNatClampNeg ((0 : Int32) &&& 1)) from ⟨h.1, ?_⟩)
      replace h := h.2
      refine RN_k (callX_det _) 4 _ _ _ _ (show kd (sI M1 a3 (((8 : Int32) * l2) + l3).toNatClampNeg ((0 : Int32) &&& 1)) l0 10 ∧ callX TBg sl sx (d + 9) 184 [vR (some l0), vI l1, vI l2] (sI M1 a3 (((8 : Int32) * l2) + l3).toNatClampNeg ((0 : Int32) &&& 1)) (fun v M9 => R265 sl sx d M0 P 42 [some (vR (some l0)), some (vI l1), some (vI l2), some (vI l3)] (pushO v []) M9) from ⟨h.1, ?_⟩)
      replace h := h.2
      refine callX_mono (callX_len (d := (d + 9)) rfl rfl rfl (c184 (d := d + 7) h)) ?_
      clear h
      rintro v9 M4 ⟨hl, r5, rfl, h⟩
      replace hM := lenT hM hl
      show R265 sl sx d M0 P 42 [some (vR (some l0)), some (vI l1), some (vI l2), some (vI l3)] [vI r5] M4
      refine RN_k (callX_det _) 4 _ _ _ _ (show kd M4 l0 10 ∧ callX TBg sl sx (d + 9) 184 [vR (some l0), vI l1, vI l3] M4 (fun v M9 => R265 sl sx d M0 P 48 [some (vR (some l0)), some (vI l1), some (vI l2), some (vI l3)] (pushO v [vI r5]) M9) from ⟨h.1, ?_⟩)
      replace h := h.2
      refine callX_mono (callX_len (d := (d + 9)) rfl rfl rfl (c184 (d := d + 7) h)) ?_
      clear h
      rintro v9 M6 ⟨hl, r7, rfl, h⟩
      replace hM := lenT hM hl
      show R265 sl sx d M0 P 48 [some (vR (some l0)), some (vI l1), some (vI l2), some (vI l3)] [vI r7, vI r5] M6
      refine RN_k (callX_det _) 1 _ _ _ _ (show (r5 ≠ r7 → R265 sl sx d M0 P 69 [some (vR (some l0)), some (vI l1), some (vI l2), some (vI l3)] [] M6) ∧ (¬ (r5 ≠ r7) → R265 sl sx d M0 P 51 [some (vR (some l0)), some (vI l1), some (vI l2), some (vI l3)] [] M6) from ⟨fun hc => ?_, fun hc => ?_⟩)
      · replace h := h.1 hc
        exact RN_weak (K := [some (vR (some l0)), some (vI l1), some (vI l2), some (vI l3)]) (callX_det _) (show _ ∧ _ ∧ _ ∧ _ ∧ True from ⟨rfl, rfl, rfl, rfl, trivial⟩) (t265_69 hk2 ih l0 l1 l2 l3 _ hM h)
      · replace h := h.2 hc
        refine RN_k (callX_det _) 4 _ _ _ _ (show kd M6 l0 10 ∧ callX TBg sl sx (d + 9) 185 [vR (some l0), vI l1, vI l2] M6 (fun v M9 => R265 sl sx d M0 P 57 [some (vR (some l0)), some (vI l1), some (vI l2), some (vI l3)] (pushO v []) M9) from ⟨h.1, ?_⟩)
        replace h := h.2
        refine callX_mono (callX_len (d := (d + 9)) rfl rfl rfl (c185 (d := d + 7) h)) ?_
        clear h
        rintro v9 M8 ⟨hl, r9, rfl, h⟩
        replace hM := lenT hM hl
        show R265 sl sx d M0 P 57 [some (vR (some l0)), some (vI l1), some (vI l2), some (vI l3)] [vI r9] M8
        refine RN_k (callX_det _) 4 _ _ _ _ (show kd M8 l0 10 ∧ callX TBg sl sx (d + 9) 185 [vR (some l0), vI l1, vI l3] M8 (fun v M9 => R265 sl sx d M0 P 63 [some (vR (some l0)), some (vI l1), some (vI l2), some (vI l3)] (pushO v [vI r9]) M9) from ⟨h.1, ?_⟩)
        replace h := h.2
        refine callX_mono (callX_len (d := (d + 9)) rfl rfl rfl (c185 (d := d + 7) h)) ?_
        clear h
        rintro v9 M10 ⟨hl, r11, rfl, h⟩
        replace hM := lenT hM hl
        show R265 sl sx d M0 P 63 [some (vR (some l0)), some (vI l1), some (vI l2), some (vI l3)] [vI r11, vI r9] M10
        refine RN_k (callX_det _) 1 _ _ _ _ (show (r9 ≠ r11 → R265 sl sx d M0 P 69 [some (vR (some l0)), some (vI l1), some (vI l2), some (vI l3)] [] M10) ∧ (¬ (r9 ≠ r11) → R265 sl sx d M0 P 66 [some (vR (some l0)), some (vI l1), some (vI l2), some (vI l3)] [] M10) from ⟨fun hc => ?_, fun hc => ?_⟩)
        · replace h := h.1 hc
          exact RN_weak (K := [some (vR (some l0)), some (vI l1), some (vI l2), some (vI l3)]) (callX_det _) (show _ ∧ _ ∧ _ ∧ _ ∧ True from ⟨rfl, rfl, rfl, rfl, trivial⟩) (t265_69 hk2 ih l0 l1 l2 l3 _ hM h)
        · replace h := h.2 hc
          refine RN_k (callX_det _) 1 _ _ _ _ (show R265 sl sx d M0 P 145 [some (vR (some l0)), some (vI l1), some (vI l2), some (vI l3)] [] M10 from ?_)
          exact RN_weak (K := [some (vR (some l0)), some (vI l1), some (vI l2), some (vI l3)]) (callX_det _) (show _ ∧ _ ∧ _ ∧ _ ∧ True from ⟨rfl, rfl, rfl, rfl, trivial⟩) (t265_145 hk2 ih l0 l1 l2 l3 _ hM h)
def w265_2 : Nat → Nat → Int32 → Int32 → MM → (MM → Prop) → Prop
  | 0 => fun _ _ _ _ _ => False
  | n + 1 => fun l0 l1 l2 M P => kd M l0 10 ∧ w180 l0 l1 M (fun r2 M1 => (r2 ≤ l2 → (P M1)) ∧ (¬ (r2 ≤ l2) → (∃ n2, w265_15 (fun z0 z1 z2 z3 => w265_2  n z0 z1 z2 z3 P) n2 l0 l1 l2 (l2 + (1 : Int32)) M1 P)))
theorem t265_2 {sl : Nat} {sx : Nat → Int32} {d : Nat} {M0 : MM} {P : MM → Prop} (n : Nat) : ∀ (l0 : Nat) (l1 : Int32) (l2 : Int32) (M : MM) (_ : lenO M0 M) (_ : w265_2  n l0 l1 l2 M P), R265 sl sx d M0 P 2 [some (vR (some l0)), some (vI l1), some (vI l2), none] [] M := by
  induction n with
  | zero => intro l0 l1 l2 M hM h; cases h
  | succ n ih =>
    intro l0 l1 l2 M hM h
    refine RN_k (callX_det _) 4 _ _ _ _ (show kd M l0 10 ∧ callX TBg sl sx (d + 9) 180 [vR (some l0), vI l1] M (fun v M9 => R265 sl sx d M0 P 8 [some (vR (some l0)), some (vI l1), some (vI l2), none] (pushO v [vI l2]) M9) from ⟨h.1, ?_⟩)
    replace h := h.2
    refine callX_mono (callX_len (d := (d + 9)) rfl rfl rfl (c180 (d := d + 7) h)) ?_
    clear h
    rintro v9 M1 ⟨hl, r2, rfl, h⟩
    replace hM := lenT hM hl
    show R265 sl sx d M0 P 8 [some (vR (some l0)), some (vI l1), some (vI l2), none] [vI r2, vI l2] M1
    refine RN_k (callX_det _) 1 _ _ _ _ (show (r2 ≤ l2 → R265 sl sx d M0 P 157 [some (vR (some l0)), some (vI l1), some (vI l2), none] [] M1) ∧ (¬ (r2 ≤ l2) → R265 sl sx d M0 P 11 [some (vR (some l0)), some (vI l1), some (vI l2), none] [] M1) from ⟨fun hc => ?_, fun hc => ?_⟩)
    · replace h := h.1 hc
      exact RN_k (callX_det _) 1 _ _ _ _ (show rtW q265 M0 (PV P) none M1 from ⟨rfl, hM.1, hM.2, rfl, h⟩)
    · replace h := h.2 hc
      refine RN_k (callX_det _) 4 _ _ _ _ (show R265 sl sx d M0 P 15 [some (vR (some l0)), some (vI l1), some (vI l2), some (vI (l2 + (1 : Int32)))] [] M1 from ?_)
      obtain ⟨n2, h⟩ := h
      exact RN_weak (K := [some (vR (some l0)), some (vI l1), some (vI l2), some (vI (l2 + (1 : Int32)))]) (callX_det _) (show _ ∧ _ ∧ _ ∧ _ ∧ True from ⟨rfl, rfl, rfl, rfl, trivial⟩) (t265_15 ih n2 l0 l1 l2 (l2 + (1 : Int32)) _ hM h)
def w265 (l0 : Nat) (l1 : Int32) (M : MM) (P : MM → Prop) : Prop := ∃ n2, w265_2  n2 l0 l1 (0 : Int32) M P
theorem t265_E {sl : Nat} {sx : Nat → Int32} {d : Nat} {M0 : MM} {P : MM → Prop} (l0 : Nat) (l1 : Int32) (M : MM) (hM : lenO M0 M) (h : w265  l0 l1 M P) : R265 sl sx d M0 P 0 [some (vR (some l0)), some (vI l1), none, none] [] M := by
  refine RN_k (callX_det _) 2 _ _ _ _ (show R265 sl sx d M0 P 2 [some (vR (some l0)), some (vI l1), some (vI (0 : Int32)), none] [] M from ?_)
  obtain ⟨n2, h⟩ := h
  exact RN_weak (K := [some (vR (some l0)), some (vI l1), some (vI (0 : Int32)), none]) (callX_det _) (show _ ∧ _ ∧ _ ∧ True from ⟨rfl, rfl, rfl, trivial⟩) (t265_2  n2 l0 l1 (0 : Int32) _ hM h)
theorem c265 {sl : Nat} {sx : Nat → Int32} {d : Nat} {l0 : Nat} {l1 : Int32} {M : MM} {P : MM → Prop} (h : w265 l0 l1 M P) : callX TBg sl sx (d + 10) 265 [vR (some l0), vI l1] M (PV P) :=
  cX (d := d + 9) q265 (false, tb265) rfl rfl rfl (t265_E l0 l1 M lenR h)
-- TwoLeashModel.isThin(II)Z
abbrev q266 : MQ7 := (3, 1, 5, 10, 0, 0, 4)
abbrev R266 (sl : Nat) (sx : Nat → Int32) (d : Nat) (M0 : MM) (P : Int32 → MM → Prop) : Nat → LL → List VV → MM → Prop := RN 10 false (mS M0).length (mT M0) 0 0 sl sx (callX TBg sl sx (d + 2)) (rtW q266 M0 (PI P)) (as2 tb266)
def w266_47 (k5 : Nat → Int32 → Int32 → Int32 → Int32 → MM → Prop) (l0 : Nat) (l1 : Int32) (l2 : Int32) (l3 : Int32) (l4 : Int32) (M : MM) (P : Int32 → MM → Prop) : Prop := k5 l0 l1 l2 l3 (l4 + (1 : Int32)) M
theorem t266_47 {sl : Nat} {sx : Nat → Int32} {d : Nat} {M0 : MM} {P : Int32 → MM → Prop} {k5 : Nat → Int32 → Int32 → Int32 → Int32 → MM → Prop} (hk5 : ∀ (l0 : Nat) (l1 : Int32) (l2 : Int32) (l3 : Int32) (l4 : Int32) (M : MM), lenO M0 M → k5 l0 l1 l2 l3 l4 M → R266 sl sx d M0 P 5 [some (vR (some l0)), some (vI l1), some (vI l2), some (vI l3), some (vI l4)] [] M) (l0 : Nat) (l1 : Int32) (l2 : Int32) (l3 : Int32) (l4 : Int32) (M : MM) (hM : lenO M0 M) (h : w266_47 k5 l0 l1 l2 l3 l4 M P) : R266 sl sx d M0 P 47 [some (vR (some l0)), some (vI l1), some (vI l2), some (vI l3), some (vI l4)] [] M := by
  refine RN_k (callX_det _) 2 _ _ _ _ (show R266 sl sx d M0 P 5 [some (vR (some l0)), some (vI l1), some (vI l2), some (vI l3), some (vI (l4 + (1 : Int32)))] [] M from ?_)
  exact RN_weak (K := [some (vR (some l0)), some (vI l1), some (vI l2), some (vI l3), some (vI (l4 + (1 : Int32)))]) (callX_det _) (show _ ∧ _ ∧ _ ∧ _ ∧ _ ∧ True from ⟨rfl, rfl, rfl, rfl, rfl, trivial⟩) (hk5 l0 l1 l2 l3 (l4 + (1 : Int32)) _ hM h)
def w266_5 : Nat → Nat → Int32 → Int32 → Int32 → Int32 → MM → (Int32 → MM → Prop) → Prop
  | 0 => fun _ _ _ _ _ _ _ => False
  | n + 1 => fun l0 l1 l2 l3 l4 M P => kd M l0 10 ∧ w180 l0 l1 M (fun r2 M1 => (r2 ≤ l4 → (P (1 : Int32) M1)) ∧ (¬ (r2 ≤ l4) → ((((l2 >>> (l4 &&& 31)) &&& (1 : Int32)) ≠ 0 → (kd M1 l0 10 ∧ (∃ a3, mR M1 l0 67 = some a3 ∧ (inb M1 a3 14 (((8 : Int32) * l3) + l4) ∧ (((mI M1 a3 (((8 : Int32) * l3) + l4).toNatClampNeg) ≠ 0 → (w266_47 (fun z0 z1 z2 z3 z4 z5 => w266_5  n z0 z1 z2 z3 z4 z5 P) l0 l1 l2 l4 l4 M1 P)) ∧ (¬ ((mI M1 a3 (((8 : Int32) * l3) + l4).toNatClampNeg) ≠ 0) → (P (0 : Int32) M1))))))) ∧ (¬ (((l2 >>> (l4 &&& 31)) &&& (1 : Int32)) ≠ 0) → (w266_47 (fun z0 z1 z2 z3 z4 z5 => w266_5  n z0 z1 z2 z3 z4 z5 P) l0 l1 l2 l3 l4 M1 P)))))
theorem t266_5 {sl : Nat} {sx : Nat → Int32} {d : Nat} {M0 : MM} {P : Int32 → MM → Prop} (n : Nat) : ∀ (l0 : Nat) (l1 : Int32) (l2 : Int32) (l3 : Int32) (l4 : Int32) (M : MM) (_ : lenO M0 M) (_ : w266_5  n l0 l1 l2 l3 l4 M P), R266 sl sx d M0 P 5 [some (vR (some l0)), some (vI l1), some (vI l2), some (vI l3), some (vI l4)] [] M := by
  induction n with
  | zero => intro l0 l1 l2 l3 l4 M hM h; cases h
  | succ n ih =>
    intro l0 l1 l2 l3 l4 M hM h
    refine RN_k (callX_det _) 4 _ _ _ _ (show kd M l0 10 ∧ callX TBg sl sx (d + 2) 180 [vR (some l0), vI l1] M (fun v M9 => R266 sl sx d M0 P 12 [some (vR (some l0)), some (vI l1), some (vI l2), some (vI l3), some (vI l4)] (pushO v [vI l4]) M9) from ⟨h.1, ?_⟩)
    replace h := h.2
    refine callX_mono (callX_len (d := (d + 2)) rfl rfl rfl (c180 (d := d) h)) ?_
    clear h
    rintro v9 M1 ⟨hl, r2, rfl, h⟩
    replace hM := lenT hM hl
    show R266 sl sx d M0 P 12 [some (vR (some l0)), some (vI l1), some (vI l2), some (vI l3), some (vI l4)] [vI r2, vI l4] M1
    refine RN_k (callX_det _) 1 _ _ _ _ (show (r2 ≤ l4 → R266 sl sx d M0 P 53 [some (vR (some l0)), some (vI l1), some (vI l2), some (vI l3), some (vI l4)] [] M1) ∧ (¬ (r2 ≤ l4) → R266 sl sx d M0 P 15 [some (vR (some l0)), some (vI l1), some (vI l2), some (vI l3), some (vI l4)] [] M1) from ⟨fun hc => ?_, fun hc => ?_⟩)
    · replace h := h.1 hc
      exact RN_k (callX_det _) 2 _ _ _ _ (show rtW q266 M0 (PI P) (some (vI (1 : Int32))) M1 from ⟨⟨_, rfl, Or.inr rfl⟩, hM.1, hM.2, _, rfl, h⟩)
    · replace h := h.2 hc
      refine RN_k (callX_det _) 6 _ _ _ _ (show (((l2 >>> (l4 &&& 31)) &&& (1 : Int32)) ≠ 0 → R266 sl sx d M0 P 27 [some (vR (some l0)), some (vI l1), some (vI l2), some (vI l3), some (vI l4)] [] M1) ∧ (¬ (((l2 >>> (l4 &&& 31)) &&& (1 : Int32)) ≠ 0) → R266 sl sx d M0 P 24 [some (vR (some l0)), some (vI l1), some (vI l2), some (vI l3), some (vI l4)] [] M1) from ⟨fun hc => ?_, fun hc => ?_⟩)
      · replace h := h.1 hc
        refine RN_k (callX_det _) 2 _ _ _ _ (show kd M1 l0 10 ∧ R266 sl sx d M0 P 31 [some (vR (some l0)), some (vI l1), some (vI l2), some (vI l3), some (vI l4)] [vR (mR M1 l0 67)] M1 from ⟨h.1, ?_⟩)
        replace h := h.2
        obtain ⟨a3, he, h⟩ := h
        refine RN_k (callX_det _) 5 _ _ _ _ (show R266 sl sx d M0 P 38 [some (vR (some l0)), some (vI l1), some (vI l2), some (vI l3), some (vI l4)] [vI (((8 : Int32) * l3) + l4), vR (mR M1 l0 67)] M1 from ?_)
        rw [he]
        refine RN_k (callX_det _) 1 _ _ _ _ (show inb M1 a3 14 (((8 : Int32) * l3) + l4) ∧ R266 sl sx d M0 P 39 [some (vR (some l0)), some (vI l1), some (vI l2), some (vI l3), some (vI l4)] [vI (mI M1 a3 (((8 : Int32) * l3) + l4).toNatClampNeg)] M1 from ⟨h.1, ?_⟩)
        replace h := h.2
        refine RN_k (callX_det _) 1 _ _ _ _ (show ((mI M1 a3 (((8 : Int32) * l3) + l4).toNatClampNeg) ≠ 0 → R266 sl sx d M0 P 44 [some (vR (some l0)), some (vI l1), some (vI l2), some (vI l3), some (vI l4)] [] M1) ∧ (¬ ((mI M1 a3 (((8 : Int32) * l3) + l4).toNatClampNeg) ≠ 0) → R266 sl sx d M0 P 42 [some (vR (some l0)), some (vI l1), some (vI l2), some (vI l3), some (vI l4)] [] M1) from ⟨fun hc => ?_, fun hc => ?_⟩)
        · replace h := h.1 hc
          refine RN_k (callX_det _) 2 _ _ _ _ (show R266 sl sx d M0 P 47 [some (vR (some l0)), some (vI l1), some (vI l2), some (vI l4), some (vI l4)] [] M1 from ?_)
          exact RN_weak (K := [some (vR (some l0)), some (vI l1), some (vI l2), some (vI l4), some (vI l4)]) (callX_det _) (show _ ∧ _ ∧ _ ∧ _ ∧ _ ∧ True from ⟨rfl, rfl, rfl, rfl, rfl, trivial⟩) (t266_47 ih l0 l1 l2 l4 l4 _ hM h)
        · replace h := h.2 hc
          exact RN_k (callX_det _) 2 _ _ _ _ (show rtW q266 M0 (PI P) (some (vI (0 : Int32))) M1 from ⟨⟨_, rfl, Or.inl rfl⟩, hM.1, hM.2, _, rfl, h⟩)
      · replace h := h.2 hc
        refine RN_k (callX_det _) 1 _ _ _ _ (show R266 sl sx d M0 P 47 [some (vR (some l0)), some (vI l1), some (vI l2), some (vI l3), some (vI l4)] [] M1 from ?_)
        exact RN_weak (K := [some (vR (some l0)), some (vI l1), some (vI l2), some (vI l3), some (vI l4)]) (callX_det _) (show _ ∧ _ ∧ _ ∧ _ ∧ _ ∧ True from ⟨rfl, rfl, rfl, rfl, rfl, trivial⟩) (t266_47 ih l0 l1 l2 l3 l4 _ hM h)
def w266 (l0 : Nat) (l1 : Int32) (l2 : Int32) (M : MM) (P : Int32 → MM → Prop) : Prop := ∃ n2, w266_5  n2 l0 l1 l2 (0 : Int32) (1 : Int32) M P
theorem t266_E {sl : Nat} {sx : Nat → Int32} {d : Nat} {M0 : MM} {P : Int32 → MM → Prop} (l0 : Nat) (l1 : Int32) (l2 : Int32) (M : MM) (hM : lenO M0 M) (h : w266  l0 l1 l2 M P) : R266 sl sx d M0 P 0 [some (vR (some l0)), some (vI l1), some (vI l2), none, none] [] M := by
  refine RN_k (callX_det _) 4 _ _ _ _ (show R266 sl sx d M0 P 5 [some (vR (some l0)), some (vI l1), some (vI l2), some (vI (0 : Int32)), some (vI (1 : Int32))] [] M from ?_)
  obtain ⟨n2, h⟩ := h
  exact RN_weak (K := [some (vR (some l0)), some (vI l1), some (vI l2), some (vI (0 : Int32)), some (vI (1 : Int32))]) (callX_det _) (show _ ∧ _ ∧ _ ∧ _ ∧ _ ∧ True from ⟨rfl, rfl, rfl, rfl, rfl, trivial⟩) (t266_5  n2 l0 l1 l2 (0 : Int32) (1 : Int32) _ hM h)
theorem c266 {sl : Nat} {sx : Nat → Int32} {d : Nat} {l0 : Nat} {l1 : Int32} {l2 : Int32} {M : MM} {P : Int32 → MM → Prop} (h : w266 l0 l1 l2 M P) : callX TBg sl sx (d + 3) 266 [vR (some l0), vI l1, vI l2] M (PI P) :=
  cX (d := d + 2) q266 (false, tb266) rfl rfl rfl (t266_E l0 l1 l2 M lenR h)
-- TwoLeashModel.thinned(IIII)I
abbrev q264 : MQ7 := (5, 1, 8, 10, 0, 0, 1)
abbrev R264 (sl : Nat) (sx : Nat → Int32) (d : Nat) (M0 : MM) (P : Int32 → MM → Prop) : Nat → LL → List VV → MM → Prop := RN 10 false (mS M0).length (mT M0) 0 0 sl sx (callX TBg sl sx (d + 10)) (rtW q264 M0 (PI P)) (as2 tb264)
def w264_18 (l0 : Nat) (M : MM) (P : Int32 → MM → Prop) : Prop := kd M l0 10 ∧ w167 l0 (1 : Int32) M (fun r2 M1 => P r2 M1)
theorem t264_18 {sl : Nat} {sx : Nat → Int32} {d : Nat} {M0 : MM} {P : Int32 → MM → Prop} (l0 : Nat) (M : MM) (hM : lenO M0 M) (h : w264_18  l0 M P) : R264 sl sx d M0 P 18 [some (vR (some l0)), none, none, none, none, none, none, none] [] M := by
  refine RN_k (callX_det _) 3 _ _ _ _ (show kd M l0 10 ∧ callX TBg sl sx (d + 10) 167 [vR (some l0), vI (1 : Int32)] M (fun v M9 => R264 sl sx d M0 P 23 [some (vR (some l0)), none, none, none, none, none, none, none] (pushO v []) M9) from ⟨h.1, ?_⟩)
  replace h := h.2
  refine callX_mono (callX_len (d := (d + 10)) rfl rfl rfl (c167 (d := d + 9) h)) ?_
  clear h
  rintro v9 M1 ⟨hl, r2, rfl, h⟩
  replace hM := lenT hM hl
  show R264 sl sx d M0 P 23 [some (vR (some l0)), none, none, none, none, none, none, none] [vI r2] M1
  exact RN_k (callX_det _) 1 _ _ _ _ (show rtW q264 M0 (PI P) (some (vI r2)) M1 from ⟨⟨_, rfl⟩, hM.1, hM.2, _, rfl, h⟩)
def w264_148 (s0 : Option Nat) (s1 : Int32) (M : MM) (P : Int32 → MM → Prop) : Prop := ∃ a1, s0 = some a1 ∧ (kd M a1 10 ∧ w177 a1 s1 M (fun r3 M2 => P r3 M2))
theorem t264_148 {sl : Nat} {sx : Nat → Int32} {d : Nat} {M0 : MM} {P : Int32 → MM → Prop} (s0 : Option Nat) (s1 : Int32) (M : MM) (hM : lenO M0 M) (h : w264_148  s0 s1 M P) : R264 sl sx d M0 P 148 [none, none, none, none, none, none, none, none] [vI s1, vR s0] M := by
  obtain ⟨a1, he, h⟩ := h
  subst he
  refine RN_k (callX_det _) 1 _ _ _ _ (show kd M a1 10 ∧ callX TBg sl sx (d + 10) 177 [vR (some a1), vI s1] M (fun v M9 => R264 sl sx d M0 P 151 [none, none, none, none, none, none, none, none] (pushO v []) M9) from ⟨h.1, ?_⟩)
  replace h := h.2
  refine callX_mono (callX_len (d := (d + 10)) rfl rfl rfl (c177 (d := d + 9) h)) ?_
  clear h
  rintro v9 M2 ⟨hl, r3, rfl, h⟩
  replace hM := lenT hM hl
  show R264 sl sx d M0 P 151 [none, none, none, none, none, none, none, none] [vI r3] M2
  exact RN_k (callX_det _) 1 _ _ _ _ (show rtW q264 M0 (PI P) (some (vI r3)) M2 from ⟨⟨_, rfl⟩, hM.1, hM.2, _, rfl, h⟩)
def w264_126 (k68 : Nat → Int32 → Int32 → Int32 → Int32 → Int32 → MM → Prop) (l0 : Nat) (l1 : Int32) (l4 : Int32) (l5 : Int32) (l6 : Int32) (l7 : Int32) (M : MM) (P : Int32 → MM → Prop) : Prop := k68 l0 l1 l4 l5 l6 (l7 + (1 : Int32)) M
theorem t264_126 {sl : Nat} {sx : Nat → Int32} {d : Nat} {M0 : MM} {P : Int32 → MM → Prop} {k68 : Nat → Int32 → Int32 → Int32 → Int32 → Int32 → MM → Prop} (hk68 : ∀ (l0 : Nat) (l1 : Int32) (l4 : Int32) (l5 : Int32) (l6 : Int32) (l7 : Int32) (M : MM), lenO M0 M → k68 l0 l1 l4 l5 l6 l7 M → R264 sl sx d M0 P 68 [some (vR (some l0)), some (vI l1), none, none, some (vI l4), some (vI l5), some (vI l6), some (vI l7)] [] M) (l0 : Nat) (l1 : Int32) (l4 : Int32) (l5 : Int32) (l6 : Int32) (l7 : Int32) (M : MM) (hM : lenO M0 M) (h : w264_126 k68 l0 l1 l4 l5 l6 l7 M P) : R264 sl sx d M0 P 126 [some (vR (some l0)), some (vI l1), none, none, some (vI l4), some (vI l5), some (vI l6), some (vI l7)] [] M := by
  refine RN_k (callX_det _) 2 _ _ _ _ (show R264 sl sx d M0 P 68 [some (vR (some l0)), some (vI l1), none, none, some (vI l4), some (vI l5), some (vI l6), some (vI (l7 + (1 : Int32)))] [] M from ?_)
  exact RN_weak (K := [some (vR (some l0)), some (vI l1), none, none, some (vI l4), some (vI l5), some (vI l6), some (vI (l7 + (1 : Int32)))]) (callX_det _) (show _ ∧ _ ∧ _ ∧ _ ∧ _ ∧ _ ∧ True from ⟨rfl, rfl, rfl, rfl, rfl, rfl, trivial⟩) (hk68 l0 l1 l4 l5 l6 (l7 + (1 : Int32)) _ hM h)
def w264_122 (k68 : Nat → Int32 → Int32 → Int32 → Int32 → Int32 → MM → Prop) (l0 : Nat) (l1 : Int32) (l4 : Int32) (l5 : Int32) (l7 : Int32) (M : MM) (P : Int32 → MM → Prop) : Prop := w264_126 k68 l0 l1 l4 l5 l7 l7 M P
theorem t264_122 {sl : Nat} {sx : Nat → Int32} {d : Nat} {M0 : MM} {P : Int32 → MM → Prop} {k68 : Nat → Int32 → Int32 → Int32 → Int32 → Int32 → MM → Prop} (hk68 : ∀ (l0 : Nat) (l1 : Int32) (l4 : Int32) (l5 : Int32) (l6 : Int32) (l7 : Int32) (M : MM), lenO M0 M → k68 l0 l1 l4 l5 l6 l7 M → R264 sl sx d M0 P 68 [some (vR (some l0)), some (vI l1), none, none, some (vI l4), some (vI l5), some (vI l6), some (vI l7)] [] M) (l0 : Nat) (l1 : Int32) (l4 : Int32) (l5 : Int32) (l7 : Int32) (M : MM) (hM : lenO M0 M) (h : w264_122 k68 l0 l1 l4 l5 l7 M P) : R264 sl sx d M0 P 122 [some (vR (some l0)), some (vI l1), none, none, some (vI l4), some (vI l5), none, some (vI l7)] [] M := by
  refine RN_k (callX_det _) 2 _ _ _ _ (show R264 sl sx d M0 P 126 [some (vR (some l0)), some (vI l1), none, none, some (vI l4), some (vI l5), some (vI l7), some (vI l7)] [] M from ?_)
  exact RN_weak (K := [some (vR (some l0)), some (vI l1), none, none, some (vI l4), some (vI l5), some (vI l7), some (vI l7)]) (callX_det _) (show _ ∧ _ ∧ _ ∧ _ ∧ _ ∧ _ ∧ True from ⟨rfl, rfl, rfl, rfl, rfl, rfl, trivial⟩) (t264_126 hk68 l0 l1 l4 l5 l7 l7 _ hM h)
def w264_68 : Nat → Nat → Int32 → Int32 → Int32 → Int32 → Int32 → MM → (Int32 → MM → Prop) → Prop
  | 0 => fun _ _ _ _ _ _ _ _ => False
  | n + 1 => fun l0 l1 l4 l5 l6 l7 M P => kd M l0 10 ∧ w180 l0 l1 M (fun r2 M1 => (((1 : Int32) <<< (r2 &&& 31)) ≤ l7 → ((l4 ≠ 0 → (w264_148  (some l0) l6 M1 P)) ∧ (¬ (l4 ≠ 0) → (w133 l6 M1 (fun r4 M3 => w264_148  (some l0) r4 M3 P))))) ∧ (¬ (((1 : Int32) <<< (r2 &&& 31)) ≤ l7) → (((l7 &&& l5) ≠ l5 → (w264_126 (fun z0 z1 z2 z3 z4 z5 z6 => w264_68  n z0 z1 z2 z3 z4 z5 z6 P) l0 l1 l4 l5 l6 l7 M1 P)) ∧ (¬ ((l7 &&& l5) ≠ l5) → (kd M1 l0 10 ∧ w266 l0 l1 l7 M1 (fun r6 M5 => (r6 ≠ 0 → ((l6 = (-1 : Int32) → (w264_122 (fun z0 z1 z2 z3 z4 z5 z6 => w264_68  n z0 z1 z2 z3 z4 z5 z6 P) l0 l1 l4 l5 l7 M5 P)) ∧ (¬ (l6 = (-1 : Int32)) → (w133 l7 M5 (fun r8 M7 => w133 l6 M7 (fun r10 M9 => (r10 ≤ r8 → (w264_126 (fun z0 z1 z2 z3 z4 z5 z6 => w264_68  n z0 z1 z2 z3 z4 z5 z6 P) l0 l1 l4 l5 l6 l7 M9 P)) ∧ (¬ (r10 ≤ r8) → (w264_122 (fun z0 z1 z2 z3 z4 z5 z6 => w264_68  n z0 z1 z2 z3 z4 z5 z6 P) l0 l1 l4 l5 l7 M9 P)))))))) ∧ (¬ (r6 ≠ 0) → (w264_126 (fun z0 z1 z2 z3 z4 z5 z6 => w264_68  n z0 z1 z2 z3 z4 z5 z6 P) l0 l1 l4 l5 l6 l7 M5 P))))))))
theorem t264_68 {sl : Nat} {sx : Nat → Int32} {d : Nat} {M0 : MM} {P : Int32 → MM → Prop} (n : Nat) : ∀ (l0 : Nat) (l1 : Int32) (l4 : Int32) (l5 : Int32) (l6 : Int32) (l7 : Int32) (M : MM) (_ : lenO M0 M) (_ : w264_68  n l0 l1 l4 l5 l6 l7 M P), R264 sl sx d M0 P 68 [some (vR (some l0)), some (vI l1), none, none, some (vI l4), some (vI l5), some (vI l6), some (vI l7)] [] M := by
  induction n with
  | zero => intro l0 l1 l4 l5 l6 l7 M hM h; cases h
  | succ n ih =>
    intro l0 l1 l4 l5 l6 l7 M hM h
    refine RN_k (callX_det _) 5 _ _ _ _ (show kd M l0 10 ∧ callX TBg sl sx (d + 10) 180 [vR (some l0), vI l1] M (fun v M9 => R264 sl sx d M0 P 76 [some (vR (some l0)), some (vI l1), none, none, some (vI l4), some (vI l5), some (vI l6), some (vI l7)] (pushO v [vI (1 : Int32), vI l7]) M9) from ⟨h.1, ?_⟩)
    replace h := h.2
    refine callX_mono (callX_len (d := (d + 10)) rfl rfl rfl (c180 (d := d + 8) h)) ?_
    clear h
    rintro v9 M1 ⟨hl, r2, rfl, h⟩
    replace hM := lenT hM hl
    show R264 sl sx d M0 P 76 [some (vR (some l0)), some (vI l1), none, none, some (vI l4), some (vI l5), some (vI l6), some (vI l7)] [vI r2, vI (1 : Int32), vI l7] M1
    refine RN_k (callX_det _) 2 _ _ _ _ (show (((1 : Int32) <<< (r2 &&& 31)) ≤ l7 → R264 sl sx d M0 P 132 [some (vR (some l0)), some (vI l1), none, none, some (vI l4), some (vI l5), some (vI l6), some (vI l7)] [] M1) ∧ (¬ (((1 : Int32) <<< (r2 &&& 31)) ≤ l7) → R264 sl sx d M0 P 80 [some (vR (some l0)), some (vI l1), none, none, some (vI l4), some (vI l5), some (vI l6), some (vI l7)] [] M1) from ⟨fun hc => ?_, fun hc => ?_⟩)
    · replace h := h.1 hc
      refine RN_k (callX_det _) 3 _ _ _ _ (show (l4 ≠ 0 → R264 sl sx d M0 P 146 [some (vR (some l0)), some (vI l1), none, none, some (vI l4), some (vI l5), some (vI l6), some (vI l7)] [vR (some l0)] M1) ∧ (¬ (l4 ≠ 0) → R264 sl sx d M0 P 138 [some (vR (some l0)), some (vI l1), none, none, some (vI l4), some (vI l5), some (vI l6), some (vI l7)] [vR (some l0)] M1) from ⟨fun hc => ?_, fun hc => ?_⟩)
      · replace h := h.1 hc
        refine RN_k (callX_det _) 1 _ _ _ _ (show R264 sl sx d M0 P 148 [some (vR (some l0)), some (vI l1), none, none, some (vI l4), some (vI l5), some (vI l6), some (vI l7)] [vI l6, vR (some l0)] M1 from ?_)
        exact RN_weak (K := [none, none, none, none, none, none, none, none]) (callX_det _) (show True from trivial) (t264_148  (some l0) l6 _ hM h)
      · replace h := h.2 hc
        refine RN_k (callX_det _) 2 _ _ _ _ (show callX TBg sl sx (d + 10) 133 [vI l6] M1 (fun v M9 => R264 sl sx d M0 P 143 [some (vR (some l0)), some (vI l1), none, none, some (vI l4), some (vI l5), some (vI l6), some (vI l7)] (pushO v [vR (some l0)]) M9) from ?_)
        refine callX_mono (callX_len (d := (d + 10)) rfl rfl rfl (c133 (d := d + 9) h)) ?_
        clear h
        rintro v9 M3 ⟨hl, r4, rfl, h⟩
        replace hM := lenT hM hl
        show R264 sl sx d M0 P 143 [some (vR (some l0)), some (vI l1), none, none, some (vI l4), some (vI l5), some (vI l6), some (vI l7)] [vI r4, vR (some l0)] M3
        refine RN_k (callX_det _) 1 _ _ _ _ (show R264 sl sx d M0 P 148 [some (vR (some l0)), some (vI l1), none, none, some (vI l4), some (vI l5), some (vI l6), some (vI l7)] [vI r4, vR (some l0)] M3 from ?_)
        exact RN_weak (K := [none, none, none, none, none, none, none, none]) (callX_det _) (show True from trivial) (t264_148  (some l0) r4 _ hM h)
    · replace h := h.2 hc
      refine RN_k (callX_det _) 5 _ _ _ _ (show ((l7 &&& l5) ≠ l5 → R264 sl sx d M0 P 126 [some (vR (some l0)), some (vI l1), none, none, some (vI l4), some (vI l5), some (vI l6), some (vI l7)] [] M1) ∧ (¬ ((l7 &&& l5) ≠ l5) → R264 sl sx d M0 P 90 [some (vR (some l0)), some (vI l1), none, none, some (vI l4), some (vI l5), some (vI l6), some (vI l7)] [] M1) from ⟨fun hc => ?_, fun hc => ?_⟩)
      · replace h := h.1 hc
        exact RN_weak (K := [some (vR (some l0)), some (vI l1), none, none, some (vI l4), some (vI l5), some (vI l6), some (vI l7)]) (callX_det _) (show _ ∧ _ ∧ _ ∧ _ ∧ _ ∧ _ ∧ True from ⟨rfl, rfl, rfl, rfl, rfl, rfl, trivial⟩) (t264_126 ih l0 l1 l4 l5 l6 l7 _ hM h)
      · replace h := h.2 hc
        refine RN_k (callX_det _) 4 _ _ _ _ (show kd M1 l0 10 ∧ callX TBg sl sx (d + 10) 266 [vR (some l0), vI l1, vI l7] M1 (fun v M9 => R264 sl sx d M0 P 97 [some (vR (some l0)), some (vI l1), none, none, some (vI l4), some (vI l5), some (vI l6), some (vI l7)] (pushO v []) M9) from ⟨h.1, ?_⟩)
        replace h := h.2
        refine callX_mono (callX_len (d := (d + 10)) rfl rfl rfl (c266 (d := d + 7) h)) ?_
        clear h
        rintro v9 M5 ⟨hl, r6, rfl, h⟩
        replace hM := lenT hM hl
        show R264 sl sx d M0 P 97 [some (vR (some l0)), some (vI l1), none, none, some (vI l4), some (vI l5), some (vI l6), some (vI l7)] [vI r6] M5
        refine RN_k (callX_det _) 1 _ _ _ _ (show (r6 ≠ 0 → R264 sl sx d M0 P 103 [some (vR (some l0)), some (vI l1), none, none, some (vI l4), some (vI l5), some (vI l6), some (vI l7)] [] M5) ∧ (¬ (r6 ≠ 0) → R264 sl sx d M0 P 100 [some (vR (some l0)), some (vI l1), none, none, some (vI l4), some (vI l5), some (vI l6), some (vI l7)] [] M5) from ⟨fun hc => ?_, fun hc => ?_⟩)
        · replace h := h.1 hc
          refine RN_k (callX_det _) 3 _ _ _ _ (show (l6 = (-1 : Int32) → R264 sl sx d M0 P 122 [some (vR (some l0)), some (vI l1), none, none, some (vI l4), some (vI l5), some (vI l6), some (vI l7)] [] M5) ∧ (¬ (l6 = (-1 : Int32)) → R264 sl sx d M0 P 109 [some (vR (some l0)), some (vI l1), none, none, some (vI l4), some (vI l5), some (vI l6), some (vI l7)] [] M5) from ⟨fun hc => ?_, fun hc => ?_⟩)
          · replace h := h.1 hc
            exact RN_weak (K := [some (vR (some l0)), some (vI l1), none, none, some (vI l4), some (vI l5), none, some (vI l7)]) (callX_det _) (show _ ∧ _ ∧ _ ∧ _ ∧ _ ∧ True from ⟨rfl, rfl, rfl, rfl, rfl, trivial⟩) (t264_122 ih l0 l1 l4 l5 l7 _ hM h)
          · replace h := h.2 hc
            refine RN_k (callX_det _) 2 _ _ _ _ (show callX TBg sl sx (d + 10) 133 [vI l7] M5 (fun v M9 => R264 sl sx d M0 P 114 [some (vR (some l0)), some (vI l1), none, none, some (vI l4), some (vI l5), some (vI l6), some (vI l7)] (pushO v []) M9) from ?_)
            refine callX_mono (callX_len (d := (d + 10)) rfl rfl rfl (c133 (d := d + 9) h)) ?_
            clear h
            rintro v9 M7 ⟨hl, r8, rfl, h⟩
            replace hM := lenT hM hl
            show R264 sl sx d M0 P 114 [some (vR (some l0)), some (vI l1), none, none, some (vI l4), some (vI l5), some (vI l6), some (vI l7)] [vI r8] M7
            refine RN_k (callX_det _) 2 _ _ _ _ (show callX TBg sl sx (d + 10) 133 [vI l6] M7 (fun v M9 => R264 sl sx d M0 P 119 [some (vR (some l0)), some (vI l1), none, none, some (vI l4), some (vI l5), some (vI l6), some (vI l7)] (pushO v [vI r8]) M9) from ?_)
            refine callX_mono (callX_len (d := (d + 10)) rfl rfl rfl (c133 (d := d + 9) h)) ?_
            clear h
            rintro v9 M9 ⟨hl, r10, rfl, h⟩
            replace hM := lenT hM hl
            show R264 sl sx d M0 P 119 [some (vR (some l0)), some (vI l1), none, none, some (vI l4), some (vI l5), some (vI l6), some (vI l7)] [vI r10, vI r8] M9
            refine RN_k (callX_det _) 1 _ _ _ _ (show (r10 ≤ r8 → R264 sl sx d M0 P 126 [some (vR (some l0)), some (vI l1), none, none, some (vI l4), some (vI l5), some (vI l6), some (vI l7)] [] M9) ∧ (¬ (r10 ≤ r8) → R264 sl sx d M0 P 122 [some (vR (some l0)), some (vI l1), none, none, some (vI l4), some (vI l5), some (vI l6), some (vI l7)] [] M9) from ⟨fun hc => ?_, fun hc => ?_⟩)
            · replace h := h.1 hc
              exact RN_weak (K := [some (vR (some l0)), some (vI l1), none, none, some (vI l4), some (vI l5), some (vI l6), some (vI l7)]) (callX_det _) (show _ ∧ _ ∧ _ ∧ _ ∧ _ ∧ _ ∧ True from ⟨rfl, rfl, rfl, rfl, rfl, rfl, trivial⟩) (t264_126 ih l0 l1 l4 l5 l6 l7 _ hM h)
            · replace h := h.2 hc
              exact RN_weak (K := [some (vR (some l0)), some (vI l1), none, none, some (vI l4), some (vI l5), none, some (vI l7)]) (callX_det _) (show _ ∧ _ ∧ _ ∧ _ ∧ _ ∧ True from ⟨rfl, rfl, rfl, rfl, rfl, trivial⟩) (t264_122 ih l0 l1 l4 l5 l7 _ hM h)
        · replace h := h.2 hc
          refine RN_k (callX_det _) 1 _ _ _ _ (show R264 sl sx d M0 P 126 [some (vR (some l0)), some (vI l1), none, none, some (vI l4), some (vI l5), some (vI l6), some (vI l7)] [] M5 from ?_)
          exact RN_weak (K := [some (vR (some l0)), some (vI l1), none, none, some (vI l4), some (vI l5), some (vI l6), some (vI l7)]) (callX_det _) (show _ ∧ _ ∧ _ ∧ _ ∧ _ ∧ _ ∧ True from ⟨rfl, rfl, rfl, rfl, rfl, rfl, trivial⟩) (t264_126 ih l0 l1 l4 l5 l6 l7 _ hM h)
def w264 (l0 : Nat) (l1 : Int32) (l2 : Int32) (l3 : Int32) (l4 : Int32) (M : MM) (P : Int32 → MM → Prop) : Prop := w209 l2 l3 M (fun r2 M1 => (r2 = 0 → (w264_18  l0 M1 P)) ∧ (¬ (r2 = 0) → (w166 l4 (0 : Int32) (1 : Int32) M1 (fun r4 M3 => (r4 ≠ 0 → (kd M3 l0 10 ∧ w182 l0 l1 M3 (fun r6 M5 => (r6 ≠ 0 → (kd M5 l0 10 ∧ w215 l0 l2 l3 M5 (fun M7 => kd M7 l0 10 ∧ w265 l0 l1 M7 (fun M8 => kd M8 l0 10 ∧ w180 l0 l1 M8 (fun r10 M9 => ∃ n2, w264_68  n2 l0 l1 l4 ((1 : Int32) ||| ((1 : Int32) <<< ((r10 - (1 : Int32)) &&& 31))) (-1 : Int32) (0 : Int32) M9 P))))) ∧ (¬ (r6 ≠ 0) → (kd M5 l0 10 ∧ w167 l0 (2 : Int32) M5 (fun r12 M11 => P r12 M11)))))) ∧ (¬ (r4 ≠ 0) → (w264_18  l0 M3 P))))))
theorem t264_E {sl : Nat} {sx : Nat → Int32} {d : Nat} {M0 : MM} {P : Int32 → MM → Prop} (l0 : Nat) (l1 : Int32) (l2 : Int32) (l3 : Int32) (l4 : Int32) (M : MM) (hM : lenO M0 M) (h : w264  l0 l1 l2 l3 l4 M P) : R264 sl sx d M0 P 0 [some (vR (some l0)), some (vI l1), some (vI l2), some (vI l3), some (vI l4), none, none, none] [] M := by
  refine RN_k (callX_det _) 3 _ _ _ _ (show callX TBg sl sx (d + 10) 209 [vI l2, vI l3] M (fun v M9 => R264 sl sx d M0 P 5 [some (vR (some l0)), some (vI l1), some (vI l2), some (vI l3), some (vI l4), none, none, none] (pushO v []) M9) from ?_)
  refine callX_mono (callX_len (d := (d + 10)) rfl rfl rfl (c209 (d := d + 8) h)) ?_
  clear h
  rintro v9 M1 ⟨hl, r2, rfl, h⟩
  replace hM := lenT hM hl
  show R264 sl sx d M0 P 5 [some (vR (some l0)), some (vI l1), some (vI l2), some (vI l3), some (vI l4), none, none, none] [vI r2] M1
  refine RN_k (callX_det _) 1 _ _ _ _ (show (r2 = 0 → R264 sl sx d M0 P 18 [some (vR (some l0)), some (vI l1), some (vI l2), some (vI l3), some (vI l4), none, none, none] [] M1) ∧ (¬ (r2 = 0) → R264 sl sx d M0 P 8 [some (vR (some l0)), some (vI l1), some (vI l2), some (vI l3), some (vI l4), none, none, none] [] M1) from ⟨fun hc => ?_, fun hc => ?_⟩)
  · replace h := h.1 hc
    exact RN_weak (K := [some (vR (some l0)), none, none, none, none, none, none, none]) (callX_det _) (show _ ∧ True from ⟨rfl, trivial⟩) (t264_18  l0 _ hM h)
  · replace h := h.2 hc
    refine RN_k (callX_det _) 4 _ _ _ _ (show callX TBg sl sx (d + 10) 166 [vI l4, vI (0 : Int32), vI (1 : Int32)] M1 (fun v M9 => R264 sl sx d M0 P 15 [some (vR (some l0)), some (vI l1), some (vI l2), some (vI l3), some (vI l4), none, none, none] (pushO v []) M9) from ?_)
    refine callX_mono (callX_len (d := (d + 10)) rfl rfl rfl (c166 (d := d + 9) h)) ?_
    clear h
    rintro v9 M3 ⟨hl, r4, rfl, h⟩
    replace hM := lenT hM hl
    show R264 sl sx d M0 P 15 [some (vR (some l0)), some (vI l1), some (vI l2), some (vI l3), some (vI l4), none, none, none] [vI r4] M3
    refine RN_k (callX_det _) 1 _ _ _ _ (show (r4 ≠ 0 → R264 sl sx d M0 P 24 [some (vR (some l0)), some (vI l1), some (vI l2), some (vI l3), some (vI l4), none, none, none] [] M3) ∧ (¬ (r4 ≠ 0) → R264 sl sx d M0 P 18 [some (vR (some l0)), some (vI l1), some (vI l2), some (vI l3), some (vI l4), none, none, none] [] M3) from ⟨fun hc => ?_, fun hc => ?_⟩)
    · replace h := h.1 hc
      refine RN_k (callX_det _) 3 _ _ _ _ (show kd M3 l0 10 ∧ callX TBg sl sx (d + 10) 182 [vR (some l0), vI l1] M3 (fun v M9 => R264 sl sx d M0 P 29 [some (vR (some l0)), some (vI l1), some (vI l2), some (vI l3), some (vI l4), none, none, none] (pushO v []) M9) from ⟨h.1, ?_⟩)
      replace h := h.2
      refine callX_mono (callX_len (d := (d + 10)) rfl rfl rfl (c182 (d := d + 8) h)) ?_
      clear h
      rintro v9 M5 ⟨hl, r6, rfl, h⟩
      replace hM := lenT hM hl
      show R264 sl sx d M0 P 29 [some (vR (some l0)), some (vI l1), some (vI l2), some (vI l3), some (vI l4), none, none, none] [vI r6] M5
      refine RN_k (callX_det _) 1 _ _ _ _ (show (r6 ≠ 0 → R264 sl sx d M0 P 38 [some (vR (some l0)), some (vI l1), some (vI l2), some (vI l3), some (vI l4), none, none, none] [] M5) ∧ (¬ (r6 ≠ 0) → R264 sl sx d M0 P 32 [some (vR (some l0)), some (vI l1), some (vI l2), some (vI l3), some (vI l4), none, none, none] [] M5) from ⟨fun hc => ?_, fun hc => ?_⟩)
      · replace h := h.1 hc
        refine RN_k (callX_det _) 4 _ _ _ _ (show kd M5 l0 10 ∧ callX TBg sl sx (d + 10) 215 [vR (some l0), vI l2, vI l3] M5 (fun v M9 => R264 sl sx d M0 P 44 [some (vR (some l0)), some (vI l1), some (vI l2), some (vI l3), some (vI l4), none, none, none] (pushO v []) M9) from ⟨h.1, ?_⟩)
        replace h := h.2
        refine callX_mono (callX_len (d := (d + 10)) rfl rfl rfl (c215 (d := d + 9) h)) ?_
        clear h
        rintro v9 M7 ⟨hl, rfl, h⟩
        replace hM := lenT hM hl
        show R264 sl sx d M0 P 44 [some (vR (some l0)), some (vI l1), some (vI l2), some (vI l3), some (vI l4), none, none, none] [] M7
        refine RN_k (callX_det _) 3 _ _ _ _ (show kd M7 l0 10 ∧ callX TBg sl sx (d + 10) 265 [vR (some l0), vI l1] M7 (fun v M9 => R264 sl sx d M0 P 49 [some (vR (some l0)), some (vI l1), some (vI l2), some (vI l3), some (vI l4), none, none, none] (pushO v []) M9) from ⟨h.1, ?_⟩)
        replace h := h.2
        refine callX_mono (callX_len (d := (d + 10)) rfl rfl rfl (c265 (d := d) h)) ?_
        clear h
        rintro v9 M8 ⟨hl, rfl, h⟩
        replace hM := lenT hM hl
        show R264 sl sx d M0 P 49 [some (vR (some l0)), some (vI l1), some (vI l2), some (vI l3), some (vI l4), none, none, none] [] M8
        refine RN_k (callX_det _) 5 _ _ _ _ (show kd M8 l0 10 ∧ callX TBg sl sx (d + 10) 180 [vR (some l0), vI l1] M8 (fun v M9 => R264 sl sx d M0 P 56 [some (vR (some l0)), some (vI l1), some (vI l2), some (vI l3), some (vI l4), none, none, none] (pushO v [vI (1 : Int32), vI (1 : Int32)]) M9) from ⟨h.1, ?_⟩)
        replace h := h.2
        refine callX_mono (callX_len (d := (d + 10)) rfl rfl rfl (c180 (d := d + 8) h)) ?_
        clear h
        rintro v9 M9 ⟨hl, r10, rfl, h⟩
        replace hM := lenT hM hl
        show R264 sl sx d M0 P 56 [some (vR (some l0)), some (vI l1), some (vI l2), some (vI l3), some (vI l4), none, none, none] [vI r10, vI (1 : Int32), vI (1 : Int32)] M9
        refine RN_k (callX_det _) 9 _ _ _ _ (show R264 sl sx d M0 P 68 [some (vR (some l0)), some (vI l1), some (vI l2), some (vI l3), some (vI l4), some (vI ((1 : Int32) ||| ((1 : Int32) <<< ((r10 - (1 : Int32)) &&& 31)))), some (vI (-1 : Int32)), some (vI (0 : Int32))] [] M9 from ?_)
        obtain ⟨n2, h⟩ := h
        exact RN_weak (K := [some (vR (some l0)), some (vI l1), none, none, some (vI l4), some (vI ((1 : Int32) ||| ((1 : Int32) <<< ((r10 - (1 : Int32)) &&& 31)))), some (vI (-1 : Int32)), some (vI (0 : Int32))]) (callX_det _) (show _ ∧ _ ∧ _ ∧ _ ∧ _ ∧ _ ∧ True from ⟨rfl, rfl, rfl, rfl, rfl, rfl, trivial⟩) (t264_68  n2 l0 l1 l4 ((1 : Int32) ||| ((1 : Int32) <<< ((r10 - (1 : Int32)) &&& 31))) (-1 : Int32) (0 : Int32) _ hM h)
      · replace h := h.2 hc
        refine RN_k (callX_det _) 3 _ _ _ _ (show kd M5 l0 10 ∧ callX TBg sl sx (d + 10) 167 [vR (some l0), vI (2 : Int32)] M5 (fun v M9 => R264 sl sx d M0 P 37 [some (vR (some l0)), some (vI l1), some (vI l2), some (vI l3), some (vI l4), none, none, none] (pushO v []) M9) from ⟨h.1, ?_⟩)
        replace h := h.2
        refine callX_mono (callX_len (d := (d + 10)) rfl rfl rfl (c167 (d := d + 9) h)) ?_
        clear h
        rintro v9 M11 ⟨hl, r12, rfl, h⟩
        replace hM := lenT hM hl
        show R264 sl sx d M0 P 37 [some (vR (some l0)), some (vI l1), some (vI l2), some (vI l3), some (vI l4), none, none, none] [vI r12] M11
        exact RN_k (callX_det _) 1 _ _ _ _ (show rtW q264 M0 (PI P) (some (vI r12)) M11 from ⟨⟨_, rfl⟩, hM.1, hM.2, _, rfl, h⟩)
    · replace h := h.2 hc
      exact RN_weak (K := [some (vR (some l0)), none, none, none, none, none, none, none]) (callX_det _) (show _ ∧ True from ⟨rfl, trivial⟩) (t264_18  l0 _ hM h)
theorem c264 {sl : Nat} {sx : Nat → Int32} {d : Nat} {l0 : Nat} {l1 : Int32} {l2 : Int32} {l3 : Int32} {l4 : Int32} {M : MM} {P : Int32 → MM → Prop} (h : w264 l0 l1 l2 l3 l4 M P) : callX TBg sl sx (d + 11) 264 [vR (some l0), vI l1, vI l2, vI l3, vI l4] M (PI P) :=
  cX (d := d + 10) q264 (false, tb264) rfl rfl rfl (t264_E l0 l1 l2 l3 l4 M lenR h)
-- TwoLeashModel.laysShortestOf(II)V
abbrev q268 : MQ7 := (3, 1, 3, 10, 0, 0, 0)
abbrev R268 (sl : Nat) (sx : Nat → Int32) (d : Nat) (M0 : MM) (P : MM → Prop) : Nat → LL → List VV → MM → Prop := RN 10 false (mS M0).length (mT M0) 0 0 sl sx (callX TBg sl sx (d + 105)) (rtW q268 M0 (PV P)) (as2 tb268)
def w268 (l0 : Nat) (l1 : Int32) (l2 : Int32) (M : MM) (P : MM → Prop) : Prop := kd M l0 10 ∧ w211 l0 l1 l2 M (fun M1 => kd M1 l0 10 ∧ w245 l0 (0 : Int32) M1 (fun M2 => P M2))
theorem t268_E {sl : Nat} {sx : Nat → Int32} {d : Nat} {M0 : MM} {P : MM → Prop} (l0 : Nat) (l1 : Int32) (l2 : Int32) (M : MM) (hM : lenO M0 M) (h : w268  l0 l1 l2 M P) : R268 sl sx d M0 P 0 [some (vR (some l0)), some (vI l1), some (vI l2)] [] M := by
  refine RN_k (callX_det _) 4 _ _ _ _ (show kd M l0 10 ∧ callX TBg sl sx (d + 105) 211 [vR (some l0), vI l1, vI l2] M (fun v M9 => R268 sl sx d M0 P 6 [some (vR (some l0)), some (vI l1), some (vI l2)] (pushO v []) M9) from ⟨h.1, ?_⟩)
  replace h := h.2
  refine callX_mono (callX_len (d := (d + 105)) rfl rfl rfl (c211 (d := d + 100) h)) ?_
  clear h
  rintro v9 M1 ⟨hl, rfl, h⟩
  replace hM := lenT hM hl
  show R268 sl sx d M0 P 6 [some (vR (some l0)), some (vI l1), some (vI l2)] [] M1
  refine RN_k (callX_det _) 3 _ _ _ _ (show kd M1 l0 10 ∧ callX TBg sl sx (d + 105) 245 [vR (some l0), vI (0 : Int32)] M1 (fun v M9 => R268 sl sx d M0 P 11 [some (vR (some l0)), some (vI l1), some (vI l2)] (pushO v []) M9) from ⟨h.1, ?_⟩)
  replace h := h.2
  refine callX_mono (callX_len (d := (d + 105)) rfl rfl rfl (c245 (d := d) h)) ?_
  clear h
  rintro v9 M2 ⟨hl, rfl, h⟩
  replace hM := lenT hM hl
  show R268 sl sx d M0 P 11 [some (vR (some l0)), some (vI l1), some (vI l2)] [] M2
  exact RN_k (callX_det _) 1 _ _ _ _ (show rtW q268 M0 (PV P) none M2 from ⟨rfl, hM.1, hM.2, rfl, h⟩)
theorem c268 {sl : Nat} {sx : Nat → Int32} {d : Nat} {l0 : Nat} {l1 : Int32} {l2 : Int32} {M : MM} {P : MM → Prop} (h : w268 l0 l1 l2 M P) : callX TBg sl sx (d + 106) 268 [vR (some l0), vI l1, vI l2] M (PV P) :=
  cX (d := d + 105) q268 (false, tb268) rfl rfl rfl (t268_E l0 l1 l2 M lenR h)
-- TwoLeashModel.kin(I)I
abbrev q267 : MQ7 := (2, 1, 8, 10, 0, 0, 1)
abbrev R267 (sl : Nat) (sx : Nat → Int32) (d : Nat) (M0 : MM) (P : Int32 → MM → Prop) : Nat → LL → List VV → MM → Prop := RN 10 false (mS M0).length (mT M0) 0 0 sl sx (callX TBg sl sx (d + 106)) (rtW q267 M0 (PI P)) (as2 tb267)
def w267_112 (s0 : Int32) (M : MM) (P : Int32 → MM → Prop) : Prop := P s0 M
theorem t267_112 {sl : Nat} {sx : Nat → Int32} {d : Nat} {M0 : MM} {P : Int32 → MM → Prop} (s0 : Int32) (M : MM) (hM : lenO M0 M) (h : w267_112  s0 M P) : R267 sl sx d M0 P 112 [none, none, none, none, none, none, none, none] [vI s0] M := by
  exact RN_k (callX_det _) 1 _ _ _ _ (show rtW q267 M0 (PI P) (some (vI s0)) M from ⟨⟨_, rfl⟩, hM.1, hM.2, _, rfl, h⟩)
def w267_88 (k24 : Nat → Int32 → Int32 → Int64 → Int64 → Int32 → MM → Prop) (l0 : Nat) (l1 : Int32) (l2 : Int32) (l3 : Int64) (l5 : Int64) (l7 : Int32) (M : MM) (P : Int32 → MM → Prop) : Prop := k24 l0 l1 l2 l3 l5 (l7 + (1 : Int32)) M
theorem t267_88 {sl : Nat} {sx : Nat → Int32} {d : Nat} {M0 : MM} {P : Int32 → MM → Prop} {k24 : Nat → Int32 → Int32 → Int64 → Int64 → Int32 → MM → Prop} (hk24 : ∀ (l0 : Nat) (l1 : Int32) (l2 : Int32) (l3 : Int64) (l5 : Int64) (l7 : Int32) (M : MM), lenO M0 M → k24 l0 l1 l2 l3 l5 l7 M → R267 sl sx d M0 P 24 [some (vR (some l0)), some (vI l1), some (vI l2), some (vL l3), none, some (vL l5), none, some (vI l7)] [] M) (l0 : Nat) (l1 : Int32) (l2 : Int32) (l3 : Int64) (l5 : Int64) (l7 : Int32) (M : MM) (hM : lenO M0 M) (h : w267_88 k24 l0 l1 l2 l3 l5 l7 M P) : R267 sl sx d M0 P 88 [some (vR (some l0)), some (vI l1), some (vI l2), some (vL l3), none, some (vL l5), none, some (vI l7)] [] M := by
  refine RN_k (callX_det _) 2 _ _ _ _ (show R267 sl sx d M0 P 24 [some (vR (some l0)), some (vI l1), some (vI l2), some (vL l3), none, some (vL l5), none, some (vI (l7 + (1 : Int32)))] [] M from ?_)
  exact RN_weak (K := [some (vR (some l0)), some (vI l1), some (vI l2), some (vL l3), none, some (vL l5), none, some (vI (l7 + (1 : Int32)))]) (callX_det _) (show _ ∧ _ ∧ _ ∧ _ ∧ _ ∧ _ ∧ True from ⟨rfl, rfl, rfl, rfl, rfl, rfl, trivial⟩) (hk24 l0 l1 l2 l3 l5 (l7 + (1 : Int32)) _ hM h)
def w267_74 (k24 : Nat → Int32 → Int32 → Int64 → Int64 → Int32 → MM → Prop) (l0 : Nat) (l1 : Int32) (l7 : Int32) (M : MM) (P : Int32 → MM → Prop) : Prop := kd M l0 10 ∧ (kd M l0 10 ∧ (w267_88 k24 l0 l1 l7 (mL M l0 52) (mL M l0 53) l7 M P))
theorem t267_74 {sl : Nat} {sx : Nat → Int32} {d : Nat} {M0 : MM} {P : Int32 → MM → Prop} {k24 : Nat → Int32 → Int32 → Int64 → Int64 → Int32 → MM → Prop} (hk24 : ∀ (l0 : Nat) (l1 : Int32) (l2 : Int32) (l3 : Int64) (l5 : Int64) (l7 : Int32) (M : MM), lenO M0 M → k24 l0 l1 l2 l3 l5 l7 M → R267 sl sx d M0 P 24 [some (vR (some l0)), some (vI l1), some (vI l2), some (vL l3), none, some (vL l5), none, some (vI l7)] [] M) (l0 : Nat) (l1 : Int32) (l7 : Int32) (M : MM) (hM : lenO M0 M) (h : w267_74 k24 l0 l1 l7 M P) : R267 sl sx d M0 P 74 [some (vR (some l0)), some (vI l1), none, none, none, none, none, some (vI l7)] [] M := by
  refine RN_k (callX_det _) 4 _ _ _ _ (show kd M l0 10 ∧ R267 sl sx d M0 P 81 [some (vR (some l0)), some (vI l1), some (vI l7), none, none, none, none, some (vI l7)] [vL (mL M l0 52)] M from ⟨h.1, ?_⟩)
  replace h := h.2
  refine RN_k (callX_det _) 3 _ _ _ _ (show kd M l0 10 ∧ R267 sl sx d M0 P 86 [some (vR (some l0)), some (vI l1), some (vI l7), some (vL (mL M l0 52)), none, none, none, some (vI l7)] [vL (mL M l0 53)] M from ⟨h.1, ?_⟩)
  replace h := h.2
  refine RN_k (callX_det _) 1 _ _ _ _ (show R267 sl sx d M0 P 88 [some (vR (some l0)), some (vI l1), some (vI l7), some (vL (mL M l0 52)), none, some (vL (mL M l0 53)), none, some (vI l7)] [] M from ?_)
  exact RN_weak (K := [some (vR (some l0)), some (vI l1), some (vI l7), some (vL (mL M l0 52)), none, some (vL (mL M l0 53)), none, some (vI l7)]) (callX_det _) (show _ ∧ _ ∧ _ ∧ _ ∧ _ ∧ _ ∧ True from ⟨rfl, rfl, rfl, rfl, rfl, rfl, trivial⟩) (t267_88 hk24 l0 l1 l7 (mL M l0 52) (mL M l0 53) l7 _ hM h)
def w267_24 : Nat → Nat → Int32 → Int32 → Int64 → Int64 → Int32 → MM → (Int32 → MM → Prop) → Prop
  | 0 => fun _ _ _ _ _ _ _ _ => False
  | n + 1 => fun l0 l1 l2 l3 l5 l7 M P => kd M l0 10 ∧ (((mI M l0 5) ≤ l7 → ((l2 ≠ (-1 : Int32) → (kd M l0 10 ∧ w177 l0 l2 M (fun r2 M1 => w267_112  r2 M1 P))) ∧ (¬ (l2 ≠ (-1 : Int32)) → (kd M l0 10 ∧ w167 l0 (5 : Int32) M (fun r4 M3 => w267_112  r4 M3 P))))) ∧ (¬ ((mI M l0 5) ≤ l7) → ((l7 ≠ l1 → (kd M l0 10 ∧ w268 l0 l1 l7 M (fun M5 => (l2 = (-1 : Int32) → (w267_74 (fun z0 z1 z2 z3 z4 z5 z6 => w267_24  n z0 z1 z2 z3 z4 z5 z6 P) l0 l1 l7 M5 P)) ∧ (¬ (l2 = (-1 : Int32)) → (kd M5 l0 10 ∧ (kd M5 l0 10 ∧ (w199 (mL M5 l0 52) (mL M5 l0 53) l3 l5 M5 (fun r7 M6 => (r7 < 0 → (w267_74 (fun z0 z1 z2 z3 z4 z5 z6 => w267_24  n z0 z1 z2 z3 z4 z5 z6 P) l0 l1 l7 M6 P)) ∧ (¬ (r7 < 0) → (w267_88 (fun z0 z1 z2 z3 z4 z5 z6 => w267_24  n z0 z1 z2 z3 z4 z5 z6 P) l0 l1 l2 l3 l5 l7 M6 P)))))))))) ∧ (¬ (l7 ≠ l1) → (w267_88 (fun z0 z1 z2 z3 z4 z5 z6 => w267_24  n z0 z1 z2 z3 z4 z5 z6 P) l0 l1 l2 l3 l5 l7 M P)))))
theorem t267_24 {sl : Nat} {sx : Nat → Int32} {d : Nat} {M0 : MM} {P : Int32 → MM → Prop} (n : Nat) : ∀ (l0 : Nat) (l1 : Int32) (l2 : Int32) (l3 : Int64) (l5 : Int64) (l7 : Int32) (M : MM) (_ : lenO M0 M) (_ : w267_24  n l0 l1 l2 l3 l5 l7 M P), R267 sl sx d M0 P 24 [some (vR (some l0)), some (vI l1), some (vI l2), some (vL l3), none, some (vL l5), none, some (vI l7)] [] M := by
  induction n with
  | zero => intro l0 l1 l2 l3 l5 l7 M hM h; cases h
  | succ n ih =>
    intro l0 l1 l2 l3 l5 l7 M hM h
    refine RN_k (callX_det _) 3 _ _ _ _ (show kd M l0 10 ∧ R267 sl sx d M0 P 30 [some (vR (some l0)), some (vI l1), some (vI l2), some (vL l3), none, some (vL l5), none, some (vI l7)] [vI (mI M l0 5), vI l7] M from ⟨h.1, ?_⟩)
    replace h := h.2
    refine RN_k (callX_det _) 1 _ _ _ _ (show ((mI M l0 5) ≤ l7 → R267 sl sx d M0 P 94 [some (vR (some l0)), some (vI l1), some (vI l2), some (vL l3), none, some (vL l5), none, some (vI l7)] [] M) ∧ (¬ ((mI M l0 5) ≤ l7) → R267 sl sx d M0 P 33 [some (vR (some l0)), some (vI l1), some (vI l2), some (vL l3), none, some (vL l5), none, some (vI l7)] [] M) from ⟨fun hc => ?_, fun hc => ?_⟩)
    · replace h := h.1 hc
      refine RN_k (callX_det _) 3 _ _ _ _ (show (l2 ≠ (-1 : Int32) → R267 sl sx d M0 P 107 [some (vR (some l0)), some (vI l1), some (vI l2), some (vL l3), none, some (vL l5), none, some (vI l7)] [] M) ∧ (¬ (l2 ≠ (-1 : Int32)) → R267 sl sx d M0 P 99 [some (vR (some l0)), some (vI l1), some (vI l2), some (vL l3), none, some (vL l5), none, some (vI l7)] [] M) from ⟨fun hc => ?_, fun hc => ?_⟩)
      · replace h := h.1 hc
        refine RN_k (callX_det _) 3 _ _ _ _ (show kd M l0 10 ∧ callX TBg sl sx (d + 106) 177 [vR (some l0), vI l2] M (fun v M9 => R267 sl sx d M0 P 112 [some (vR (some l0)), some (vI l1), some (vI l2), some (vL l3), none, some (vL l5), none, some (vI l7)] (pushO v []) M9) from ⟨h.1, ?_⟩)
        replace h := h.2
        refine callX_mono (callX_len (d := (d + 106)) rfl rfl rfl (c177 (d := d + 105) h)) ?_
        clear h
        rintro v9 M1 ⟨hl, r2, rfl, h⟩
        replace hM := lenT hM hl
        show R267 sl sx d M0 P 112 [some (vR (some l0)), some (vI l1), some (vI l2), some (vL l3), none, some (vL l5), none, some (vI l7)] [vI r2] M1
        exact RN_weak (K := [none, none, none, none, none, none, none, none]) (callX_det _) (show True from trivial) (t267_112  r2 _ hM h)
      · replace h := h.2 hc
        refine RN_k (callX_det _) 3 _ _ _ _ (show kd M l0 10 ∧ callX TBg sl sx (d + 106) 167 [vR (some l0), vI (5 : Int32)] M (fun v M9 => R267 sl sx d M0 P 104 [some (vR (some l0)), some (vI l1), some (vI l2), some (vL l3), none, some (vL l5), none, some (vI l7)] (pushO v []) M9) from ⟨h.1, ?_⟩)
        replace h := h.2
        refine callX_mono (callX_len (d := (d + 106)) rfl rfl rfl (c167 (d := d + 105) h)) ?_
        clear h
        rintro v9 M3 ⟨hl, r4, rfl, h⟩
        replace hM := lenT hM hl
        show R267 sl sx d M0 P 104 [some (vR (some l0)), some (vI l1), some (vI l2), some (vL l3), none, some (vL l5), none, some (vI l7)] [vI r4] M3
        refine RN_k (callX_det _) 1 _ _ _ _ (show R267 sl sx d M0 P 112 [some (vR (some l0)), some (vI l1), some (vI l2), some (vL l3), none, some (vL l5), none, some (vI l7)] [vI r4] M3 from ?_)
        exact RN_weak (K := [none, none, none, none, none, none, none, none]) (callX_det _) (show True from trivial) (t267_112  r4 _ hM h)
    · replace h := h.2 hc
      refine RN_k (callX_det _) 3 _ _ _ _ (show (l7 ≠ l1 → R267 sl sx d M0 P 42 [some (vR (some l0)), some (vI l1), some (vI l2), some (vL l3), none, some (vL l5), none, some (vI l7)] [] M) ∧ (¬ (l7 ≠ l1) → R267 sl sx d M0 P 39 [some (vR (some l0)), some (vI l1), some (vI l2), some (vL l3), none, some (vL l5), none, some (vI l7)] [] M) from ⟨fun hc => ?_, fun hc => ?_⟩)
      · replace h := h.1 hc
        refine RN_k (callX_det _) 4 _ _ _ _ (show kd M l0 10 ∧ callX TBg sl sx (d + 106) 268 [vR (some l0), vI l1, vI l7] M (fun v M9 => R267 sl sx d M0 P 49 [some (vR (some l0)), some (vI l1), some (vI l2), some (vL l3), none, some (vL l5), none, some (vI l7)] (pushO v []) M9) from ⟨h.1, ?_⟩)
        replace h := h.2
        refine callX_mono (callX_len (d := (d + 106)) rfl rfl rfl (c268 (d := d) h)) ?_
        clear h
        rintro v9 M5 ⟨hl, rfl, h⟩
        replace hM := lenT hM hl
        show R267 sl sx d M0 P 49 [some (vR (some l0)), some (vI l1), some (vI l2), some (vL l3), none, some (vL l5), none, some (vI l7)] [] M5
        refine RN_k (callX_det _) 3 _ _ _ _ (show (l2 = (-1 : Int32) → R267 sl sx d M0 P 74 [some (vR (some l0)), some (vI l1), some (vI l2), some (vL l3), none, some (vL l5), none, some (vI l7)] [] M5) ∧ (¬ (l2 = (-1 : Int32)) → R267 sl sx d M0 P 54 [some (vR (some l0)), some (vI l1), some (vI l2), some (vL l3), none, some (vL l5), none, some (vI l7)] [] M5) from ⟨fun hc => ?_, fun hc => ?_⟩)
        · replace h := h.1 hc
          exact RN_weak (K := [some (vR (some l0)), some (vI l1), none, none, none, none, none, some (vI l7)]) (callX_det _) (show _ ∧ _ ∧ _ ∧ True from ⟨rfl, rfl, rfl, trivial⟩) (t267_74 ih l0 l1 l7 _ hM h)
        · replace h := h.2 hc
          refine RN_k (callX_det _) 2 _ _ _ _ (show kd M5 l0 10 ∧ R267 sl sx d M0 P 58 [some (vR (some l0)), some (vI l1), some (vI l2), some (vL l3), none, some (vL l5), none, some (vI l7)] [vL (mL M5 l0 52)] M5 from ⟨h.1, ?_⟩)
          replace h := h.2
          refine RN_k (callX_det _) 2 _ _ _ _ (show kd M5 l0 10 ∧ R267 sl sx d M0 P 62 [some (vR (some l0)), some (vI l1), some (vI l2), some (vL l3), none, some (vL l5), none, some (vI l7)] [vL (mL M5 l0 53), vL (mL M5 l0 52)] M5 from ⟨h.1, ?_⟩)
          replace h := h.2
          refine RN_k (callX_det _) 3 _ _ _ _ (show callX TBg sl sx (d + 106) 199 [vL (mL M5 l0 52), vL (mL M5 l0 53), vL l3, vL l5] M5 (fun v M9 => R267 sl sx d M0 P 68 [some (vR (some l0)), some (vI l1), some (vI l2), some (vL l3), none, some (vL l5), none, some (vI l7)] (pushO v []) M9) from ?_)
          refine callX_mono (callX_len (d := (d + 106)) rfl rfl rfl (c199 (d := d + 104) h)) ?_
          clear h
          rintro v9 M6 ⟨hl, r7, rfl, h⟩
          replace hM := lenT hM hl
          show R267 sl sx d M0 P 68 [some (vR (some l0)), some (vI l1), some (vI l2), some (vL l3), none, some (vL l5), none, some (vI l7)] [vI r7] M6
          refine RN_k (callX_det _) 1 _ _ _ _ (show (r7 < 0 → R267 sl sx d M0 P 74 [some (vR (some l0)), some (vI l1), some (vI l2), some (vL l3), none, some (vL l5), none, some (vI l7)] [] M6) ∧ (¬ (r7 < 0) → R267 sl sx d M0 P 71 [some (vR (some l0)), some (vI l1), some (vI l2), some (vL l3), none, some (vL l5), none, some (vI l7)] [] M6) from ⟨fun hc => ?_, fun hc => ?_⟩)
          · replace h := h.1 hc
            exact RN_weak (K := [some (vR (some l0)), some (vI l1), none, none, none, none, none, some (vI l7)]) (callX_det _) (show _ ∧ _ ∧ _ ∧ True from ⟨rfl, rfl, rfl, trivial⟩) (t267_74 ih l0 l1 l7 _ hM h)
          · replace h := h.2 hc
            refine RN_k (callX_det _) 1 _ _ _ _ (show R267 sl sx d M0 P 88 [some (vR (some l0)), some (vI l1), some (vI l2), some (vL l3), none, some (vL l5), none, some (vI l7)] [] M6 from ?_)
            exact RN_weak (K := [some (vR (some l0)), some (vI l1), some (vI l2), some (vL l3), none, some (vL l5), none, some (vI l7)]) (callX_det _) (show _ ∧ _ ∧ _ ∧ _ ∧ _ ∧ _ ∧ True from ⟨rfl, rfl, rfl, rfl, rfl, rfl, trivial⟩) (t267_88 ih l0 l1 l2 l3 l5 l7 _ hM h)
      · replace h := h.2 hc
        refine RN_k (callX_det _) 1 _ _ _ _ (show R267 sl sx d M0 P 88 [some (vR (some l0)), some (vI l1), some (vI l2), some (vL l3), none, some (vL l5), none, some (vI l7)] [] M from ?_)
        exact RN_weak (K := [some (vR (some l0)), some (vI l1), some (vI l2), some (vL l3), none, some (vL l5), none, some (vI l7)]) (callX_det _) (show _ ∧ _ ∧ _ ∧ _ ∧ _ ∧ _ ∧ True from ⟨rfl, rfl, rfl, rfl, rfl, rfl, trivial⟩) (t267_88 ih l0 l1 l2 l3 l5 l7 _ hM h)
def w267 (l0 : Nat) (l1 : Int32) (M : MM) (P : Int32 → MM → Prop) : Prop := kd M l0 10 ∧ w182 l0 l1 M (fun r2 M1 => (r2 ≠ 0 → (∃ n2, w267_24  n2 l0 l1 (-1 : Int32) (0 : Int64) (1 : Int64) (0 : Int32) M1 P)) ∧ (¬ (r2 ≠ 0) → (kd M1 l0 10 ∧ w167 l0 (2 : Int32) M1 (fun r4 M3 => P r4 M3))))
theorem t267_E {sl : Nat} {sx : Nat → Int32} {d : Nat} {M0 : MM} {P : Int32 → MM → Prop} (l0 : Nat) (l1 : Int32) (M : MM) (hM : lenO M0 M) (h : w267  l0 l1 M P) : R267 sl sx d M0 P 0 [some (vR (some l0)), some (vI l1), none, none, none, none, none, none] [] M := by
  refine RN_k (callX_det _) 3 _ _ _ _ (show kd M l0 10 ∧ callX TBg sl sx (d + 106) 182 [vR (some l0), vI l1] M (fun v M9 => R267 sl sx d M0 P 5 [some (vR (some l0)), some (vI l1), none, none, none, none, none, none] (pushO v []) M9) from ⟨h.1, ?_⟩)
  replace h := h.2
  refine callX_mono (callX_len (d := (d + 106)) rfl rfl rfl (c182 (d := d + 104) h)) ?_
  clear h
  rintro v9 M1 ⟨hl, r2, rfl, h⟩
  replace hM := lenT hM hl
  show R267 sl sx d M0 P 5 [some (vR (some l0)), some (vI l1), none, none, none, none, none, none] [vI r2] M1
  refine RN_k (callX_det _) 1 _ _ _ _ (show (r2 ≠ 0 → R267 sl sx d M0 P 14 [some (vR (some l0)), some (vI l1), none, none, none, none, none, none] [] M1) ∧ (¬ (r2 ≠ 0) → R267 sl sx d M0 P 8 [some (vR (some l0)), some (vI l1), none, none, none, none, none, none] [] M1) from ⟨fun hc => ?_, fun hc => ?_⟩)
  · replace h := h.1 hc
    refine RN_k (callX_det _) 8 _ _ _ _ (show R267 sl sx d M0 P 24 [some (vR (some l0)), some (vI l1), some (vI (-1 : Int32)), some (vL (0 : Int64)), none, some (vL (1 : Int64)), none, some (vI (0 : Int32))] [] M1 from ?_)
    obtain ⟨n2, h⟩ := h
    exact RN_weak (K := [some (vR (some l0)), some (vI l1), some (vI (-1 : Int32)), some (vL (0 : Int64)), none, some (vL (1 : Int64)), none, some (vI (0 : Int32))]) (callX_det _) (show _ ∧ _ ∧ _ ∧ _ ∧ _ ∧ _ ∧ True from ⟨rfl, rfl, rfl, rfl, rfl, rfl, trivial⟩) (t267_24  n2 l0 l1 (-1 : Int32) (0 : Int64) (1 : Int64) (0 : Int32) _ hM h)
  · replace h := h.2 hc
    refine RN_k (callX_det _) 3 _ _ _ _ (show kd M1 l0 10 ∧ callX TBg sl sx (d + 106) 167 [vR (some l0), vI (2 : Int32)] M1 (fun v M9 => R267 sl sx d M0 P 13 [some (vR (some l0)), some (vI l1), none, none, none, none, none, none] (pushO v []) M9) from ⟨h.1, ?_⟩)
    replace h := h.2
    refine callX_mono (callX_len (d := (d + 106)) rfl rfl rfl (c167 (d := d + 105) h)) ?_
    clear h
    rintro v9 M3 ⟨hl, r4, rfl, h⟩
    replace hM := lenT hM hl
    show R267 sl sx d M0 P 13 [some (vR (some l0)), some (vI l1), none, none, none, none, none, none] [vI r4] M3
    exact RN_k (callX_det _) 1 _ _ _ _ (show rtW q267 M0 (PI P) (some (vI r4)) M3 from ⟨⟨_, rfl⟩, hM.1, hM.2, _, rfl, h⟩)
theorem c267 {sl : Nat} {sx : Nat → Int32} {d : Nat} {l0 : Nat} {l1 : Int32} {M : MM} {P : Int32 → MM → Prop} (h : w267 l0 l1 M P) : callX TBg sl sx (d + 107) 267 [vR (some l0), vI l1] M (PI P) :=
  cX (d := d + 106) q267 (false, tb267) rfl rfl rfl (t267_E l0 l1 M lenR h)
-- TwoLeashModel.middle()I
abbrev q269 : MQ7 := (1, 1, 12, 10, 0, 0, 1)
abbrev R269 (sl : Nat) (sx : Nat → Int32) (d : Nat) (M0 : MM) (P : Int32 → MM → Prop) : Nat → LL → List VV → MM → Prop := RN 10 false (mS M0).length (mT M0) 0 0 sl sx (callX TBg sl sx (d + 106)) (rtW q269 M0 (PI P)) (as2 tb269)
def w269_148 (k24 : Nat → Int32 → Int64 → Int64 → Int32 → MM → Prop) (l0 : Nat) (l1 : Int32) (l2 : Int64) (l4 : Int64) (l6 : Int32) (M : MM) (P : Int32 → MM → Prop) : Prop := k24 l0 l1 l2 l4 (l6 + (1 : Int32)) M
theorem t269_148 {sl : Nat} {sx : Nat → Int32} {d : Nat} {M0 : MM} {P : Int32 → MM → Prop} {k24 : Nat → Int32 → Int64 → Int64 → Int32 → MM → Prop} (hk24 : ∀ (l0 : Nat) (l1 : Int32) (l2 : Int64) (l4 : Int64) (l6 : Int32) (M : MM), lenO M0 M → k24 l0 l1 l2 l4 l6 M → R269 sl sx d M0 P 24 [some (vR (some l0)), some (vI l1), some (vL l2), none, some (vL l4), none, some (vI l6), none, none, none, none, none] [] M) (l0 : Nat) (l1 : Int32) (l2 : Int64) (l4 : Int64) (l6 : Int32) (M : MM) (hM : lenO M0 M) (h : w269_148 k24 l0 l1 l2 l4 l6 M P) : R269 sl sx d M0 P 148 [some (vR (some l0)), some (vI l1), some (vL l2), none, some (vL l4), none, some (vI l6), none, none, none, none, none] [] M := by
  refine RN_k (callX_det _) 2 _ _ _ _ (show R269 sl sx d M0 P 24 [some (vR (some l0)), some (vI l1), some (vL l2), none, some (vL l4), none, some (vI (l6 + (1 : Int32))), none, none, none, none, none] [] M from ?_)
  exact RN_weak (K := [some (vR (some l0)), some (vI l1), some (vL l2), none, some (vL l4), none, some (vI (l6 + (1 : Int32))), none, none, none, none, none]) (callX_det _) (show _ ∧ _ ∧ _ ∧ _ ∧ _ ∧ True from ⟨rfl, rfl, rfl, rfl, rfl, trivial⟩) (hk24 l0 l1 l2 l4 (l6 + (1 : Int32)) _ hM h)
def w269_138 (k24 : Nat → Int32 → Int64 → Int64 → Int32 → MM → Prop) (l0 : Nat) (l6 : Int32) (l7 : Int64) (l9 : Int64) (M : MM) (P : Int32 → MM → Prop) : Prop := w269_148 k24 l0 l6 l7 l9 l6 M P
theorem t269_138 {sl : Nat} {sx : Nat → Int32} {d : Nat} {M0 : MM} {P : Int32 → MM → Prop} {k24 : Nat → Int32 → Int64 → Int64 → Int32 → MM → Prop} (hk24 : ∀ (l0 : Nat) (l1 : Int32) (l2 : Int64) (l4 : Int64) (l6 : Int32) (M : MM), lenO M0 M → k24 l0 l1 l2 l4 l6 M → R269 sl sx d M0 P 24 [some (vR (some l0)), some (vI l1), some (vL l2), none, some (vL l4), none, some (vI l6), none, none, none, none, none] [] M) (l0 : Nat) (l6 : Int32) (l7 : Int64) (l9 : Int64) (M : MM) (hM : lenO M0 M) (h : w269_138 k24 l0 l6 l7 l9 M P) : R269 sl sx d M0 P 138 [some (vR (some l0)), none, none, none, none, none, some (vI l6), some (vL l7), none, some (vL l9), none, none] [] M := by
  refine RN_k (callX_det _) 6 _ _ _ _ (show R269 sl sx d M0 P 148 [some (vR (some l0)), some (vI l6), some (vL l7), none, some (vL l9), none, some (vI l6), some (vL l7), none, some (vL l9), none, none] [] M from ?_)
  exact RN_weak (K := [some (vR (some l0)), some (vI l6), some (vL l7), none, some (vL l9), none, some (vI l6), none, none, none, none, none]) (callX_det _) (show _ ∧ _ ∧ _ ∧ _ ∧ _ ∧ True from ⟨rfl, rfl, rfl, rfl, rfl, trivial⟩) (t269_148 hk24 l0 l6 l7 l9 l6 _ hM h)
def w269_111 (k24 : Nat → Int32 → Int64 → Int64 → Int32 → MM → Prop) (k44 : Nat → Int32 → Int64 → Int64 → Int32 → Int64 → Int64 → Int32 → MM → Prop) (l0 : Nat) (l1 : Int32) (l2 : Int64) (l4 : Int64) (l6 : Int32) (l7 : Int64) (l9 : Int64) (l11 : Int32) (M : MM) (P : Int32 → MM → Prop) : Prop := k44 l0 l1 l2 l4 l6 l7 l9 (l11 + (1 : Int32)) M
theorem t269_111 {sl : Nat} {sx : Nat → Int32} {d : Nat} {M0 : MM} {P : Int32 → MM → Prop} {k24 : Nat → Int32 → Int64 → Int64 → Int32 → MM → Prop} {k44 : Nat → Int32 → Int64 → Int64 → Int32 → Int64 → Int64 → Int32 → MM → Prop} (hk24 : ∀ (l0 : Nat) (l1 : Int32) (l2 : Int64) (l4 : Int64) (l6 : Int32) (M : MM), lenO M0 M → k24 l0 l1 l2 l4 l6 M → R269 sl sx d M0 P 24 [some (vR (some l0)), some (vI l1), some (vL l2), none, some (vL l4), none, some (vI l6), none, none, none, none, none] [] M) (hk44 : ∀ (l0 : Nat) (l1 : Int32) (l2 : Int64) (l4 : Int64) (l6 : Int32) (l7 : Int64) (l9 : Int64) (l11 : Int32) (M : MM), lenO M0 M → k44 l0 l1 l2 l4 l6 l7 l9 l11 M → R269 sl sx d M0 P 44 [some (vR (some l0)), some (vI l1), some (vL l2), none, some (vL l4), none, some (vI l6), some (vL l7), none, some (vL l9), none, some (vI l11)] [] M) (l0 : Nat) (l1 : Int32) (l2 : Int64) (l4 : Int64) (l6 : Int32) (l7 : Int64) (l9 : Int64) (l11 : Int32) (M : MM) (hM : lenO M0 M) (h : w269_111 k24 k44 l0 l1 l2 l4 l6 l7 l9 l11 M P) : R269 sl sx d M0 P 111 [some (vR (some l0)), some (vI l1), some (vL l2), none, some (vL l4), none, some (vI l6), some (vL l7), none, some (vL l9), none, some (vI l11)] [] M := by
  refine RN_k (callX_det _) 2 _ _ _ _ (show R269 sl sx d M0 P 44 [some (vR (some l0)), some (vI l1), some (vL l2), none, some (vL l4), none, some (vI l6), some (vL l7), none, some (vL l9), none, some (vI (l11 + (1 : Int32)))] [] M from ?_)
  exact RN_weak (K := [some (vR (some l0)), some (vI l1), some (vL l2), none, some (vL l4), none, some (vI l6), some (vL l7), none, some (vL l9), none, some (vI (l11 + (1 : Int32)))]) (callX_det _) (show _ ∧ _ ∧ _ ∧ _ ∧ _ ∧ _ ∧ _ ∧ _ ∧ True from ⟨rfl, rfl, rfl, rfl, rfl, rfl, rfl, rfl, trivial⟩) (hk44 l0 l1 l2 l4 l6 l7 l9 (l11 + (1 : Int32)) _ hM h)
def w269_99 (k24 : Nat → Int32 → Int64 → Int64 → Int32 → MM → Prop) (k44 : Nat → Int32 → Int64 → Int64 → Int32 → Int64 → Int64 → Int32 → MM → Prop) (l0 : Nat) (l1 : Int32) (l2 : Int64) (l4 : Int64) (l6 : Int32) (l11 : Int32) (M : MM) (P : Int32 → MM → Prop) : Prop := kd M l0 10 ∧ (kd M l0 10 ∧ (w269_111 k24 k44 l0 l1 l2 l4 l6 (mL M l0 52) (mL M l0 53) l11 M P))
theorem t269_99 {sl : Nat} {sx : Nat → Int32} {d : Nat} {M0 : MM} {P : Int32 → MM → Prop} {k24 : Nat → Int32 → Int64 → Int64 → Int32 → MM → Prop} {k44 : Nat → Int32 → Int64 → Int64 → Int32 → Int64 → Int64 → Int32 → MM → Prop} (hk24 : ∀ (l0 : Nat) (l1 : Int32) (l2 : Int64) (l4 : Int64) (l6 : Int32) (M : MM), lenO M0 M → k24 l0 l1 l2 l4 l6 M → R269 sl sx d M0 P 24 [some (vR (some l0)), some (vI l1), some (vL l2), none, some (vL l4), none, some (vI l6), none, none, none, none, none] [] M) (hk44 : ∀ (l0 : Nat) (l1 : Int32) (l2 : Int64) (l4 : Int64) (l6 : Int32) (l7 : Int64) (l9 : Int64) (l11 : Int32) (M : MM), lenO M0 M → k44 l0 l1 l2 l4 l6 l7 l9 l11 M → R269 sl sx d M0 P 44 [some (vR (some l0)), some (vI l1), some (vL l2), none, some (vL l4), none, some (vI l6), some (vL l7), none, some (vL l9), none, some (vI l11)] [] M) (l0 : Nat) (l1 : Int32) (l2 : Int64) (l4 : Int64) (l6 : Int32) (l11 : Int32) (M : MM) (hM : lenO M0 M) (h : w269_99 k24 k44 l0 l1 l2 l4 l6 l11 M P) : R269 sl sx d M0 P 99 [some (vR (some l0)), some (vI l1), some (vL l2), none, some (vL l4), none, some (vI l6), none, none, none, none, some (vI l11)] [] M := by
  refine RN_k (callX_det _) 2 _ _ _ _ (show kd M l0 10 ∧ R269 sl sx d M0 P 103 [some (vR (some l0)), some (vI l1), some (vL l2), none, some (vL l4), none, some (vI l6), none, none, none, none, some (vI l11)] [vL (mL M l0 52)] M from ⟨h.1, ?_⟩)
  replace h := h.2
  refine RN_k (callX_det _) 3 _ _ _ _ (show kd M l0 10 ∧ R269 sl sx d M0 P 109 [some (vR (some l0)), some (vI l1), some (vL l2), none, some (vL l4), none, some (vI l6), some (vL (mL M l0 52)), none, none, none, some (vI l11)] [vL (mL M l0 53)] M from ⟨h.1, ?_⟩)
  replace h := h.2
  refine RN_k (callX_det _) 1 _ _ _ _ (show R269 sl sx d M0 P 111 [some (vR (some l0)), some (vI l1), some (vL l2), none, some (vL l4), none, some (vI l6), some (vL (mL M l0 52)), none, some (vL (mL M l0 53)), none, some (vI l11)] [] M from ?_)
  exact RN_weak (K := [some (vR (some l0)), some (vI l1), some (vL l2), none, some (vL l4), none, some (vI l6), some (vL (mL M l0 52)), none, some (vL (mL M l0 53)), none, some (vI l11)]) (callX_det _) (show _ ∧ _ ∧ _ ∧ _ ∧ _ ∧ _ ∧ _ ∧ _ ∧ True from ⟨rfl, rfl, rfl, rfl, rfl, rfl, rfl, rfl, trivial⟩) (t269_111 hk24 hk44 l0 l1 l2 l4 l6 (mL M l0 52) (mL M l0 53) l11 _ hM h)
def w269_44 (k24 : Nat → Int32 → Int64 → Int64 → Int32 → MM → Prop) : Nat → Nat → Int32 → Int64 → Int64 → Int32 → Int64 → Int64 → Int32 → MM → (Int32 → MM → Prop) → Prop
  | 0 => fun _ _ _ _ _ _ _ _ _ _ => False
  | n + 1 => fun l0 l1 l2 l4 l6 l7 l9 l11 M P => kd M l0 10 ∧ (((mI M l0 5) ≤ l11 → ((l1 = (-1 : Int32) → (w269_138 k24 l0 l6 l7 l9 M P)) ∧ (¬ (l1 = (-1 : Int32)) → (w199 l7 l9 l2 l4 M (fun r2 M1 => (r2 < 0 → (w269_138 k24 l0 l6 l7 l9 M1 P)) ∧ (¬ (r2 < 0) → (w269_148 k24 l0 l1 l2 l4 l6 M1 P))))))) ∧ (¬ ((mI M l0 5) ≤ l11) → ((l11 ≠ l6 → (kd M l0 10 ∧ w268 l0 l6 l11 M (fun M3 => ((lg_cmp l7 (0 : Int64)) < 0 → (w269_99 k24 (fun z0 z1 z2 z3 z4 z5 z6 z7 z8 => w269_44 k24 n z0 z1 z2 z3 z4 z5 z6 z7 z8 P) l0 l1 l2 l4 l6 l11 M3 P)) ∧ (¬ ((lg_cmp l7 (0 : Int64)) < 0) → (kd M3 l0 10 ∧ (kd M3 l0 10 ∧ (w199 (mL M3 l0 52) (mL M3 l0 53) l7 l9 M3 (fun r5 M4 => (0 < r5 → (w269_99 k24 (fun z0 z1 z2 z3 z4 z5 z6 z7 z8 => w269_44 k24 n z0 z1 z2 z3 z4 z5 z6 z7 z8 P) l0 l1 l2 l4 l6 l11 M4 P)) ∧ (¬ (0 < r5) → (w269_111 k24 (fun z0 z1 z2 z3 z4 z5 z6 z7 z8 => w269_44 k24 n z0 z1 z2 z3 z4 z5 z6 z7 z8 P) l0 l1 l2 l4 l6 l7 l9 l11 M4 P)))))))))) ∧ (¬ (l11 ≠ l6) → (w269_111 k24 (fun z0 z1 z2 z3 z4 z5 z6 z7 z8 => w269_44 k24 n z0 z1 z2 z3 z4 z5 z6 z7 z8 P) l0 l1 l2 l4 l6 l7 l9 l11 M P)))))
theorem t269_44 {sl : Nat} {sx : Nat → Int32} {d : Nat} {M0 : MM} {P : Int32 → MM → Prop} {k24 : Nat → Int32 → Int64 → Int64 → Int32 → MM → Prop} (hk24 : ∀ (l0 : Nat) (l1 : Int32) (l2 : Int64) (l4 : Int64) (l6 : Int32) (M : MM), lenO M0 M → k24 l0 l1 l2 l4 l6 M → R269 sl sx d M0 P 24 [some (vR (some l0)), some (vI l1), some (vL l2), none, some (vL l4), none, some (vI l6), none, none, none, none, none] [] M) (n : Nat) : ∀ (l0 : Nat) (l1 : Int32) (l2 : Int64) (l4 : Int64) (l6 : Int32) (l7 : Int64) (l9 : Int64) (l11 : Int32) (M : MM) (_ : lenO M0 M) (_ : w269_44 k24 n l0 l1 l2 l4 l6 l7 l9 l11 M P), R269 sl sx d M0 P 44 [some (vR (some l0)), some (vI l1), some (vL l2), none, some (vL l4), none, some (vI l6), some (vL l7), none, some (vL l9), none, some (vI l11)] [] M := by
  induction n with
  | zero => intro l0 l1 l2 l4 l6 l7 l9 l11 M hM h; cases h
  | succ n ih =>
    intro l0 l1 l2 l4 l6 l7 l9 l11 M hM h
    refine RN_k (callX_det _) 3 _ _ _ _ (show kd M l0 10 ∧ R269 sl sx d M0 P 50 [some (vR (some l0)), some (vI l1), some (vL l2), none, some (vL l4), none, some (vI l6), some (vL l7), none, some (vL l9), none, some (vI l11)] [vI (mI M l0 5), vI l11] M from ⟨h.1, ?_⟩)
    replace h := h.2
    refine RN_k (callX_det _) 1 _ _ _ _ (show ((mI M l0 5) ≤ l11 → R269 sl sx d M0 P 117 [some (vR (some l0)), some (vI l1), some (vL l2), none, some (vL l4), none, some (vI l6), some (vL l7), none, some (vL l9), none, some (vI l11)] [] M) ∧ (¬ ((mI M l0 5) ≤ l11) → R269 sl sx d M0 P 53 [some (vR (some l0)), some (vI l1), some (vL l2), none, some (vL l4), none, some (vI l6), some (vL l7), none, some (vL l9), none, some (vI l11)] [] M) from ⟨fun hc => ?_, fun hc => ?_⟩)
    · replace h := h.1 hc
      refine RN_k (callX_det _) 3 _ _ _ _ (show (l1 = (-1 : Int32) → R269 sl sx d M0 P 138 [some (vR (some l0)), some (vI l1), some (vL l2), none, some (vL l4), none, some (vI l6), some (vL l7), none, some (vL l9), none, some (vI l11)] [] M) ∧ (¬ (l1 = (-1 : Int32)) → R269 sl sx d M0 P 122 [some (vR (some l0)), some (vI l1), some (vL l2), none, some (vL l4), none, some (vI l6), some (vL l7), none, some (vL l9), none, some (vI l11)] [] M) from ⟨fun hc => ?_, fun hc => ?_⟩)
      · replace h := h.1 hc
        exact RN_weak (K := [some (vR (some l0)), none, none, none, none, none, some (vI l6), some (vL l7), none, some (vL l9), none, none]) (callX_det _) (show _ ∧ _ ∧ _ ∧ _ ∧ True from ⟨rfl, rfl, rfl, rfl, trivial⟩) (t269_138 hk24 l0 l6 l7 l9 _ hM h)
      · replace h := h.2 hc
        refine RN_k (callX_det _) 5 _ _ _ _ (show callX TBg sl sx (d + 106) 199 [vL l7, vL l9, vL l2, vL l4] M (fun v M9 => R269 sl sx d M0 P 132 [some (vR (some l0)), some (vI l1), some (vL l2), none, some (vL l4), none, some (vI l6), some (vL l7), none, some (vL l9), none, some (vI l11)] (pushO v []) M9) from ?_)
        refine callX_mono (callX_len (d := (d + 106)) rfl rfl rfl (c199 (d := d + 104) h)) ?_
        clear h
        rintro v9 M1 ⟨hl, r2, rfl, h⟩
        replace hM := lenT hM hl
        show R269 sl sx d M0 P 132 [some (vR (some l0)), some (vI l1), some (vL l2), none, some (vL l4), none, some (vI l6), some (vL l7), none, some (vL l9), none, some (vI l11)] [vI r2] M1
        refine RN_k (callX_det _) 1 _ _ _ _ (show (r2 < 0 → R269 sl sx d M0 P 138 [some (vR (some l0)), some (vI l1), some (vL l2), none, some (vL l4), none, some (vI l6), some (vL l7), none, some (vL l9), none, some (vI l11)] [] M1) ∧ (¬ (r2 < 0) → R269 sl sx d M0 P 135 [some (vR (some l0)), some (vI l1), some (vL l2), none, some (vL l4), none, some (vI l6), some (vL l7), none, some (vL l9), none, some (vI l11)] [] M1) from ⟨fun hc => ?_, fun hc => ?_⟩)
        · replace h := h.1 hc
          exact RN_weak (K := [some (vR (some l0)), none, none, none, none, none, some (vI l6), some (vL l7), none, some (vL l9), none, none]) (callX_det _) (show _ ∧ _ ∧ _ ∧ _ ∧ True from ⟨rfl, rfl, rfl, rfl, trivial⟩) (t269_138 hk24 l0 l6 l7 l9 _ hM h)
        · replace h := h.2 hc
          refine RN_k (callX_det _) 1 _ _ _ _ (show R269 sl sx d M0 P 148 [some (vR (some l0)), some (vI l1), some (vL l2), none, some (vL l4), none, some (vI l6), some (vL l7), none, some (vL l9), none, some (vI l11)] [] M1 from ?_)
          exact RN_weak (K := [some (vR (some l0)), some (vI l1), some (vL l2), none, some (vL l4), none, some (vI l6), none, none, none, none, none]) (callX_det _) (show _ ∧ _ ∧ _ ∧ _ ∧ _ ∧ True from ⟨rfl, rfl, rfl, rfl, rfl, trivial⟩) (t269_148 hk24 l0 l1 l2 l4 l6 _ hM h)
    · replace h := h.2 hc
      refine RN_k (callX_det _) 3 _ _ _ _ (show (l11 ≠ l6 → R269 sl sx d M0 P 63 [some (vR (some l0)), some (vI l1), some (vL l2), none, some (vL l4), none, some (vI l6), some (vL l7), none, some (vL l9), none, some (vI l11)] [] M) ∧ (¬ (l11 ≠ l6) → R269 sl sx d M0 P 60 [some (vR (some l0)), some (vI l1), some (vL l2), none, some (vL l4), none, some (vI l6), some (vL l7), none, some (vL l9), none, some (vI l11)] [] M) from ⟨fun hc => ?_, fun hc => ?_⟩)
      · replace h := h.1 hc
        refine RN_k (callX_det _) 4 _ _ _ _ (show kd M l0 10 ∧ callX TBg sl sx (d + 106) 268 [vR (some l0), vI l6, vI l11] M (fun v M9 => R269 sl sx d M0 P 71 [some (vR (some l0)), some (vI l1), some (vL l2), none, some (vL l4), none, some (vI l6), some (vL l7), none, some (vL l9), none, some (vI l11)] (pushO v []) M9) from ⟨h.1, ?_⟩)
        replace h := h.2
        refine callX_mono (callX_len (d := (d + 106)) rfl rfl rfl (c268 (d := d) h)) ?_
        clear h
        rintro v9 M3 ⟨hl, rfl, h⟩
        replace hM := lenT hM hl
        show R269 sl sx d M0 P 71 [some (vR (some l0)), some (vI l1), some (vL l2), none, some (vL l4), none, some (vI l6), some (vL l7), none, some (vL l9), none, some (vI l11)] [] M3
        refine RN_k (callX_det _) 4 _ _ _ _ (show ((lg_cmp l7 (0 : Int64)) < 0 → R269 sl sx d M0 P 99 [some (vR (some l0)), some (vI l1), some (vL l2), none, some (vL l4), none, some (vI l6), some (vL l7), none, some (vL l9), none, some (vI l11)] [] M3) ∧ (¬ ((lg_cmp l7 (0 : Int64)) < 0) → R269 sl sx d M0 P 78 [some (vR (some l0)), some (vI l1), some (vL l2), none, some (vL l4), none, some (vI l6), some (vL l7), none, some (vL l9), none, some (vI l11)] [] M3) from ⟨fun hc => ?_, fun hc => ?_⟩)
        · replace h := h.1 hc
          exact RN_weak (K := [some (vR (some l0)), some (vI l1), some (vL l2), none, some (vL l4), none, some (vI l6), none, none, none, none, some (vI l11)]) (callX_det _) (show _ ∧ _ ∧ _ ∧ _ ∧ _ ∧ _ ∧ True from ⟨rfl, rfl, rfl, rfl, rfl, rfl, trivial⟩) (t269_99 hk24 ih l0 l1 l2 l4 l6 l11 _ hM h)
        · replace h := h.2 hc
          refine RN_k (callX_det _) 2 _ _ _ _ (show kd M3 l0 10 ∧ R269 sl sx d M0 P 82 [some (vR (some l0)), some (vI l1), some (vL l2), none, some (vL l4), none, some (vI l6), some (vL l7), none, some (vL l9), none, some (vI l11)] [vL (mL M3 l0 52)] M3 from ⟨h.1, ?_⟩)
          replace h := h.2
          refine RN_k (callX_det _) 2 _ _ _ _ (show kd M3 l0 10 ∧ R269 sl sx d M0 P 86 [some (vR (some l0)), some (vI l1), some (vL l2), none, some (vL l4), none, some (vI l6), some (vL l7), none, some (vL l9), none, some (vI l11)] [vL (mL M3 l0 53), vL (mL M3 l0 52)] M3 from ⟨h.1, ?_⟩)
          replace h := h.2
          refine RN_k (callX_det _) 3 _ _ _ _ (show callX TBg sl sx (d + 106) 199 [vL (mL M3 l0 52), vL (mL M3 l0 53), vL l7, vL l9] M3 (fun v M9 => R269 sl sx d M0 P 93 [some (vR (some l0)), some (vI l1), some (vL l2), none, some (vL l4), none, some (vI l6), some (vL l7), none, some (vL l9), none, some (vI l11)] (pushO v []) M9) from ?_)
          refine callX_mono (callX_len (d := (d + 106)) rfl rfl rfl (c199 (d := d + 104) h)) ?_
          clear h
          rintro v9 M4 ⟨hl, r5, rfl, h⟩
          replace hM := lenT hM hl
          show R269 sl sx d M0 P 93 [some (vR (some l0)), some (vI l1), some (vL l2), none, some (vL l4), none, some (vI l6), some (vL l7), none, some (vL l9), none, some (vI l11)] [vI r5] M4
          refine RN_k (callX_det _) 1 _ _ _ _ (show (0 < r5 → R269 sl sx d M0 P 99 [some (vR (some l0)), some (vI l1), some (vL l2), none, some (vL l4), none, some (vI l6), some (vL l7), none, some (vL l9), none, some (vI l11)] [] M4) ∧ (¬ (0 < r5) → R269 sl sx d M0 P 96 [some (vR (some l0)), some (vI l1), some (vL l2), none, some (vL l4), none, some (vI l6), some (vL l7), none, some (vL l9), none, some (vI l11)] [] M4) from ⟨fun hc => ?_, fun hc => ?_⟩)
          · replace h := h.1 hc
            exact RN_weak (K := [some (vR (some l0)), some (vI l1), some (vL l2), none, some (vL l4), none, some (vI l6), none, none, none, none, some (vI l11)]) (callX_det _) (show _ ∧ _ ∧ _ ∧ _ ∧ _ ∧ _ ∧ True from ⟨rfl, rfl, rfl, rfl, rfl, rfl, trivial⟩) (t269_99 hk24 ih l0 l1 l2 l4 l6 l11 _ hM h)
          · replace h := h.2 hc
            refine RN_k (callX_det _) 1 _ _ _ _ (show R269 sl sx d M0 P 111 [some (vR (some l0)), some (vI l1), some (vL l2), none, some (vL l4), none, some (vI l6), some (vL l7), none, some (vL l9), none, some (vI l11)] [] M4 from ?_)
            exact RN_weak (K := [some (vR (some l0)), some (vI l1), some (vL l2), none, some (vL l4), none, some (vI l6), some (vL l7), none, some (vL l9), none, some (vI l11)]) (callX_det _) (show _ ∧ _ ∧ _ ∧ _ ∧ _ ∧ _ ∧ _ ∧ _ ∧ True from ⟨rfl, rfl, rfl, rfl, rfl, rfl, rfl, rfl, trivial⟩) (t269_111 hk24 ih l0 l1 l2 l4 l6 l7 l9 l11 _ hM h)
      · replace h := h.2 hc
        refine RN_k (callX_det _) 1 _ _ _ _ (show R269 sl sx d M0 P 111 [some (vR (some l0)), some (vI l1), some (vL l2), none, some (vL l4), none, some (vI l6), some (vL l7), none, some (vL l9), none, some (vI l11)] [] M from ?_)
        exact RN_weak (K := [some (vR (some l0)), some (vI l1), some (vL l2), none, some (vL l4), none, some (vI l6), some (vL l7), none, some (vL l9), none, some (vI l11)]) (callX_det _) (show _ ∧ _ ∧ _ ∧ _ ∧ _ ∧ _ ∧ _ ∧ _ ∧ True from ⟨rfl, rfl, rfl, rfl, rfl, rfl, rfl, rfl, trivial⟩) (t269_111 hk24 ih l0 l1 l2 l4 l6 l7 l9 l11 _ hM h)
def w269_24 : Nat → Nat → Int32 → Int64 → Int64 → Int32 → MM → (Int32 → MM → Prop) → Prop
  | 0 => fun _ _ _ _ _ _ _ => False
  | n + 1 => fun l0 l1 l2 l4 l6 M P => kd M l0 10 ∧ (((mI M l0 5) ≤ l6 → (kd M l0 10 ∧ w177 l0 l1 M (fun r2 M1 => P r2 M1))) ∧ (¬ ((mI M l0 5) ≤ l6) → (∃ n2, w269_44 (fun z0 z1 z2 z3 z4 z5 => w269_24  n z0 z1 z2 z3 z4 z5 P) n2 l0 l1 l2 l4 l6 (-1 : Int64) (1 : Int64) (0 : Int32) M P)))
theorem t269_24 {sl : Nat} {sx : Nat → Int32} {d : Nat} {M0 : MM} {P : Int32 → MM → Prop} (n : Nat) : ∀ (l0 : Nat) (l1 : Int32) (l2 : Int64) (l4 : Int64) (l6 : Int32) (M : MM) (_ : lenO M0 M) (_ : w269_24  n l0 l1 l2 l4 l6 M P), R269 sl sx d M0 P 24 [some (vR (some l0)), some (vI l1), some (vL l2), none, some (vL l4), none, some (vI l6), none, none, none, none, none] [] M := by
  induction n with
  | zero => intro l0 l1 l2 l4 l6 M hM h; cases h
  | succ n ih =>
    intro l0 l1 l2 l4 l6 M hM h
    refine RN_k (callX_det _) 3 _ _ _ _ (show kd M l0 10 ∧ R269 sl sx d M0 P 30 [some (vR (some l0)), some (vI l1), some (vL l2), none, some (vL l4), none, some (vI l6), none, none, none, none, none] [vI (mI M l0 5), vI l6] M from ⟨h.1, ?_⟩)
    replace h := h.2
    refine RN_k (callX_det _) 1 _ _ _ _ (show ((mI M l0 5) ≤ l6 → R269 sl sx d M0 P 154 [some (vR (some l0)), some (vI l1), some (vL l2), none, some (vL l4), none, some (vI l6), none, none, none, none, none] [] M) ∧ (¬ ((mI M l0 5) ≤ l6) → R269 sl sx d M0 P 33 [some (vR (some l0)), some (vI l1), some (vL l2), none, some (vL l4), none, some (vI l6), none, none, none, none, none] [] M) from ⟨fun hc => ?_, fun hc => ?_⟩)
    · replace h := h.1 hc
      refine RN_k (callX_det _) 3 _ _ _ _ (show kd M l0 10 ∧ callX TBg sl sx (d + 106) 177 [vR (some l0), vI l1] M (fun v M9 => R269 sl sx d M0 P 159 [some (vR (some l0)), some (vI l1), some (vL l2), none, some (vL l4), none, some (vI l6), none, none, none, none, none] (pushO v []) M9) from ⟨h.1, ?_⟩)
      replace h := h.2
      refine callX_mono (callX_len (d := (d + 106)) rfl rfl rfl (c177 (d := d + 105) h)) ?_
      clear h
      rintro v9 M1 ⟨hl, r2, rfl, h⟩
      replace hM := lenT hM hl
      show R269 sl sx d M0 P 159 [some (vR (some l0)), some (vI l1), some (vL l2), none, some (vL l4), none, some (vI l6), none, none, none, none, none] [vI r2] M1
      exact RN_k (callX_det _) 1 _ _ _ _ (show rtW q269 M0 (PI P) (some (vI r2)) M1 from ⟨⟨_, rfl⟩, hM.1, hM.2, _, rfl, h⟩)
    · replace h := h.2 hc
      refine RN_k (callX_det _) 6 _ _ _ _ (show R269 sl sx d M0 P 44 [some (vR (some l0)), some (vI l1), some (vL l2), none, some (vL l4), none, some (vI l6), some (vL (-1 : Int64)), none, some (vL (1 : Int64)), none, some (vI (0 : Int32))] [] M from ?_)
      obtain ⟨n2, h⟩ := h
      exact RN_weak (K := [some (vR (some l0)), some (vI l1), some (vL l2), none, some (vL l4), none, some (vI l6), some (vL (-1 : Int64)), none, some (vL (1 : Int64)), none, some (vI (0 : Int32))]) (callX_det _) (show _ ∧ _ ∧ _ ∧ _ ∧ _ ∧ _ ∧ _ ∧ _ ∧ True from ⟨rfl, rfl, rfl, rfl, rfl, rfl, rfl, rfl, trivial⟩) (t269_44 ih n2 l0 l1 l2 l4 l6 (-1 : Int64) (1 : Int64) (0 : Int32) _ hM h)
def w269 (l0 : Nat) (M : MM) (P : Int32 → MM → Prop) : Prop := kd M l0 10 ∧ (((2 : Int32) ≤ (mI M l0 5) → (∃ n2, w269_24  n2 l0 (-1 : Int32) (0 : Int64) (1 : Int64) (0 : Int32) M P)) ∧ (¬ ((2 : Int32) ≤ (mI M l0 5)) → (kd M l0 10 ∧ w167 l0 (5 : Int32) M (fun r2 M1 => P r2 M1))))
theorem t269_E {sl : Nat} {sx : Nat → Int32} {d : Nat} {M0 : MM} {P : Int32 → MM → Prop} (l0 : Nat) (M : MM) (hM : lenO M0 M) (h : w269  l0 M P) : R269 sl sx d M0 P 0 [some (vR (some l0)), none, none, none, none, none, none, none, none, none, none, none] [] M := by
  refine RN_k (callX_det _) 2 _ _ _ _ (show kd M l0 10 ∧ R269 sl sx d M0 P 4 [some (vR (some l0)), none, none, none, none, none, none, none, none, none, none, none] [vI (mI M l0 5)] M from ⟨h.1, ?_⟩)
  replace h := h.2
  refine RN_k (callX_det _) 2 _ _ _ _ (show ((2 : Int32) ≤ (mI M l0 5) → R269 sl sx d M0 P 14 [some (vR (some l0)), none, none, none, none, none, none, none, none, none, none, none] [] M) ∧ (¬ ((2 : Int32) ≤ (mI M l0 5)) → R269 sl sx d M0 P 8 [some (vR (some l0)), none, none, none, none, none, none, none, none, none, none, none] [] M) from ⟨fun hc => ?_, fun hc => ?_⟩)
  · replace h := h.1 hc
    refine RN_k (callX_det _) 8 _ _ _ _ (show R269 sl sx d M0 P 24 [some (vR (some l0)), some (vI (-1 : Int32)), some (vL (0 : Int64)), none, some (vL (1 : Int64)), none, some (vI (0 : Int32)), none, none, none, none, none] [] M from ?_)
    obtain ⟨n2, h⟩ := h
    exact RN_weak (K := [some (vR (some l0)), some (vI (-1 : Int32)), some (vL (0 : Int64)), none, some (vL (1 : Int64)), none, some (vI (0 : Int32)), none, none, none, none, none]) (callX_det _) (show _ ∧ _ ∧ _ ∧ _ ∧ _ ∧ True from ⟨rfl, rfl, rfl, rfl, rfl, trivial⟩) (t269_24  n2 l0 (-1 : Int32) (0 : Int64) (1 : Int64) (0 : Int32) _ hM h)
  · replace h := h.2 hc
    refine RN_k (callX_det _) 3 _ _ _ _ (show kd M l0 10 ∧ callX TBg sl sx (d + 106) 167 [vR (some l0), vI (5 : Int32)] M (fun v M9 => R269 sl sx d M0 P 13 [some (vR (some l0)), none, none, none, none, none, none, none, none, none, none, none] (pushO v []) M9) from ⟨h.1, ?_⟩)
    replace h := h.2
    refine callX_mono (callX_len (d := (d + 106)) rfl rfl rfl (c167 (d := d + 105) h)) ?_
    clear h
    rintro v9 M1 ⟨hl, r2, rfl, h⟩
    replace hM := lenT hM hl
    show R269 sl sx d M0 P 13 [some (vR (some l0)), none, none, none, none, none, none, none, none, none, none, none] [vI r2] M1
    exact RN_k (callX_det _) 1 _ _ _ _ (show rtW q269 M0 (PI P) (some (vI r2)) M1 from ⟨⟨_, rfl⟩, hM.1, hM.2, _, rfl, h⟩)
theorem c269 {sl : Nat} {sx : Nat → Int32} {d : Nat} {l0 : Nat} {M : MM} {P : Int32 → MM → Prop} (h : w269 l0 M P) : callX TBg sl sx (d + 107) 269 [vR (some l0)] M (PI P) :=
  cX (d := d + 106) q269 (false, tb269) rfl rfl rfl (t269_E l0 M lenR h)
-- TwoLeashModel.hangs(II)Z
abbrev q272 : MQ7 := (3, 1, 3, 10, 0, 0, 4)
abbrev R272 (sl : Nat) (sx : Nat → Int32) (d : Nat) (M0 : MM) (P : Int32 → MM → Prop) : Nat → LL → List VV → MM → Prop := RN 10 false (mS M0).length (mT M0) 0 0 sl sx (callX TBg sl sx (d + 9)) (rtW q272 M0 (PI P)) (as2 tb272)
def w272 (l0 : Nat) (l1 : Int32) (l2 : Int32) (M : MM) (P : Int32 → MM → Prop) : Prop := w70 l1 l2 M (fun r2 M1 => w33 l1 l2 M1 (fun r4 M3 => kd M3 l0 10 ∧ w211 l0 r2 r4 M3 (fun M5 => kd M5 l0 10 ∧ w239 l0 (0 : Int32) M5 (fun r7 M6 => (r7 = 0 ∨ r7 = 1) ∧ P r7 M6))))
theorem t272_E {sl : Nat} {sx : Nat → Int32} {d : Nat} {M0 : MM} {P : Int32 → MM → Prop} (l0 : Nat) (l1 : Int32) (l2 : Int32) (M : MM) (hM : lenO M0 M) (h : w272  l0 l1 l2 M P) : R272 sl sx d M0 P 0 [some (vR (some l0)), some (vI l1), some (vI l2)] [] M := by
  refine RN_k (callX_det _) 4 _ _ _ _ (show callX TBg sl sx (d + 9) 70 [vI l1, vI l2] M (fun v M9 => R272 sl sx d M0 P 6 [some (vR (some l0)), some (vI l1), some (vI l2)] (pushO v [vR (some l0)]) M9) from ?_)
  refine callX_mono (callX_len (d := (d + 9)) rfl rfl rfl (c70 (d := d + 8) h)) ?_
  clear h
  rintro v9 M1 ⟨hl, r2, rfl, h⟩
  replace hM := lenT hM hl
  show R272 sl sx d M0 P 6 [some (vR (some l0)), some (vI l1), some (vI l2)] [vI r2, vR (some l0)] M1
  refine RN_k (callX_det _) 3 _ _ _ _ (show callX TBg sl sx (d + 9) 33 [vI l1, vI l2] M1 (fun v M9 => R272 sl sx d M0 P 11 [some (vR (some l0)), some (vI l1), some (vI l2)] (pushO v [vI r2, vR (some l0)]) M9) from ?_)
  refine callX_mono (callX_len (d := (d + 9)) rfl rfl rfl (c33 (d := d + 8) h)) ?_
  clear h
  rintro v9 M3 ⟨hl, r4, rfl, h⟩
  replace hM := lenT hM hl
  show R272 sl sx d M0 P 11 [some (vR (some l0)), some (vI l1), some (vI l2)] [vI r4, vI r2, vR (some l0)] M3
  refine RN_k (callX_det _) 1 _ _ _ _ (show kd M3 l0 10 ∧ callX TBg sl sx (d + 9) 211 [vR (some l0), vI r2, vI r4] M3 (fun v M9 => R272 sl sx d M0 P 14 [some (vR (some l0)), some (vI l1), some (vI l2)] (pushO v []) M9) from ⟨h.1, ?_⟩)
  replace h := h.2
  refine callX_mono (callX_len (d := (d + 9)) rfl rfl rfl (c211 (d := d + 4) h)) ?_
  clear h
  rintro v9 M5 ⟨hl, rfl, h⟩
  replace hM := lenT hM hl
  show R272 sl sx d M0 P 14 [some (vR (some l0)), some (vI l1), some (vI l2)] [] M5
  refine RN_k (callX_det _) 3 _ _ _ _ (show kd M5 l0 10 ∧ callX TBg sl sx (d + 9) 239 [vR (some l0), vI (0 : Int32)] M5 (fun v M9 => R272 sl sx d M0 P 19 [some (vR (some l0)), some (vI l1), some (vI l2)] (pushO v []) M9) from ⟨h.1, ?_⟩)
  replace h := h.2
  refine callX_mono (callX_len (d := (d + 9)) rfl rfl rfl (c239 (d := d) h)) ?_
  clear h
  rintro v9 M6 ⟨hl, r7, rfl, h⟩
  replace hM := lenT hM hl
  show R272 sl sx d M0 P 19 [some (vR (some l0)), some (vI l1), some (vI l2)] [vI r7] M6
  exact RN_k (callX_det _) 1 _ _ _ _ (show rtW q272 M0 (PI P) (some (vI r7)) M6 from ⟨⟨_, rfl, h.1⟩, hM.1, hM.2, _, rfl, h.2⟩)
theorem c272 {sl : Nat} {sx : Nat → Int32} {d : Nat} {l0 : Nat} {l1 : Int32} {l2 : Int32} {M : MM} {P : Int32 → MM → Prop} (h : w272 l0 l1 l2 M P) : callX TBg sl sx (d + 10) 272 [vR (some l0), vI l1, vI l2] M (PI P) :=
  cX (d := d + 9) q272 (false, tb272) rfl rfl rfl (t272_E l0 l1 l2 M lenR h)
-- TwoLeashModel.groupOf(I)I
abbrev q271 : MQ7 := (2, 1, 6, 10, 0, 0, 1)
abbrev R271 (sl : Nat) (sx : Nat → Int32) (d : Nat) (M0 : MM) (P : Int32 → MM → Prop) : Nat → LL → List VV → MM → Prop := RN 10 false (mS M0).length (mT M0) 0 0 sl sx (callX TBg sl sx (d + 10)) (rtW q271 M0 (PI P)) (as2 tb271)
def w271_74 (k6 : Nat → Int32 → Int32 → MM → Prop) (k16 : Nat → Int32 → Int32 → Int32 → MM → Prop) (k28 : Nat → Int32 → Int32 → Int32 → Int32 → MM → Prop) (l0 : Nat) (l2 : Int32) (l3 : Int32) (l4 : Int32) (l5 : Int32) (M : MM) (P : Int32 → MM → Prop) : Prop := k28 l0 l2 l3 l4 (l5 + (1 : Int32)) M
theorem t271_74 {sl : Nat} {sx : Nat → Int32} {d : Nat} {M0 : MM} {P : Int32 → MM → Prop} {k6 : Nat → Int32 → Int32 → MM → Prop} {k16 : Nat → Int32 → Int32 → Int32 → MM → Prop} {k28 : Nat → Int32 → Int32 → Int32 → Int32 → MM → Prop} (hk6 : ∀ (l0 : Nat) (l2 : Int32) (l3 : Int32) (M : MM), lenO M0 M → k6 l0 l2 l3 M → R271 sl sx d M0 P 6 [some (vR (some l0)), none, some (vI l2), some (vI l3), none, none] [] M) (hk16 : ∀ (l0 : Nat) (l2 : Int32) (l3 : Int32) (l4 : Int32) (M : MM), lenO M0 M → k16 l0 l2 l3 l4 M → R271 sl sx d M0 P 16 [some (vR (some l0)), none, some (vI l2), some (vI l3), some (vI l4), none] [] M) (hk28 : ∀ (l0 : Nat) (l2 : Int32) (l3 : Int32) (l4 : Int32) (l5 : Int32) (M : MM), lenO M0 M → k28 l0 l2 l3 l4 l5 M → R271 sl sx d M0 P 28 [some (vR (some l0)), none, some (vI l2), some (vI l3), some (vI l4), some (vI l5)] [] M) (l0 : Nat) (l2 : Int32) (l3 : Int32) (l4 : Int32) (l5 : Int32) (M : MM) (hM : lenO M0 M) (h : w271_74 k6 k16 k28 l0 l2 l3 l4 l5 M P) : R271 sl sx d M0 P 74 [some (vR (some l0)), none, some (vI l2), some (vI l3), some (vI l4), some (vI l5)] [] M := by
  refine RN_k (callX_det _) 2 _ _ _ _ (show R271 sl sx d M0 P 28 [some (vR (some l0)), none, some (vI l2), some (vI l3), some (vI l4), some (vI (l5 + (1 : Int32)))] [] M from ?_)
  exact RN_weak (K := [some (vR (some l0)), none, some (vI l2), some (vI l3), some (vI l4), some (vI (l5 + (1 : Int32)))]) (callX_det _) (show _ ∧ _ ∧ _ ∧ _ ∧ _ ∧ True from ⟨rfl, rfl, rfl, rfl, rfl, trivial⟩) (hk28 l0 l2 l3 l4 (l5 + (1 : Int32)) _ hM h)
def w271_28 (k6 : Nat → Int32 → Int32 → MM → Prop) (k16 : Nat → Int32 → Int32 → Int32 → MM → Prop) : Nat → Nat → Int32 → Int32 → Int32 → Int32 → MM → (Int32 → MM → Prop) → Prop
  | 0 => fun _ _ _ _ _ _ _ => False
  | n + 1 => fun l0 l2 l3 l4 l5 M P => kd M l0 10 ∧ (((mI M l0 5) ≤ l5 → (k16 l0 l2 l3 (l4 + (1 : Int32)) M)) ∧ (¬ ((mI M l0 5) ≤ l5) → ((((l3 >>> (l4 &&& 31)) &&& (1 : Int32)) ≠ (1 : Int32) → (w271_74 k6 k16 (fun z0 z1 z2 z3 z4 z5 => w271_28 k6 k16 n z0 z1 z2 z3 z4 z5 P) l0 l2 l3 l4 l5 M P)) ∧ (¬ (((l3 >>> (l4 &&& 31)) &&& (1 : Int32)) ≠ (1 : Int32)) → ((((l3 >>> (l5 &&& 31)) &&& (1 : Int32)) ≠ 0 → (w271_74 k6 k16 (fun z0 z1 z2 z3 z4 z5 => w271_28 k6 k16 n z0 z1 z2 z3 z4 z5 P) l0 l2 l3 l4 l5 M P)) ∧ (¬ (((l3 >>> (l5 &&& 31)) &&& (1 : Int32)) ≠ 0) → (kd M l0 10 ∧ w272 l0 l4 l5 M (fun r2 M1 => (r2 = 0 → (w271_74 k6 k16 (fun z0 z1 z2 z3 z4 z5 => w271_28 k6 k16 n z0 z1 z2 z3 z4 z5 P) l0 l2 l3 l4 l5 M1 P)) ∧ (¬ (r2 = 0) → (w271_74 k6 k16 (fun z0 z1 z2 z3 z4 z5 => w271_28 k6 k16 n z0 z1 z2 z3 z4 z5 P) l0 (l2 ||| ((1 : Int32) <<< (l5 &&& 31))) l3 l4 l5 M1 P))))))))))
theorem t271_28 {sl : Nat} {sx : Nat → Int32} {d : Nat} {M0 : MM} {P : Int32 → MM → Prop} {k6 : Nat → Int32 → Int32 → MM → Prop} {k16 : Nat → Int32 → Int32 → Int32 → MM → Prop} (hk6 : ∀ (l0 : Nat) (l2 : Int32) (l3 : Int32) (M : MM), lenO M0 M → k6 l0 l2 l3 M → R271 sl sx d M0 P 6 [some (vR (some l0)), none, some (vI l2), some (vI l3), none, none] [] M) (hk16 : ∀ (l0 : Nat) (l2 : Int32) (l3 : Int32) (l4 : Int32) (M : MM), lenO M0 M → k16 l0 l2 l3 l4 M → R271 sl sx d M0 P 16 [some (vR (some l0)), none, some (vI l2), some (vI l3), some (vI l4), none] [] M) (n : Nat) : ∀ (l0 : Nat) (l2 : Int32) (l3 : Int32) (l4 : Int32) (l5 : Int32) (M : MM) (_ : lenO M0 M) (_ : w271_28 k6 k16 n l0 l2 l3 l4 l5 M P), R271 sl sx d M0 P 28 [some (vR (some l0)), none, some (vI l2), some (vI l3), some (vI l4), some (vI l5)] [] M := by
  induction n with
  | zero => intro l0 l2 l3 l4 l5 M hM h; cases h
  | succ n ih =>
    intro l0 l2 l3 l4 l5 M hM h
    refine RN_k (callX_det _) 3 _ _ _ _ (show kd M l0 10 ∧ R271 sl sx d M0 P 34 [some (vR (some l0)), none, some (vI l2), some (vI l3), some (vI l4), some (vI l5)] [vI (mI M l0 5), vI l5] M from ⟨h.1, ?_⟩)
    replace h := h.2
    refine RN_k (callX_det _) 1 _ _ _ _ (show ((mI M l0 5) ≤ l5 → R271 sl sx d M0 P 80 [some (vR (some l0)), none, some (vI l2), some (vI l3), some (vI l4), some (vI l5)] [] M) ∧ (¬ ((mI M l0 5) ≤ l5) → R271 sl sx d M0 P 37 [some (vR (some l0)), none, some (vI l2), some (vI l3), some (vI l4), some (vI l5)] [] M) from ⟨fun hc => ?_, fun hc => ?_⟩)
    · replace h := h.1 hc
      refine RN_k (callX_det _) 2 _ _ _ _ (show R271 sl sx d M0 P 16 [some (vR (some l0)), none, some (vI l2), some (vI l3), some (vI (l4 + (1 : Int32))), some (vI l5)] [] M from ?_)
      exact RN_weak (K := [some (vR (some l0)), none, some (vI l2), some (vI l3), some (vI (l4 + (1 : Int32))), none]) (callX_det _) (show _ ∧ _ ∧ _ ∧ _ ∧ True from ⟨rfl, rfl, rfl, rfl, trivial⟩) (hk16 l0 l2 l3 (l4 + (1 : Int32)) _ hM h)
    · replace h := h.2 hc
      refine RN_k (callX_det _) 7 _ _ _ _ (show (((l3 >>> (l4 &&& 31)) &&& (1 : Int32)) ≠ (1 : Int32) → R271 sl sx d M0 P 74 [some (vR (some l0)), none, some (vI l2), some (vI l3), some (vI l4), some (vI l5)] [] M) ∧ (¬ (((l3 >>> (l4 &&& 31)) &&& (1 : Int32)) ≠ (1 : Int32)) → R271 sl sx d M0 P 47 [some (vR (some l0)), none, some (vI l2), some (vI l3), some (vI l4), some (vI l5)] [] M) from ⟨fun hc => ?_, fun hc => ?_⟩)
      · replace h := h.1 hc
        exact RN_weak (K := [some (vR (some l0)), none, some (vI l2), some (vI l3), some (vI l4), some (vI l5)]) (callX_det _) (show _ ∧ _ ∧ _ ∧ _ ∧ _ ∧ True from ⟨rfl, rfl, rfl, rfl, rfl, trivial⟩) (t271_74 hk6 hk16 ih l0 l2 l3 l4 l5 _ hM h)
      · replace h := h.2 hc
        refine RN_k (callX_det _) 6 _ _ _ _ (show (((l3 >>> (l5 &&& 31)) &&& (1 : Int32)) ≠ 0 → R271 sl sx d M0 P 74 [some (vR (some l0)), none, some (vI l2), some (vI l3), some (vI l4), some (vI l5)] [] M) ∧ (¬ (((l3 >>> (l5 &&& 31)) &&& (1 : Int32)) ≠ 0) → R271 sl sx d M0 P 56 [some (vR (some l0)), none, some (vI l2), some (vI l3), some (vI l4), some (vI l5)] [] M) from ⟨fun hc => ?_, fun hc => ?_⟩)
        · replace h := h.1 hc
          exact RN_weak (K := [some (vR (some l0)), none, some (vI l2), some (vI l3), some (vI l4), some (vI l5)]) (callX_det _) (show _ ∧ _ ∧ _ ∧ _ ∧ _ ∧ True from ⟨rfl, rfl, rfl, rfl, rfl, trivial⟩) (t271_74 hk6 hk16 ih l0 l2 l3 l4 l5 _ hM h)
        · replace h := h.2 hc
          refine RN_k (callX_det _) 4 _ _ _ _ (show kd M l0 10 ∧ callX TBg sl sx (d + 10) 272 [vR (some l0), vI l4, vI l5] M (fun v M9 => R271 sl sx d M0 P 64 [some (vR (some l0)), none, some (vI l2), some (vI l3), some (vI l4), some (vI l5)] (pushO v []) M9) from ⟨h.1, ?_⟩)
          replace h := h.2
          refine callX_mono (callX_len (d := (d + 10)) rfl rfl rfl (c272 (d := d) h)) ?_
          clear h
          rintro v9 M1 ⟨hl, r2, rfl, h⟩
          replace hM := lenT hM hl
          show R271 sl sx d M0 P 64 [some (vR (some l0)), none, some (vI l2), some (vI l3), some (vI l4), some (vI l5)] [vI r2] M1
          refine RN_k (callX_det _) 1 _ _ _ _ (show (r2 = 0 → R271 sl sx d M0 P 74 [some (vR (some l0)), none, some (vI l2), some (vI l3), some (vI l4), some (vI l5)] [] M1) ∧ (¬ (r2 = 0) → R271 sl sx d M0 P 67 [some (vR (some l0)), none, some (vI l2), some (vI l3), some (vI l4), some (vI l5)] [] M1) from ⟨fun hc => ?_, fun hc => ?_⟩)
          · replace h := h.1 hc
            exact RN_weak (K := [some (vR (some l0)), none, some (vI l2), some (vI l3), some (vI l4), some (vI l5)]) (callX_det _) (show _ ∧ _ ∧ _ ∧ _ ∧ _ ∧ True from ⟨rfl, rfl, rfl, rfl, rfl, trivial⟩) (t271_74 hk6 hk16 ih l0 l2 l3 l4 l5 _ hM h)
          · replace h := h.2 hc
            refine RN_k (callX_det _) 6 _ _ _ _ (show R271 sl sx d M0 P 74 [some (vR (some l0)), none, some (vI (l2 ||| ((1 : Int32) <<< (l5 &&& 31)))), some (vI l3), some (vI l4), some (vI l5)] [] M1 from ?_)
            exact RN_weak (K := [some (vR (some l0)), none, some (vI (l2 ||| ((1 : Int32) <<< (l5 &&& 31)))), some (vI l3), some (vI l4), some (vI l5)]) (callX_det _) (show _ ∧ _ ∧ _ ∧ _ ∧ _ ∧ True from ⟨rfl, rfl, rfl, rfl, rfl, trivial⟩) (t271_74 hk6 hk16 ih l0 (l2 ||| ((1 : Int32) <<< (l5 &&& 31))) l3 l4 l5 _ hM h)
def w271_16 (k6 : Nat → Int32 → Int32 → MM → Prop) : Nat → Nat → Int32 → Int32 → Int32 → MM → (Int32 → MM → Prop) → Prop
  | 0 => fun _ _ _ _ _ _ => False
  | n + 1 => fun l0 l2 l3 l4 M P => kd M l0 10 ∧ (((mI M l0 5) ≤ l4 → (k6 l0 l2 l3 M)) ∧ (¬ ((mI M l0 5) ≤ l4) → (∃ n2, w271_28 k6 (fun z0 z1 z2 z3 z4 => w271_16 k6 n z0 z1 z2 z3 z4 P) n2 l0 l2 l3 l4 (0 : Int32) M P)))
theorem t271_16 {sl : Nat} {sx : Nat → Int32} {d : Nat} {M0 : MM} {P : Int32 → MM → Prop} {k6 : Nat → Int32 → Int32 → MM → Prop} (hk6 : ∀ (l0 : Nat) (l2 : Int32) (l3 : Int32) (M : MM), lenO M0 M → k6 l0 l2 l3 M → R271 sl sx d M0 P 6 [some (vR (some l0)), none, some (vI l2), some (vI l3), none, none] [] M) (n : Nat) : ∀ (l0 : Nat) (l2 : Int32) (l3 : Int32) (l4 : Int32) (M : MM) (_ : lenO M0 M) (_ : w271_16 k6 n l0 l2 l3 l4 M P), R271 sl sx d M0 P 16 [some (vR (some l0)), none, some (vI l2), some (vI l3), some (vI l4), none] [] M := by
  induction n with
  | zero => intro l0 l2 l3 l4 M hM h; cases h
  | succ n ih =>
    intro l0 l2 l3 l4 M hM h
    refine RN_k (callX_det _) 3 _ _ _ _ (show kd M l0 10 ∧ R271 sl sx d M0 P 22 [some (vR (some l0)), none, some (vI l2), some (vI l3), some (vI l4), none] [vI (mI M l0 5), vI l4] M from ⟨h.1, ?_⟩)
    replace h := h.2
    refine RN_k (callX_det _) 1 _ _ _ _ (show ((mI M l0 5) ≤ l4 → R271 sl sx d M0 P 86 [some (vR (some l0)), none, some (vI l2), some (vI l3), some (vI l4), none] [] M) ∧ (¬ ((mI M l0 5) ≤ l4) → R271 sl sx d M0 P 25 [some (vR (some l0)), none, some (vI l2), some (vI l3), some (vI l4), none] [] M) from ⟨fun hc => ?_, fun hc => ?_⟩)
    · replace h := h.1 hc
      refine RN_k (callX_det _) 1 _ _ _ _ (show R271 sl sx d M0 P 6 [some (vR (some l0)), none, some (vI l2), some (vI l3), some (vI l4), none] [] M from ?_)
      exact RN_weak (K := [some (vR (some l0)), none, some (vI l2), some (vI l3), none, none]) (callX_det _) (show _ ∧ _ ∧ _ ∧ True from ⟨rfl, rfl, rfl, trivial⟩) (hk6 l0 l2 l3 _ hM h)
    · replace h := h.2 hc
      refine RN_k (callX_det _) 2 _ _ _ _ (show R271 sl sx d M0 P 28 [some (vR (some l0)), none, some (vI l2), some (vI l3), some (vI l4), some (vI (0 : Int32))] [] M from ?_)
      obtain ⟨n2, h⟩ := h
      exact RN_weak (K := [some (vR (some l0)), none, some (vI l2), some (vI l3), some (vI l4), some (vI (0 : Int32))]) (callX_det _) (show _ ∧ _ ∧ _ ∧ _ ∧ _ ∧ True from ⟨rfl, rfl, rfl, rfl, rfl, trivial⟩) (t271_28 hk6 ih n2 l0 l2 l3 l4 (0 : Int32) _ hM h)
def w271_6 : Nat → Nat → Int32 → Int32 → MM → (Int32 → MM → Prop) → Prop
  | 0 => fun _ _ _ _ _ => False
  | n + 1 => fun l0 l2 l3 M P => (l3 = l2 → (P l2 M)) ∧ (¬ (l3 = l2) → (∃ n2, w271_16 (fun z0 z1 z2 z3 => w271_6  n z0 z1 z2 z3 P) n2 l0 l2 l2 (0 : Int32) M P))
theorem t271_6 {sl : Nat} {sx : Nat → Int32} {d : Nat} {M0 : MM} {P : Int32 → MM → Prop} (n : Nat) : ∀ (l0 : Nat) (l2 : Int32) (l3 : Int32) (M : MM) (_ : lenO M0 M) (_ : w271_6  n l0 l2 l3 M P), R271 sl sx d M0 P 6 [some (vR (some l0)), none, some (vI l2), some (vI l3), none, none] [] M := by
  induction n with
  | zero => intro l0 l2 l3 M hM h; cases h
  | succ n ih =>
    intro l0 l2 l3 M hM h
    refine RN_k (callX_det _) 3 _ _ _ _ (show (l3 = l2 → R271 sl sx d M0 P 89 [some (vR (some l0)), none, some (vI l2), some (vI l3), none, none] [] M) ∧ (¬ (l3 = l2) → R271 sl sx d M0 P 11 [some (vR (some l0)), none, some (vI l2), some (vI l3), none, none] [] M) from ⟨fun hc => ?_, fun hc => ?_⟩)
    · replace h := h.1 hc
      exact RN_k (callX_det _) 2 _ _ _ _ (show rtW q271 M0 (PI P) (some (vI l2)) M from ⟨⟨_, rfl⟩, hM.1, hM.2, _, rfl, h⟩)
    · replace h := h.2 hc
      refine RN_k (callX_det _) 4 _ _ _ _ (show R271 sl sx d M0 P 16 [some (vR (some l0)), none, some (vI l2), some (vI l2), some (vI (0 : Int32)), none] [] M from ?_)
      obtain ⟨n2, h⟩ := h
      exact RN_weak (K := [some (vR (some l0)), none, some (vI l2), some (vI l2), some (vI (0 : Int32)), none]) (callX_det _) (show _ ∧ _ ∧ _ ∧ _ ∧ True from ⟨rfl, rfl, rfl, rfl, trivial⟩) (t271_16 ih n2 l0 l2 l2 (0 : Int32) _ hM h)
def w271 (l0 : Nat) (l1 : Int32) (M : MM) (P : Int32 → MM → Prop) : Prop := ∃ n2, w271_6  n2 l0 ((1 : Int32) <<< (l1 &&& 31)) (0 : Int32) M P
theorem t271_E {sl : Nat} {sx : Nat → Int32} {d : Nat} {M0 : MM} {P : Int32 → MM → Prop} (l0 : Nat) (l1 : Int32) (M : MM) (hM : lenO M0 M) (h : w271  l0 l1 M P) : R271 sl sx d M0 P 0 [some (vR (some l0)), some (vI l1), none, none, none, none] [] M := by
  refine RN_k (callX_det _) 6 _ _ _ _ (show R271 sl sx d M0 P 6 [some (vR (some l0)), some (vI l1), some (vI ((1 : Int32) <<< (l1 &&& 31))), some (vI (0 : Int32)), none, none] [] M from ?_)
  obtain ⟨n2, h⟩ := h
  exact RN_weak (K := [some (vR (some l0)), none, some (vI ((1 : Int32) <<< (l1 &&& 31))), some (vI (0 : Int32)), none, none]) (callX_det _) (show _ ∧ _ ∧ _ ∧ True from ⟨rfl, rfl, rfl, trivial⟩) (t271_6  n2 l0 ((1 : Int32) <<< (l1 &&& 31)) (0 : Int32) _ hM h)
theorem c271 {sl : Nat} {sx : Nat → Int32} {d : Nat} {l0 : Nat} {l1 : Int32} {M : MM} {P : Int32 → MM → Prop} (h : w271 l0 l1 M P) : callX TBg sl sx (d + 11) 271 [vR (some l0), vI l1] M (PI P) :=
  cX (d := d + 10) q271 (false, tb271) rfl rfl rfl (t271_E l0 l1 M lenR h)
-- java/lang/Integer.numberOfTrailingZeros(I)I
abbrev q273 : MQ7 := (1, 0, 2, 12, 0, 0, 1)
abbrev R273 (sl : Nat) (sx : Nat → Int32) (d : Nat) (M0 : MM) (P : Int32 → MM → Prop) : Nat → LL → List VV → MM → Prop := RN 12 false (mS M0).length (mT M0) 0 0 sl sx (callX TBg sl sx (d + 0)) (rtW q273 M0 (PI P)) (as2 tb273)
def w273_74 (l0 : Int32) (l1 : Int32) (M : MM) (P : Int32 → MM → Prop) : Prop := P (l1 + ((l0.toUInt32 >>> ((1 : Int32).toUInt32 &&& Int32.toUInt32 31)).toInt32)) M
theorem t273_74 {sl : Nat} {sx : Nat → Int32} {d : Nat} {M0 : MM} {P : Int32 → MM → Prop} (l0 : Int32) (l1 : Int32) (M : MM) (hM : lenO M0 M) (h : w273_74  l0 l1 M P) : R273 sl sx d M0 P 74 [some (vI l0), some (vI l1)] [] M := by
  exact RN_k (callX_det _) 6 _ _ _ _ (show rtW q273 M0 (PI P) (some (vI (l1 + ((l0.toUInt32 >>> ((1 : Int32).toUInt32 &&& Int32.toUInt32 31)).toInt32)))) M from ⟨⟨_, rfl⟩, hM.1, hM.2, _, rfl, h⟩)
def w273_62 (l0 : Int32) (l1 : Int32) (M : MM) (P : Int32 → MM → Prop) : Prop := (l0 ≤ (4 : Int32) → (w273_74  l0 l1 M P)) ∧ (¬ (l0 ≤ (4 : Int32)) → (w273_74  ((l0.toUInt32 >>> ((2 : Int32).toUInt32 &&& Int32.toUInt32 31)).toInt32) (l1 + (2 : Int32)) M P))
theorem t273_62 {sl : Nat} {sx : Nat → Int32} {d : Nat} {M0 : MM} {P : Int32 → MM → Prop} (l0 : Int32) (l1 : Int32) (M : MM) (hM : lenO M0 M) (h : w273_62  l0 l1 M P) : R273 sl sx d M0 P 62 [some (vI l0), some (vI l1)] [] M := by
  refine RN_k (callX_det _) 3 _ _ _ _ (show (l0 ≤ (4 : Int32) → R273 sl sx d M0 P 74 [some (vI l0), some (vI l1)] [] M) ∧ (¬ (l0 ≤ (4 : Int32)) → R273 sl sx d M0 P 67 [some (vI l0), some (vI l1)] [] M) from ⟨fun hc => ?_, fun hc => ?_⟩)
  · replace h := h.1 hc
    exact RN_weak (K := [some (vI l0), some (vI l1)]) (callX_det _) (show _ ∧ _ ∧ True from ⟨rfl, rfl, trivial⟩) (t273_74  l0 l1 _ hM h)
  · replace h := h.2 hc
    refine RN_k (callX_det _) 5 _ _ _ _ (show R273 sl sx d M0 P 74 [some (vI ((l0.toUInt32 >>> ((2 : Int32).toUInt32 &&& Int32.toUInt32 31)).toInt32)), some (vI (l1 + (2 : Int32)))] [] M from ?_)
    exact RN_weak (K := [some (vI ((l0.toUInt32 >>> ((2 : Int32).toUInt32 &&& Int32.toUInt32 31)).toInt32)), some (vI (l1 + (2 : Int32)))]) (callX_det _) (show _ ∧ _ ∧ True from ⟨rfl, rfl, trivial⟩) (t273_74  ((l0.toUInt32 >>> ((2 : Int32).toUInt32 &&& Int32.toUInt32 31)).toInt32) (l1 + (2 : Int32)) _ hM h)
def w273_49 (l0 : Int32) (l1 : Int32) (M : MM) (P : Int32 → MM → Prop) : Prop := (l0 ≤ (16 : Int32) → (w273_62  l0 l1 M P)) ∧ (¬ (l0 ≤ (16 : Int32)) → (w273_62  ((l0.toUInt32 >>> ((4 : Int32).toUInt32 &&& Int32.toUInt32 31)).toInt32) (l1 + (4 : Int32)) M P))
theorem t273_49 {sl : Nat} {sx : Nat → Int32} {d : Nat} {M0 : MM} {P : Int32 → MM → Prop} (l0 : Int32) (l1 : Int32) (M : MM) (hM : lenO M0 M) (h : w273_49  l0 l1 M P) : R273 sl sx d M0 P 49 [some (vI l0), some (vI l1)] [] M := by
  refine RN_k (callX_det _) 3 _ _ _ _ (show (l0 ≤ (16 : Int32) → R273 sl sx d M0 P 62 [some (vI l0), some (vI l1)] [] M) ∧ (¬ (l0 ≤ (16 : Int32)) → R273 sl sx d M0 P 55 [some (vI l0), some (vI l1)] [] M) from ⟨fun hc => ?_, fun hc => ?_⟩)
  · replace h := h.1 hc
    exact RN_weak (K := [some (vI l0), some (vI l1)]) (callX_det _) (show _ ∧ _ ∧ True from ⟨rfl, rfl, trivial⟩) (t273_62  l0 l1 _ hM h)
  · replace h := h.2 hc
    refine RN_k (callX_det _) 5 _ _ _ _ (show R273 sl sx d M0 P 62 [some (vI ((l0.toUInt32 >>> ((4 : Int32).toUInt32 &&& Int32.toUInt32 31)).toInt32)), some (vI (l1 + (4 : Int32)))] [] M from ?_)
    exact RN_weak (K := [some (vI ((l0.toUInt32 >>> ((4 : Int32).toUInt32 &&& Int32.toUInt32 31)).toInt32)), some (vI (l1 + (4 : Int32)))]) (callX_det _) (show _ ∧ _ ∧ True from ⟨rfl, rfl, trivial⟩) (t273_62  ((l0.toUInt32 >>> ((4 : Int32).toUInt32 &&& Int32.toUInt32 31)).toInt32) (l1 + (4 : Int32)) _ hM h)
def w273_34 (l0 : Int32) (l1 : Int32) (M : MM) (P : Int32 → MM → Prop) : Prop := (l0 ≤ (256 : Int32) → (w273_49  l0 l1 M P)) ∧ (¬ (l0 ≤ (256 : Int32)) → (w273_49  ((l0.toUInt32 >>> ((8 : Int32).toUInt32 &&& Int32.toUInt32 31)).toInt32) (l1 + (8 : Int32)) M P))
theorem t273_34 {sl : Nat} {sx : Nat → Int32} {d : Nat} {M0 : MM} {P : Int32 → MM → Prop} (l0 : Int32) (l1 : Int32) (M : MM) (hM : lenO M0 M) (h : w273_34  l0 l1 M P) : R273 sl sx d M0 P 34 [some (vI l0), some (vI l1)] [] M := by
  refine RN_k (callX_det _) 3 _ _ _ _ (show (l0 ≤ (256 : Int32) → R273 sl sx d M0 P 49 [some (vI l0), some (vI l1)] [] M) ∧ (¬ (l0 ≤ (256 : Int32)) → R273 sl sx d M0 P 41 [some (vI l0), some (vI l1)] [] M) from ⟨fun hc => ?_, fun hc => ?_⟩)
  · replace h := h.1 hc
    exact RN_weak (K := [some (vI l0), some (vI l1)]) (callX_det _) (show _ ∧ _ ∧ True from ⟨rfl, rfl, trivial⟩) (t273_49  l0 l1 _ hM h)
  · replace h := h.2 hc
    refine RN_k (callX_det _) 5 _ _ _ _ (show R273 sl sx d M0 P 49 [some (vI ((l0.toUInt32 >>> ((8 : Int32).toUInt32 &&& Int32.toUInt32 31)).toInt32)), some (vI (l1 + (8 : Int32)))] [] M from ?_)
    exact RN_weak (K := [some (vI ((l0.toUInt32 >>> ((8 : Int32).toUInt32 &&& Int32.toUInt32 31)).toInt32)), some (vI (l1 + (8 : Int32)))]) (callX_det _) (show _ ∧ _ ∧ True from ⟨rfl, rfl, trivial⟩) (t273_49  ((l0.toUInt32 >>> ((8 : Int32).toUInt32 &&& Int32.toUInt32 31)).toInt32) (l1 + (8 : Int32)) _ hM h)
def w273 (l0 : Int32) (M : MM) (P : Int32 → MM → Prop) : Prop := (0 < ((l0 ^^^ (-1 : Int32)) &&& (l0 - (1 : Int32))) → ((((l0 ^^^ (-1 : Int32)) &&& (l0 - (1 : Int32))) ≤ (65536 : Int32) → (w273_34  ((l0 ^^^ (-1 : Int32)) &&& (l0 - (1 : Int32))) (1 : Int32) M P)) ∧ (¬ (((l0 ^^^ (-1 : Int32)) &&& (l0 - (1 : Int32))) ≤ (65536 : Int32)) → (w273_34  ((((l0 ^^^ (-1 : Int32)) &&& (l0 - (1 : Int32))).toUInt32 >>> ((16 : Int32).toUInt32 &&& Int32.toUInt32 31)).toInt32) ((1 : Int32) + (16 : Int32)) M P)))) ∧ (¬ (0 < ((l0 ^^^ (-1 : Int32)) &&& (l0 - (1 : Int32)))) → (P (((l0 ^^^ (-1 : Int32)) &&& (l0 - (1 : Int32))) &&& (32 : Int32)) M))
theorem t273_E {sl : Nat} {sx : Nat → Int32} {d : Nat} {M0 : MM} {P : Int32 → MM → Prop} (l0 : Int32) (M : MM) (hM : lenO M0 M) (h : w273  l0 M P) : R273 sl sx d M0 P 0 [some (vI l0), none] [] M := by
  refine RN_k (callX_det _) 10 _ _ _ _ (show (0 < ((l0 ^^^ (-1 : Int32)) &&& (l0 - (1 : Int32))) → R273 sl sx d M0 P 17 [some (vI ((l0 ^^^ (-1 : Int32)) &&& (l0 - (1 : Int32)))), none] [] M) ∧ (¬ (0 < ((l0 ^^^ (-1 : Int32)) &&& (l0 - (1 : Int32)))) → R273 sl sx d M0 P 12 [some (vI ((l0 ^^^ (-1 : Int32)) &&& (l0 - (1 : Int32)))), none] [] M) from ⟨fun hc => ?_, fun hc => ?_⟩)
  · replace h := h.1 hc
    refine RN_k (callX_det _) 5 _ _ _ _ (show (((l0 ^^^ (-1 : Int32)) &&& (l0 - (1 : Int32))) ≤ (65536 : Int32) → R273 sl sx d M0 P 34 [some (vI ((l0 ^^^ (-1 : Int32)) &&& (l0 - (1 : Int32)))), some (vI (1 : Int32))] [] M) ∧ (¬ (((l0 ^^^ (-1 : Int32)) &&& (l0 - (1 : Int32))) ≤ (65536 : Int32)) → R273 sl sx d M0 P 26 [some (vI ((l0 ^^^ (-1 : Int32)) &&& (l0 - (1 : Int32)))), some (vI (1 : Int32))] [] M) from ⟨fun hc => ?_, fun hc => ?_⟩)
    · replace h := h.1 hc
      exact RN_weak (K := [some (vI ((l0 ^^^ (-1 : Int32)) &&& (l0 - (1 : Int32)))), some (vI (1 : Int32))]) (callX_det _) (show _ ∧ _ ∧ True from ⟨rfl, rfl, trivial⟩) (t273_34  ((l0 ^^^ (-1 : Int32)) &&& (l0 - (1 : Int32))) (1 : Int32) _ hM h)
    · replace h := h.2 hc
      refine RN_k (callX_det _) 5 _ _ _ _ (show R273 sl sx d M0 P 34 [some (vI ((((l0 ^^^ (-1 : Int32)) &&& (l0 - (1 : Int32))).toUInt32 >>> ((16 : Int32).toUInt32 &&& Int32.toUInt32 31)).toInt32)), some (vI ((1 : Int32) + (16 : Int32)))] [] M from ?_)
      exact RN_weak (K := [some (vI ((((l0 ^^^ (-1 : Int32)) &&& (l0 - (1 : Int32))).toUInt32 >>> ((16 : Int32).toUInt32 &&& Int32.toUInt32 31)).toInt32)), some (vI ((1 : Int32) + (16 : Int32)))]) (callX_det _) (show _ ∧ _ ∧ True from ⟨rfl, rfl, trivial⟩) (t273_34  ((((l0 ^^^ (-1 : Int32)) &&& (l0 - (1 : Int32))).toUInt32 >>> ((16 : Int32).toUInt32 &&& Int32.toUInt32 31)).toInt32) ((1 : Int32) + (16 : Int32)) _ hM h)
  · replace h := h.2 hc
    exact RN_k (callX_det _) 4 _ _ _ _ (show rtW q273 M0 (PI P) (some (vI (((l0 ^^^ (-1 : Int32)) &&& (l0 - (1 : Int32))) &&& (32 : Int32)))) M from ⟨⟨_, rfl⟩, hM.1, hM.2, _, rfl, h⟩)
theorem c273 {sl : Nat} {sx : Nat → Int32} {d : Nat} {l0 : Int32} {M : MM} {P : Int32 → MM → Prop} (h : w273 l0 M P) : callX TBg sl sx (d + 1) 273 [vI l0] M (PI P) :=
  cX (d := d + 0) q273 (false, tb273) rfl rfl rfl (t273_E l0 M lenR h)
-- TwoLeashModel.groups(III)I
abbrev q270 : MQ7 := (4, 1, 6, 10, 0, 0, 1)
abbrev R270 (sl : Nat) (sx : Nat → Int32) (d : Nat) (M0 : MM) (P : Int32 → MM → Prop) : Nat → LL → List VV → MM → Prop := RN 10 false (mS M0).length (mT M0) 0 0 sl sx (callX TBg sl sx (d + 11)) (rtW q270 M0 (PI P)) (as2 tb270)
def w270_13 (l0 : Nat) (M : MM) (P : Int32 → MM → Prop) : Prop := kd M l0 10 ∧ w167 l0 (1 : Int32) M (fun r2 M1 => P r2 M1)
theorem t270_13 {sl : Nat} {sx : Nat → Int32} {d : Nat} {M0 : MM} {P : Int32 → MM → Prop} (l0 : Nat) (M : MM) (hM : lenO M0 M) (h : w270_13  l0 M P) : R270 sl sx d M0 P 13 [some (vR (some l0)), none, none, none, none, none] [] M := by
  refine RN_k (callX_det _) 3 _ _ _ _ (show kd M l0 10 ∧ callX TBg sl sx (d + 11) 167 [vR (some l0), vI (1 : Int32)] M (fun v M9 => R270 sl sx d M0 P 18 [some (vR (some l0)), none, none, none, none, none] (pushO v []) M9) from ⟨h.1, ?_⟩)
  replace h := h.2
  refine callX_mono (callX_len (d := (d + 11)) rfl rfl rfl (c167 (d := d + 10) h)) ?_
  clear h
  rintro v9 M1 ⟨hl, r2, rfl, h⟩
  replace hM := lenT hM hl
  show R270 sl sx d M0 P 18 [some (vR (some l0)), none, none, none, none, none] [vI r2] M1
  exact RN_k (callX_det _) 1 _ _ _ _ (show rtW q270 M0 (PI P) (some (vI r2)) M1 from ⟨⟨_, rfl⟩, hM.1, hM.2, _, rfl, h⟩)
def w270_95 (k65 : Nat → Int32 → Int32 → MM → Prop) (l0 : Nat) (l5 : Int32) (s0 : Int32) (s1 : Int32) (M : MM) (P : Int32 → MM → Prop) : Prop := k65 l0 (s0 + s1) (l5 + (1 : Int32)) M
theorem t270_95 {sl : Nat} {sx : Nat → Int32} {d : Nat} {M0 : MM} {P : Int32 → MM → Prop} {k65 : Nat → Int32 → Int32 → MM → Prop} (hk65 : ∀ (l0 : Nat) (l4 : Int32) (l5 : Int32) (M : MM), lenO M0 M → k65 l0 l4 l5 M → R270 sl sx d M0 P 65 [some (vR (some l0)), none, none, none, some (vI l4), some (vI l5)] [] M) (l0 : Nat) (l5 : Int32) (s0 : Int32) (s1 : Int32) (M : MM) (hM : lenO M0 M) (h : w270_95 k65 l0 l5 s0 s1 M P) : R270 sl sx d M0 P 95 [some (vR (some l0)), none, none, none, none, some (vI l5)] [vI s1, vI s0] M := by
  refine RN_k (callX_det _) 4 _ _ _ _ (show R270 sl sx d M0 P 65 [some (vR (some l0)), none, none, none, some (vI (s0 + s1)), some (vI (l5 + (1 : Int32)))] [] M from ?_)
  exact RN_weak (K := [some (vR (some l0)), none, none, none, some (vI (s0 + s1)), some (vI (l5 + (1 : Int32)))]) (callX_det _) (show _ ∧ _ ∧ _ ∧ True from ⟨rfl, rfl, rfl, trivial⟩) (hk65 l0 (s0 + s1) (l5 + (1 : Int32)) _ hM h)
def w270_65 : Nat → Nat → Int32 → Int32 → MM → (Int32 → MM → Prop) → Prop
  | 0 => fun _ _ _ _ _ => False
  | n + 1 => fun l0 l4 l5 M P => kd M l0 10 ∧ (((mI M l0 5) ≤ l5 → (kd M l0 10 ∧ w177 l0 l4 M (fun r2 M1 => P r2 M1))) ∧ (¬ ((mI M l0 5) ≤ l5) → (kd M l0 10 ∧ w271 l0 l5 M (fun r4 M3 => w273 r4 M3 (fun r6 M5 => (r6 ≠ l5 → (w270_95 (fun z0 z1 z2 z3 => w270_65  n z0 z1 z2 z3 P) l0 l5 l4 (0 : Int32) M5 P)) ∧ (¬ (r6 ≠ l5) → (w270_95 (fun z0 z1 z2 z3 => w270_65  n z0 z1 z2 z3 P) l0 l5 l4 (1 : Int32) M5 P)))))))
theorem t270_65 {sl : Nat} {sx : Nat → Int32} {d : Nat} {M0 : MM} {P : Int32 → MM → Prop} (n : Nat) : ∀ (l0 : Nat) (l4 : Int32) (l5 : Int32) (M : MM) (_ : lenO M0 M) (_ : w270_65  n l0 l4 l5 M P), R270 sl sx d M0 P 65 [some (vR (some l0)), none, none, none, some (vI l4), some (vI l5)] [] M := by
  induction n with
  | zero => intro l0 l4 l5 M hM h; cases h
  | succ n ih =>
    intro l0 l4 l5 M hM h
    refine RN_k (callX_det _) 3 _ _ _ _ (show kd M l0 10 ∧ R270 sl sx d M0 P 71 [some (vR (some l0)), none, none, none, some (vI l4), some (vI l5)] [vI (mI M l0 5), vI l5] M from ⟨h.1, ?_⟩)
    replace h := h.2
    refine RN_k (callX_det _) 1 _ _ _ _ (show ((mI M l0 5) ≤ l5 → R270 sl sx d M0 P 104 [some (vR (some l0)), none, none, none, some (vI l4), some (vI l5)] [] M) ∧ (¬ ((mI M l0 5) ≤ l5) → R270 sl sx d M0 P 74 [some (vR (some l0)), none, none, none, some (vI l4), some (vI l5)] [] M) from ⟨fun hc => ?_, fun hc => ?_⟩)
    · replace h := h.1 hc
      refine RN_k (callX_det _) 3 _ _ _ _ (show kd M l0 10 ∧ callX TBg sl sx (d + 11) 177 [vR (some l0), vI l4] M (fun v M9 => R270 sl sx d M0 P 110 [some (vR (some l0)), none, none, none, some (vI l4), some (vI l5)] (pushO v []) M9) from ⟨h.1, ?_⟩)
      replace h := h.2
      refine callX_mono (callX_len (d := (d + 11)) rfl rfl rfl (c177 (d := d + 10) h)) ?_
      clear h
      rintro v9 M1 ⟨hl, r2, rfl, h⟩
      replace hM := lenT hM hl
      show R270 sl sx d M0 P 110 [some (vR (some l0)), none, none, none, some (vI l4), some (vI l5)] [vI r2] M1
      exact RN_k (callX_det _) 1 _ _ _ _ (show rtW q270 M0 (PI P) (some (vI r2)) M1 from ⟨⟨_, rfl⟩, hM.1, hM.2, _, rfl, h⟩)
    · replace h := h.2 hc
      refine RN_k (callX_det _) 4 _ _ _ _ (show kd M l0 10 ∧ callX TBg sl sx (d + 11) 271 [vR (some l0), vI l5] M (fun v M9 => R270 sl sx d M0 P 82 [some (vR (some l0)), none, none, none, some (vI l4), some (vI l5)] (pushO v [vI l4]) M9) from ⟨h.1, ?_⟩)
      replace h := h.2
      refine callX_mono (callX_len (d := (d + 11)) rfl rfl rfl (c271 (d := d) h)) ?_
      clear h
      rintro v9 M3 ⟨hl, r4, rfl, h⟩
      replace hM := lenT hM hl
      show R270 sl sx d M0 P 82 [some (vR (some l0)), none, none, none, some (vI l4), some (vI l5)] [vI r4, vI l4] M3
      refine RN_k (callX_det _) 1 _ _ _ _ (show callX TBg sl sx (d + 11) 273 [vI r4] M3 (fun v M9 => R270 sl sx d M0 P 85 [some (vR (some l0)), none, none, none, some (vI l4), some (vI l5)] (pushO v [vI l4]) M9) from ?_)
      refine callX_mono (callX_len (d := (d + 11)) rfl rfl rfl (c273 (d := d + 10) h)) ?_
      clear h
      rintro v9 M5 ⟨hl, r6, rfl, h⟩
      replace hM := lenT hM hl
      show R270 sl sx d M0 P 85 [some (vR (some l0)), none, none, none, some (vI l4), some (vI l5)] [vI r6, vI l4] M5
      refine RN_k (callX_det _) 2 _ _ _ _ (show (r6 ≠ l5 → R270 sl sx d M0 P 94 [some (vR (some l0)), none, none, none, some (vI l4), some (vI l5)] [vI l4] M5) ∧ (¬ (r6 ≠ l5) → R270 sl sx d M0 P 90 [some (vR (some l0)), none, none, none, some (vI l4), some (vI l5)] [vI l4] M5) from ⟨fun hc => ?_, fun hc => ?_⟩)
      · replace h := h.1 hc
        refine RN_k (callX_det _) 1 _ _ _ _ (show R270 sl sx d M0 P 95 [some (vR (some l0)), none, none, none, some (vI l4), some (vI l5)] [vI (0 : Int32), vI l4] M5 from ?_)
        exact RN_weak (K := [some (vR (some l0)), none, none, none, none, some (vI l5)]) (callX_det _) (show _ ∧ _ ∧ True from ⟨rfl, rfl, trivial⟩) (t270_95 ih l0 l5 l4 (0 : Int32) _ hM h)
      · replace h := h.2 hc
        refine RN_k (callX_det _) 2 _ _ _ _ (show R270 sl sx d M0 P 95 [some (vR (some l0)), none, none, none, some (vI l4), some (vI l5)] [vI (1 : Int32), vI l4] M5 from ?_)
        exact RN_weak (K := [some (vR (some l0)), none, none, none, none, some (vI l5)]) (callX_det _) (show _ ∧ _ ∧ True from ⟨rfl, rfl, trivial⟩) (t270_95 ih l0 l5 l4 (1 : Int32) _ hM h)
def w270_38 (l0 : Nat) (l1 : Int32) (l2 : Int32) (l3 : Int32) (M : MM) (P : Int32 → MM → Prop) : Prop := kd M l0 10 ∧ w215 l0 l2 l3 M (fun M1 => (l1 = (-1 : Int32) → (∃ n2, w270_65  n2 l0 (0 : Int32) (0 : Int32) M1 P)) ∧ (¬ (l1 = (-1 : Int32)) → (kd M1 l0 10 ∧ w271 l0 l1 M1 (fun r3 M2 => kd M2 l0 10 ∧ w177 l0 r3 M2 (fun r5 M4 => P r5 M4)))))
theorem t270_38 {sl : Nat} {sx : Nat → Int32} {d : Nat} {M0 : MM} {P : Int32 → MM → Prop} (l0 : Nat) (l1 : Int32) (l2 : Int32) (l3 : Int32) (M : MM) (hM : lenO M0 M) (h : w270_38  l0 l1 l2 l3 M P) : R270 sl sx d M0 P 38 [some (vR (some l0)), some (vI l1), some (vI l2), some (vI l3), none, none] [] M := by
  refine RN_k (callX_det _) 4 _ _ _ _ (show kd M l0 10 ∧ callX TBg sl sx (d + 11) 215 [vR (some l0), vI l2, vI l3] M (fun v M9 => R270 sl sx d M0 P 44 [some (vR (some l0)), some (vI l1), some (vI l2), some (vI l3), none, none] (pushO v []) M9) from ⟨h.1, ?_⟩)
  replace h := h.2
  refine callX_mono (callX_len (d := (d + 11)) rfl rfl rfl (c215 (d := d + 10) h)) ?_
  clear h
  rintro v9 M1 ⟨hl, rfl, h⟩
  replace hM := lenT hM hl
  show R270 sl sx d M0 P 44 [some (vR (some l0)), some (vI l1), some (vI l2), some (vI l3), none, none] [] M1
  refine RN_k (callX_det _) 3 _ _ _ _ (show (l1 = (-1 : Int32) → R270 sl sx d M0 P 59 [some (vR (some l0)), some (vI l1), some (vI l2), some (vI l3), none, none] [] M1) ∧ (¬ (l1 = (-1 : Int32)) → R270 sl sx d M0 P 49 [some (vR (some l0)), some (vI l1), some (vI l2), some (vI l3), none, none] [] M1) from ⟨fun hc => ?_, fun hc => ?_⟩)
  · replace h := h.1 hc
    refine RN_k (callX_det _) 4 _ _ _ _ (show R270 sl sx d M0 P 65 [some (vR (some l0)), some (vI l1), some (vI l2), some (vI l3), some (vI (0 : Int32)), some (vI (0 : Int32))] [] M1 from ?_)
    obtain ⟨n2, h⟩ := h
    exact RN_weak (K := [some (vR (some l0)), none, none, none, some (vI (0 : Int32)), some (vI (0 : Int32))]) (callX_det _) (show _ ∧ _ ∧ _ ∧ True from ⟨rfl, rfl, rfl, trivial⟩) (t270_65  n2 l0 (0 : Int32) (0 : Int32) _ hM h)
  · replace h := h.2 hc
    refine RN_k (callX_det _) 4 _ _ _ _ (show kd M1 l0 10 ∧ callX TBg sl sx (d + 11) 271 [vR (some l0), vI l1] M1 (fun v M9 => R270 sl sx d M0 P 55 [some (vR (some l0)), some (vI l1), some (vI l2), some (vI l3), none, none] (pushO v [vR (some l0)]) M9) from ⟨h.1, ?_⟩)
    replace h := h.2
    refine callX_mono (callX_len (d := (d + 11)) rfl rfl rfl (c271 (d := d) h)) ?_
    clear h
    rintro v9 M2 ⟨hl, r3, rfl, h⟩
    replace hM := lenT hM hl
    show R270 sl sx d M0 P 55 [some (vR (some l0)), some (vI l1), some (vI l2), some (vI l3), none, none] [vI r3, vR (some l0)] M2
    refine RN_k (callX_det _) 1 _ _ _ _ (show kd M2 l0 10 ∧ callX TBg sl sx (d + 11) 177 [vR (some l0), vI r3] M2 (fun v M9 => R270 sl sx d M0 P 58 [some (vR (some l0)), some (vI l1), some (vI l2), some (vI l3), none, none] (pushO v []) M9) from ⟨h.1, ?_⟩)
    replace h := h.2
    refine callX_mono (callX_len (d := (d + 11)) rfl rfl rfl (c177 (d := d + 10) h)) ?_
    clear h
    rintro v9 M4 ⟨hl, r5, rfl, h⟩
    replace hM := lenT hM hl
    show R270 sl sx d M0 P 58 [some (vR (some l0)), some (vI l1), some (vI l2), some (vI l3), none, none] [vI r5] M4
    exact RN_k (callX_det _) 1 _ _ _ _ (show rtW q270 M0 (PI P) (some (vI r5)) M4 from ⟨⟨_, rfl⟩, hM.1, hM.2, _, rfl, h⟩)
def w270 (l0 : Nat) (l1 : Int32) (l2 : Int32) (l3 : Int32) (M : MM) (P : Int32 → MM → Prop) : Prop := w209 l2 l3 M (fun r2 M1 => (r2 = 0 → (w270_13  l0 M1 P)) ∧ (¬ (r2 = 0) → (((-1 : Int32) ≤ l1 → ((l1 = (-1 : Int32) → (w270_38  l0 l1 l2 l3 M1 P)) ∧ (¬ (l1 = (-1 : Int32)) → (kd M1 l0 10 ∧ w182 l0 l1 M1 (fun r4 M3 => (r4 ≠ 0 → (w270_38  l0 l1 l2 l3 M3 P)) ∧ (¬ (r4 ≠ 0) → (kd M3 l0 10 ∧ w167 l0 (2 : Int32) M3 (fun r6 M5 => P r6 M5)))))))) ∧ (¬ ((-1 : Int32) ≤ l1) → (w270_13  l0 M1 P)))))
theorem t270_E {sl : Nat} {sx : Nat → Int32} {d : Nat} {M0 : MM} {P : Int32 → MM → Prop} (l0 : Nat) (l1 : Int32) (l2 : Int32) (l3 : Int32) (M : MM) (hM : lenO M0 M) (h : w270  l0 l1 l2 l3 M P) : R270 sl sx d M0 P 0 [some (vR (some l0)), some (vI l1), some (vI l2), some (vI l3), none, none] [] M := by
  refine RN_k (callX_det _) 3 _ _ _ _ (show callX TBg sl sx (d + 11) 209 [vI l2, vI l3] M (fun v M9 => R270 sl sx d M0 P 5 [some (vR (some l0)), some (vI l1), some (vI l2), some (vI l3), none, none] (pushO v []) M9) from ?_)
  refine callX_mono (callX_len (d := (d + 11)) rfl rfl rfl (c209 (d := d + 9) h)) ?_
  clear h
  rintro v9 M1 ⟨hl, r2, rfl, h⟩
  replace hM := lenT hM hl
  show R270 sl sx d M0 P 5 [some (vR (some l0)), some (vI l1), some (vI l2), some (vI l3), none, none] [vI r2] M1
  refine RN_k (callX_det _) 1 _ _ _ _ (show (r2 = 0 → R270 sl sx d M0 P 13 [some (vR (some l0)), some (vI l1), some (vI l2), some (vI l3), none, none] [] M1) ∧ (¬ (r2 = 0) → R270 sl sx d M0 P 8 [some (vR (some l0)), some (vI l1), some (vI l2), some (vI l3), none, none] [] M1) from ⟨fun hc => ?_, fun hc => ?_⟩)
  · replace h := h.1 hc
    exact RN_weak (K := [some (vR (some l0)), none, none, none, none, none]) (callX_det _) (show _ ∧ True from ⟨rfl, trivial⟩) (t270_13  l0 _ hM h)
  · replace h := h.2 hc
    refine RN_k (callX_det _) 3 _ _ _ _ (show ((-1 : Int32) ≤ l1 → R270 sl sx d M0 P 19 [some (vR (some l0)), some (vI l1), some (vI l2), some (vI l3), none, none] [] M1) ∧ (¬ ((-1 : Int32) ≤ l1) → R270 sl sx d M0 P 13 [some (vR (some l0)), some (vI l1), some (vI l2), some (vI l3), none, none] [] M1) from ⟨fun hc => ?_, fun hc => ?_⟩)
    · replace h := h.1 hc
      refine RN_k (callX_det _) 3 _ _ _ _ (show (l1 = (-1 : Int32) → R270 sl sx d M0 P 38 [some (vR (some l0)), some (vI l1), some (vI l2), some (vI l3), none, none] [] M1) ∧ (¬ (l1 = (-1 : Int32)) → R270 sl sx d M0 P 24 [some (vR (some l0)), some (vI l1), some (vI l2), some (vI l3), none, none] [] M1) from ⟨fun hc => ?_, fun hc => ?_⟩)
      · replace h := h.1 hc
        exact RN_weak (K := [some (vR (some l0)), some (vI l1), some (vI l2), some (vI l3), none, none]) (callX_det _) (show _ ∧ _ ∧ _ ∧ _ ∧ True from ⟨rfl, rfl, rfl, rfl, trivial⟩) (t270_38  l0 l1 l2 l3 _ hM h)
      · replace h := h.2 hc
        refine RN_k (callX_det _) 3 _ _ _ _ (show kd M1 l0 10 ∧ callX TBg sl sx (d + 11) 182 [vR (some l0), vI l1] M1 (fun v M9 => R270 sl sx d M0 P 29 [some (vR (some l0)), some (vI l1), some (vI l2), some (vI l3), none, none] (pushO v []) M9) from ⟨h.1, ?_⟩)
        replace h := h.2
        refine callX_mono (callX_len (d := (d + 11)) rfl rfl rfl (c182 (d := d + 9) h)) ?_
        clear h
        rintro v9 M3 ⟨hl, r4, rfl, h⟩
        replace hM := lenT hM hl
        show R270 sl sx d M0 P 29 [some (vR (some l0)), some (vI l1), some (vI l2), some (vI l3), none, none] [vI r4] M3
        refine RN_k (callX_det _) 1 _ _ _ _ (show (r4 ≠ 0 → R270 sl sx d M0 P 38 [some (vR (some l0)), some (vI l1), some (vI l2), some (vI l3), none, none] [] M3) ∧ (¬ (r4 ≠ 0) → R270 sl sx d M0 P 32 [some (vR (some l0)), some (vI l1), some (vI l2), some (vI l3), none, none] [] M3) from ⟨fun hc => ?_, fun hc => ?_⟩)
        · replace h := h.1 hc
          exact RN_weak (K := [some (vR (some l0)), some (vI l1), some (vI l2), some (vI l3), none, none]) (callX_det _) (show _ ∧ _ ∧ _ ∧ _ ∧ True from ⟨rfl, rfl, rfl, rfl, trivial⟩) (t270_38  l0 l1 l2 l3 _ hM h)
        · replace h := h.2 hc
          refine RN_k (callX_det _) 3 _ _ _ _ (show kd M3 l0 10 ∧ callX TBg sl sx (d + 11) 167 [vR (some l0), vI (2 : Int32)] M3 (fun v M9 => R270 sl sx d M0 P 37 [some (vR (some l0)), some (vI l1), some (vI l2), some (vI l3), none, none] (pushO v []) M9) from ⟨h.1, ?_⟩)
          replace h := h.2
          refine callX_mono (callX_len (d := (d + 11)) rfl rfl rfl (c167 (d := d + 10) h)) ?_
          clear h
          rintro v9 M5 ⟨hl, r6, rfl, h⟩
          replace hM := lenT hM hl
          show R270 sl sx d M0 P 37 [some (vR (some l0)), some (vI l1), some (vI l2), some (vI l3), none, none] [vI r6] M5
          exact RN_k (callX_det _) 1 _ _ _ _ (show rtW q270 M0 (PI P) (some (vI r6)) M5 from ⟨⟨_, rfl⟩, hM.1, hM.2, _, rfl, h⟩)
    · replace h := h.2 hc
      exact RN_weak (K := [some (vR (some l0)), none, none, none, none, none]) (callX_det _) (show _ ∧ True from ⟨rfl, trivial⟩) (t270_13  l0 _ hM h)
theorem c270 {sl : Nat} {sx : Nat → Int32} {d : Nat} {l0 : Nat} {l1 : Int32} {l2 : Int32} {l3 : Int32} {M : MM} {P : Int32 → MM → Prop} (h : w270 l0 l1 l2 l3 M P) : callX TBg sl sx (d + 12) 270 [vR (some l0), vI l1, vI l2, vI l3] M (PI P) :=
  cX (d := d + 11) q270 (false, tb270) rfl rfl rfl (t270_E l0 l1 l2 l3 M lenR h)
-- TwoLeashModel.canLose(II)Z
abbrev q275 : MQ7 := (3, 1, 4, 10, 0, 0, 4)
abbrev R275 (sl : Nat) (sx : Nat → Int32) (d : Nat) (M0 : MM) (P : Int32 → MM → Prop) : Nat → LL → List VV → MM → Prop := RN 10 false (mS M0).length (mT M0) 0 0 sl sx (callX TBg sl sx (d + 2)) (rtW q275 M0 (PI P)) (as2 tb275)
def w275_65 (s0 : Int32) (M : MM) (P : Int32 → MM → Prop) : Prop := (s0 = 0 ∨ s0 = 1) ∧ P s0 M
theorem t275_65 {sl : Nat} {sx : Nat → Int32} {d : Nat} {M0 : MM} {P : Int32 → MM → Prop} (s0 : Int32) (M : MM) (hM : lenO M0 M) (h : w275_65  s0 M P) : R275 sl sx d M0 P 65 [none, none, none, none] [vI s0] M := by
  exact RN_k (callX_det _) 1 _ _ _ _ (show rtW q275 M0 (PI P) (some (vI s0)) M from ⟨⟨_, rfl, h.1⟩, hM.1, hM.2, _, rfl, h.2⟩)
def w275_64 (M : MM) (P : Int32 → MM → Prop) : Prop := w275_65  (0 : Int32) M P
theorem t275_64 {sl : Nat} {sx : Nat → Int32} {d : Nat} {M0 : MM} {P : Int32 → MM → Prop}  (M : MM) (hM : lenO M0 M) (h : w275_64   M P) : R275 sl sx d M0 P 64 [none, none, none, none] [] M := by
  refine RN_k (callX_det _) 1 _ _ _ _ (show R275 sl sx d M0 P 65 [none, none, none, none] [vI (0 : Int32)] M from ?_)
  exact RN_weak (K := [none, none, none, none]) (callX_det _) (show True from trivial) (t275_65  (0 : Int32) _ hM h)
def w275_60 (M : MM) (P : Int32 → MM → Prop) : Prop := w275_65  (1 : Int32) M P
theorem t275_60 {sl : Nat} {sx : Nat → Int32} {d : Nat} {M0 : MM} {P : Int32 → MM → Prop}  (M : MM) (hM : lenO M0 M) (h : w275_60   M P) : R275 sl sx d M0 P 60 [none, none, none, none] [] M := by
  refine RN_k (callX_det _) 2 _ _ _ _ (show R275 sl sx d M0 P 65 [none, none, none, none] [vI (1 : Int32)] M from ?_)
  exact RN_weak (K := [none, none, none, none]) (callX_det _) (show True from trivial) (t275_65  (1 : Int32) _ hM h)
def w275 (l0 : Nat) (l1 : Int32) (l2 : Int32) (M : MM) (P : Int32 → MM → Prop) : Prop := kd M l0 10 ∧ w180 l0 l1 M (fun r2 M1 => (r2 ≤ (2 : Int32) → (w275_64  M1 P)) ∧ (¬ (r2 ≤ (2 : Int32)) → ((l2 = 0 → (w275_60  M1 P)) ∧ (¬ (l2 = 0) → ((l2 = (r2 - (1 : Int32)) → (w275_60  M1 P)) ∧ (¬ (l2 = (r2 - (1 : Int32))) → (kd M1 l0 10 ∧ w184 l0 l1 (l2 - (1 : Int32)) M1 (fun r4 M3 => kd M3 l0 10 ∧ w184 l0 l1 (l2 + (1 : Int32)) M3 (fun r6 M5 => (r4 ≠ r6 → (w275_60  M5 P)) ∧ (¬ (r4 ≠ r6) → (kd M5 l0 10 ∧ w185 l0 l1 (l2 - (1 : Int32)) M5 (fun r8 M7 => kd M7 l0 10 ∧ w185 l0 l1 (l2 + (1 : Int32)) M7 (fun r10 M9 => (r8 = r10 → (w275_64  M9 P)) ∧ (¬ (r8 = r10) → (w275_60  M9 P)))))))))))))))
theorem t275_E {sl : Nat} {sx : Nat → Int32} {d : Nat} {M0 : MM} {P : Int32 → MM → Prop} (l0 : Nat) (l1 : Int32) (l2 : Int32) (M : MM) (hM : lenO M0 M) (h : w275  l0 l1 l2 M P) : R275 sl sx d M0 P 0 [some (vR (some l0)), some (vI l1), some (vI l2), none] [] M := by
  refine RN_k (callX_det _) 3 _ _ _ _ (show kd M l0 10 ∧ callX TBg sl sx (d + 2) 180 [vR (some l0), vI l1] M (fun v M9 => R275 sl sx d M0 P 5 [some (vR (some l0)), some (vI l1), some (vI l2), none] (pushO v []) M9) from ⟨h.1, ?_⟩)
  replace h := h.2
  refine callX_mono (callX_len (d := (d + 2)) rfl rfl rfl (c180 (d := d) h)) ?_
  clear h
  rintro v9 M1 ⟨hl, r2, rfl, h⟩
  replace hM := lenT hM hl
  show R275 sl sx d M0 P 5 [some (vR (some l0)), some (vI l1), some (vI l2), none] [vI r2] M1
  refine RN_k (callX_det _) 4 _ _ _ _ (show (r2 ≤ (2 : Int32) → R275 sl sx d M0 P 64 [some (vR (some l0)), some (vI l1), some (vI l2), some (vI r2)] [] M1) ∧ (¬ (r2 ≤ (2 : Int32)) → R275 sl sx d M0 P 11 [some (vR (some l0)), some (vI l1), some (vI l2), some (vI r2)] [] M1) from ⟨fun hc => ?_, fun hc => ?_⟩)
  · replace h := h.1 hc
    exact RN_weak (K := [none, none, none, none]) (callX_det _) (show True from trivial) (t275_64   _ hM h)
  · replace h := h.2 hc
    refine RN_k (callX_det _) 2 _ _ _ _ (show (l2 = 0 → R275 sl sx d M0 P 60 [some (vR (some l0)), some (vI l1), some (vI l2), some (vI r2)] [] M1) ∧ (¬ (l2 = 0) → R275 sl sx d M0 P 15 [some (vR (some l0)), some (vI l1), some (vI l2), some (vI r2)] [] M1) from ⟨fun hc => ?_, fun hc => ?_⟩)
    · replace h := h.1 hc
      exact RN_weak (K := [none, none, none, none]) (callX_det _) (show True from trivial) (t275_60   _ hM h)
    · replace h := h.2 hc
      refine RN_k (callX_det _) 5 _ _ _ _ (show (l2 = (r2 - (1 : Int32)) → R275 sl sx d M0 P 60 [some (vR (some l0)), some (vI l1), some (vI l2), some (vI r2)] [] M1) ∧ (¬ (l2 = (r2 - (1 : Int32))) → R275 sl sx d M0 P 22 [some (vR (some l0)), some (vI l1), some (vI l2), some (vI r2)] [] M1) from ⟨fun hc => ?_, fun hc => ?_⟩)
      · replace h := h.1 hc
        exact RN_weak (K := [none, none, none, none]) (callX_det _) (show True from trivial) (t275_60   _ hM h)
      · replace h := h.2 hc
        refine RN_k (callX_det _) 6 _ _ _ _ (show kd M1 l0 10 ∧ callX TBg sl sx (d + 2) 184 [vR (some l0), vI l1, vI (l2 - (1 : Int32))] M1 (fun v M9 => R275 sl sx d M0 P 30 [some (vR (some l0)), some (vI l1), some (vI l2), some (vI r2)] (pushO v []) M9) from ⟨h.1, ?_⟩)
        replace h := h.2
        refine callX_mono (callX_len (d := (d + 2)) rfl rfl rfl (c184 (d := d) h)) ?_
        clear h
        rintro v9 M3 ⟨hl, r4, rfl, h⟩
        replace hM := lenT hM hl
        show R275 sl sx d M0 P 30 [some (vR (some l0)), some (vI l1), some (vI l2), some (vI r2)] [vI r4] M3
        refine RN_k (callX_det _) 6 _ _ _ _ (show kd M3 l0 10 ∧ callX TBg sl sx (d + 2) 184 [vR (some l0), vI l1, vI (l2 + (1 : Int32))] M3 (fun v M9 => R275 sl sx d M0 P 38 [some (vR (some l0)), some (vI l1), some (vI l2), some (vI r2)] (pushO v [vI r4]) M9) from ⟨h.1, ?_⟩)
        replace h := h.2
        refine callX_mono (callX_len (d := (d + 2)) rfl rfl rfl (c184 (d := d) h)) ?_
        clear h
        rintro v9 M5 ⟨hl, r6, rfl, h⟩
        replace hM := lenT hM hl
        show R275 sl sx d M0 P 38 [some (vR (some l0)), some (vI l1), some (vI l2), some (vI r2)] [vI r6, vI r4] M5
        refine RN_k (callX_det _) 1 _ _ _ _ (show (r4 ≠ r6 → R275 sl sx d M0 P 60 [some (vR (some l0)), some (vI l1), some (vI l2), some (vI r2)] [] M5) ∧ (¬ (r4 ≠ r6) → R275 sl sx d M0 P 41 [some (vR (some l0)), some (vI l1), some (vI l2), some (vI r2)] [] M5) from ⟨fun hc => ?_, fun hc => ?_⟩)
        · replace h := h.1 hc
          exact RN_weak (K := [none, none, none, none]) (callX_det _) (show True from trivial) (t275_60   _ hM h)
        · replace h := h.2 hc
          refine RN_k (callX_det _) 6 _ _ _ _ (show kd M5 l0 10 ∧ callX TBg sl sx (d + 2) 185 [vR (some l0), vI l1, vI (l2 - (1 : Int32))] M5 (fun v M9 => R275 sl sx d M0 P 49 [some (vR (some l0)), some (vI l1), some (vI l2), some (vI r2)] (pushO v []) M9) from ⟨h.1, ?_⟩)
          replace h := h.2
          refine callX_mono (callX_len (d := (d + 2)) rfl rfl rfl (c185 (d := d) h)) ?_
          clear h
          rintro v9 M7 ⟨hl, r8, rfl, h⟩
          replace hM := lenT hM hl
          show R275 sl sx d M0 P 49 [some (vR (some l0)), some (vI l1), some (vI l2), some (vI r2)] [vI r8] M7
          refine RN_k (callX_det _) 6 _ _ _ _ (show kd M7 l0 10 ∧ callX TBg sl sx (d + 2) 185 [vR (some l0), vI l1, vI (l2 + (1 : Int32))] M7 (fun v M9 => R275 sl sx d M0 P 57 [some (vR (some l0)), some (vI l1), some (vI l2), some (vI r2)] (pushO v [vI r8]) M9) from ⟨h.1, ?_⟩)
          replace h := h.2
          refine callX_mono (callX_len (d := (d + 2)) rfl rfl rfl (c185 (d := d) h)) ?_
          clear h
          rintro v9 M9 ⟨hl, r10, rfl, h⟩
          replace hM := lenT hM hl
          show R275 sl sx d M0 P 57 [some (vR (some l0)), some (vI l1), some (vI l2), some (vI r2)] [vI r10, vI r8] M9
          refine RN_k (callX_det _) 1 _ _ _ _ (show (r8 = r10 → R275 sl sx d M0 P 64 [some (vR (some l0)), some (vI l1), some (vI l2), some (vI r2)] [] M9) ∧ (¬ (r8 = r10) → R275 sl sx d M0 P 60 [some (vR (some l0)), some (vI l1), some (vI l2), some (vI r2)] [] M9) from ⟨fun hc => ?_, fun hc => ?_⟩)
          · replace h := h.1 hc
            exact RN_weak (K := [none, none, none, none]) (callX_det _) (show True from trivial) (t275_64   _ hM h)
          · replace h := h.2 hc
            exact RN_weak (K := [none, none, none, none]) (callX_det _) (show True from trivial) (t275_60   _ hM h)
theorem c275 {sl : Nat} {sx : Nat → Int32} {d : Nat} {l0 : Nat} {l1 : Int32} {l2 : Int32} {M : MM} {P : Int32 → MM → Prop} (h : w275 l0 l1 l2 M P) : callX TBg sl sx (d + 3) 275 [vR (some l0), vI l1, vI l2] M (PI P) :=
  cX (d := d + 2) q275 (false, tb275) rfl rfl rfl (t275_E l0 l1 l2 M lenR h)
-- TwoLeashModel.without(III)Z
abbrev q274 : MQ7 := (4, 1, 5, 10, 0, 0, 4)
abbrev R274 (sl : Nat) (sx : Nat → Int32) (d : Nat) (M0 : MM) (P : Int32 → MM → Prop) : Nat → LL → List VV → MM → Prop := RN 10 false (mS M0).length (mT M0) 0 0 sl sx (callX TBg sl sx (d + 105)) (rtW q274 M0 (PI P)) (as2 tb274)
def w274_17 (l0 : Nat) (M : MM) (P : Int32 → MM → Prop) : Prop := kd M l0 10 ∧ w190 l0 (2 : Int32) M (fun r2 M1 => (r2 = 0 ∨ r2 = 1) ∧ P r2 M1)
theorem t274_17 {sl : Nat} {sx : Nat → Int32} {d : Nat} {M0 : MM} {P : Int32 → MM → Prop} (l0 : Nat) (M : MM) (hM : lenO M0 M) (h : w274_17  l0 M P) : R274 sl sx d M0 P 17 [some (vR (some l0)), none, none, none, none] [] M := by
  refine RN_k (callX_det _) 3 _ _ _ _ (show kd M l0 10 ∧ callX TBg sl sx (d + 105) 190 [vR (some l0), vI (2 : Int32)] M (fun v M9 => R274 sl sx d M0 P 22 [some (vR (some l0)), none, none, none, none] (pushO v []) M9) from ⟨h.1, ?_⟩)
  replace h := h.2
  refine callX_mono (callX_len (d := (d + 105)) rfl rfl rfl (c190 (d := d + 104) h)) ?_
  clear h
  rintro v9 M1 ⟨hl, r2, rfl, h⟩
  replace hM := lenT hM hl
  show R274 sl sx d M0 P 22 [some (vR (some l0)), none, none, none, none] [vI r2] M1
  exact RN_k (callX_det _) 1 _ _ _ _ (show rtW q274 M0 (PI P) (some (vI r2)) M1 from ⟨⟨_, rfl, h.1⟩, hM.1, hM.2, _, rfl, h.2⟩)
def w274_101 (k58 : Nat → Int32 → MM → Prop) (l0 : Nat) (l4 : Int32) (M : MM) (P : Int32 → MM → Prop) : Prop := k58 l0 (l4 + (1 : Int32)) M
theorem t274_101 {sl : Nat} {sx : Nat → Int32} {d : Nat} {M0 : MM} {P : Int32 → MM → Prop} {k58 : Nat → Int32 → MM → Prop} (hk58 : ∀ (l0 : Nat) (l4 : Int32) (M : MM), lenO M0 M → k58 l0 l4 M → R274 sl sx d M0 P 58 [some (vR (some l0)), none, none, none, some (vI l4)] [] M) (l0 : Nat) (l4 : Int32) (M : MM) (hM : lenO M0 M) (h : w274_101 k58 l0 l4 M P) : R274 sl sx d M0 P 101 [some (vR (some l0)), none, none, none, some (vI l4)] [] M := by
  refine RN_k (callX_det _) 2 _ _ _ _ (show R274 sl sx d M0 P 58 [some (vR (some l0)), none, none, none, some (vI (l4 + (1 : Int32)))] [] M from ?_)
  exact RN_weak (K := [some (vR (some l0)), none, none, none, some (vI (l4 + (1 : Int32)))]) (callX_det _) (show _ ∧ _ ∧ True from ⟨rfl, rfl, trivial⟩) (hk58 l0 (l4 + (1 : Int32)) _ hM h)
def w274_58 : Nat → Nat → Int32 → MM → (Int32 → MM → Prop) → Prop
  | 0 => fun _ _ _ _ => False
  | n + 1 => fun l0 l4 M P => kd M l0 10 ∧ (((mI M l0 27) ≤ (l4 + (1 : Int32)) → (kd M l0 10 ∧ (kd M l0 10 ∧ (kd (sI M l0 27 ((mI M l0 27) - (1 : Int32))) l0 10 ∧ w245 l0 (0 : Int32) (sI M l0 27 ((mI M l0 27) - (1 : Int32))) (fun M1 => kd M1 l0 10 ∧ (kd M1 l0 10 ∧ (kd M1 l0 10 ∧ w194 l0 (mL M1 l0 52) (mL M1 l0 53) M1 (fun r3 M2 => (r3 = 0 ∨ r3 = 1) ∧ P r3 M2)))))))) ∧ (¬ ((mI M l0 27) ≤ (l4 + (1 : Int32))) → (kd M l0 10 ∧ (kd M l0 10 ∧ (∃ a4, mR M l0 23 = some a4 ∧ (inb M a4 11 (l4 + (1 : Int32)) ∧ (inb M a4 11 l4 ∧ (kd (sI M a4 l4.toNatClampNeg (mI M a4 (l4 + (1 : Int32)).toNatClampNeg)) l0 10 ∧ (kd (sI M a4 l4.toNatClampNeg (mI M a4 (l4 + (1 : Int32)).toNatClampNeg)) l0 10 ∧ (∃ a5, mR (sI M a4 l4.toNatClampNeg (mI M a4 (l4 + (1 : Int32)).toNatClampNeg)) l0 24 = some a5 ∧ (inb (sI M a4 l4.toNatClampNeg (mI M a4 (l4 + (1 : Int32)).toNatClampNeg)) a5 11 (l4 + (1 : Int32)) ∧ (inb (sI M a4 l4.toNatClampNeg (mI M a4 (l4 + (1 : Int32)).toNatClampNeg)) a5 11 l4 ∧ (w274_101 (fun z0 z1 z2 => w274_58  n z0 z1 z2 P) l0 l4 (sI (sI M a4 l4.toNatClampNeg (mI M a4 (l4 + (1 : Int32)).toNatClampNeg)) a5 l4.toNatClampNeg (mI (sI M a4 l4.toNatClampNeg (mI M a4 (l4 + (1 : Int32)).toNatClampNeg)) a5 (l4 + (1 : Int32)).toNatClampNeg)) P)))))))))))))
theorem t274_58 {sl : Nat} {sx : Nat → Int32} {d : Nat} {M0 : MM} {P : Int32 → MM → Prop} (n : Nat) : ∀ (l0 : Nat) (l4 : Int32) (M : MM) (_ : lenO M0 M) (_ : w274_58  n l0 l4 M P), R274 sl sx d M0 P 58 [some (vR (some l0)), none, none, none, some (vI l4)] [] M := by
  induction n with
  | zero => intro l0 l4 M hM h; cases h
  | succ n ih =>
    intro l0 l4 M hM h
    refine RN_k (callX_det _) 5 _ _ _ _ (show kd M l0 10 ∧ R274 sl sx d M0 P 66 [some (vR (some l0)), none, none, none, some (vI l4)] [vI (mI M l0 27), vI (l4 + (1 : Int32))] M from ⟨h.1, ?_⟩)
    replace h := h.2
    refine RN_k (callX_det _) 1 _ _ _ _ (show ((mI M l0 27) ≤ (l4 + (1 : Int32)) → R274 sl sx d M0 P 107 [some (vR (some l0)), none, none, none, some (vI l4)] [] M) ∧ (¬ ((mI M l0 27) ≤ (l4 + (1 : Int32))) → R274 sl sx d M0 P 69 [some (vR (some l0)), none, none, none, some (vI l4)] [] M) from ⟨fun hc => ?_, fun hc => ?_⟩)
    · replace h := h.1 hc
      refine RN_k (callX_det _) 3 _ _ _ _ (show kd M l0 10 ∧ R274 sl sx d M0 P 112 [some (vR (some l0)), none, none, none, some (vI l4)] [vI (mI M l0 27), vR (some l0)] M from ⟨h.1, ?_⟩)
      replace h := h.2
      refine RN_k (callX_det _) 3 _ _ _ _ (show kd M l0 10 ∧ R274 sl sx d M0 P 117 [some (vR (some l0)), none, none, none, some (vI l4)] [] (sI M l0 27 ((mI M l0 27) - (1 : Int32))) from ⟨h.1, ?_⟩)
      replace h := h.2
      refine RN_k (callX_det _) 3 _ _ _ _ (show kd (sI M l0 27 ((mI M l0 27) - (1 : Int32))) l0 10 ∧ callX TBg sl sx (d + 105) 245 [vR (some l0), vI (0 : Int32)] (sI M l0 27 ((mI M l0 27) - (1 : Int32))) (fun v M9 => R274 sl sx d M0 P 122 [some (vR (some l0)), none, none, none, some (vI l4)] (pushO v []) M9) from ⟨h.1, ?_⟩)
      replace h := h.2
      refine callX_mono (callX_len (d := (d + 105)) rfl rfl rfl (c245 (d := d) h)) ?_
      clear h
      rintro v9 M1 ⟨hl, rfl, h⟩
      replace hM := lenT hM hl
      show R274 sl sx d M0 P 122 [some (vR (some l0)), none, none, none, some (vI l4)] [] M1
      refine RN_k (callX_det _) 3 _ _ _ _ (show kd M1 l0 10 ∧ R274 sl sx d M0 P 127 [some (vR (some l0)), none, none, none, some (vI l4)] [vL (mL M1 l0 52), vR (some l0)] M1 from ⟨h.1, ?_⟩)
      replace h := h.2
      refine RN_k (callX_det _) 2 _ _ _ _ (show kd M1 l0 10 ∧ R274 sl sx d M0 P 131 [some (vR (some l0)), none, none, none, some (vI l4)] [vL (mL M1 l0 53), vL (mL M1 l0 52), vR (some l0)] M1 from ⟨h.1, ?_⟩)
      replace h := h.2
      refine RN_k (callX_det _) 1 _ _ _ _ (show kd M1 l0 10 ∧ callX TBg sl sx (d + 105) 194 [vR (some l0), vL (mL M1 l0 52), vL (mL M1 l0 53)] M1 (fun v M9 => R274 sl sx d M0 P 134 [some (vR (some l0)), none, none, none, some (vI l4)] (pushO v []) M9) from ⟨h.1, ?_⟩)
      replace h := h.2
      refine callX_mono (callX_len (d := (d + 105)) rfl rfl rfl (c194 (d := d + 3) h)) ?_
      clear h
      rintro v9 M2 ⟨hl, r3, rfl, h⟩
      replace hM := lenT hM hl
      show R274 sl sx d M0 P 134 [some (vR (some l0)), none, none, none, some (vI l4)] [vI r3] M2
      exact RN_k (callX_det _) 1 _ _ _ _ (show rtW q274 M0 (PI P) (some (vI r3)) M2 from ⟨⟨_, rfl, h.1⟩, hM.1, hM.2, _, rfl, h.2⟩)
    · replace h := h.2 hc
      refine RN_k (callX_det _) 2 _ _ _ _ (show kd M l0 10 ∧ R274 sl sx d M0 P 73 [some (vR (some l0)), none, none, none, some (vI l4)] [vR (mR M l0 23)] M from ⟨h.1, ?_⟩)
      replace h := h.2
      refine RN_k (callX_det _) 3 _ _ _ _ (show kd M l0 10 ∧ R274 sl sx d M0 P 79 [some (vR (some l0)), none, none, none, some (vI l4)] [vR (mR M l0 23), vI l4, vR (mR M l0 23)] M from ⟨h.1, ?_⟩)
      replace h := h.2
      obtain ⟨a4, he, h⟩ := h
      refine RN_k (callX_det _) 3 _ _ _ _ (show R274 sl sx d M0 P 83 [some (vR (some l0)), none, none, none, some (vI l4)] [vI (l4 + (1 : Int32)), vR (mR M l0 23), vI l4, vR (mR M l0 23)] M from ?_)
      rw [he]
      refine RN_k (callX_det _) 1 _ _ _ _ (show inb M a4 11 (l4 + (1 : Int32)) ∧ R274 sl sx d M0 P 84 [some (vR (some l0)), none, none, none, some (vI l4)] [vI (mI M a4 (l4 + (1 : Int32)).toNatClampNeg), vI l4, vR (some a4)] M from ⟨h.1, ?_⟩)
      replace h := h.2
      refine RN_k (callX_det _) 1 _ _ _ _ (show inb M a4 11 l4 ∧ R274 sl sx d M0 P 85 [some (vR (some l0)), none, none, none, some (vI l4)] [] (sI M a4 l4.toNatClampNeg (mI M a4 (l4 + (1 : Int32)).toNatClampNeg)) from ⟨h.1, ?_⟩)
      replace h := h.2
      refine RN_k (callX_det _) 2 _ _ _ _ (show kd (sI M a4 l4.toNatClampNeg (mI M a4 (l4 + (1 : Int32)).toNatClampNeg)) l0 10 ∧ R274 sl sx d M0 P 89 [some (vR (some l0)), none, none, none, some (vI l4)] [vR (mR (sI M a4 l4.toNatClampNeg (mI M a4 (l4 + (1 : Int32)).toNatClampNeg)) l0 24)] (sI M a4 l4.toNatClampNeg (mI M a4 (l4 + (1 : Int32)).toNatClampNeg)) from ⟨h.1, ?_⟩)
      replace h := h.2
      refine RN_k (callX_det _) 3 _ _ _ _ (show kd (sI M a4 l4.toNatClampNeg (mI M a4 (l4 + (1 : Int32)).toNatClampNeg)) l0 10 ∧ R274 sl sx d M0 P 95 [some (vR (some l0)), none, none, none, some (vI l4)] [vR (mR (sI M a4 l4.toNatClampNeg (mI M a4 (l4 + (1 : Int32)).toNatClampNeg)) l0 24), vI l4, vR (mR (sI M a4 l4.toNatClampNeg (mI M a4 (l4 + (1 : Int32)).toNatClampNeg)) l0 24)] (sI M a4 l4.toNatClampNeg (mI M a4 (l4 + (1 : Int32)).toNatClampNeg)) from ⟨h.1, ?_⟩)
      replace h := h.2
      obtain ⟨a5, he, h⟩ := h
      refine RN_k (callX_det _) 3 _ _ _ _ (show R274 sl sx d M0 P 99 [some (vR (some l0)), none, none, none, some (vI l4)] [vI (l4 + (1 : Int32)), vR (mR (sI M a4 l4.toNatClampNeg (mI M a4 (l4 + (1 : Int32)).toNatClampNeg)) l0 24), vI l4, vR (mR (sI M a4 l4.toNatClampNeg (mI M a4 (l4 + (1 : Int32)).toNatClampNeg)) l0 24)] (sI M a4 l4.toNatClampNeg (mI M a4 (l4 + (1 : Int32)).toNatClampNeg)) from ?_)
      rw [he]
      refine RN_k (callX_det _) 1 _ _ _ _ (show inb (sI M a4 l4.toNatClampNeg (mI M a4 (l4 + (1 : Int32)).toNatClampNeg)) a5 11 (l4 + (1 : Int32)) ∧ R274 sl sx d M0 P 100 [some (vR (some l0)), none, none, none, some (vI l4)] [vI (mI (sI M a4 l4.toNatClampNeg (mI M a4 (l4 + (1 : Int32)).toNatClampNeg)) a5 (l4 + (1 : Int32)).toNatClampNeg), vI l4, vR (some a5)] (sI M a4 l4.toNatClampNeg (mI M a4 (l4 + (1 : Int32)).toNatClampNeg)) from ⟨h.1, ?_⟩)
      replace h := h.2
      refine RN_k (callX_det _) 1 _ _ _ _ (show inb (sI M a4 l4.toNatClampNeg (mI M a4 (l4 + (1 : Int32)).toNatClampNeg)) a5 11 l4 ∧ R274 sl sx d M0 P 101 [some (vR (some l0)), none, none, none, some (vI l4)] [] (sI (sI M a4 l4.toNatClampNeg (mI M a4 (l4 + (1 : Int32)).toNatClampNeg)) a5 l4.toNatClampNeg (mI (sI M a4 l4.toNatClampNeg (mI M a4 (l4 + (1 : Int32)).toNatClampNeg)) a5 (l4 + (1 : Int32)).toNatClampNeg)) from ⟨h.1, ?_⟩)
      replace h := h.2
      exact RN_weak (K := [some (vR (some l0)), none, none, none, some (vI l4)]) (callX_det _) (show _ ∧ _ ∧ True from ⟨rfl, rfl, trivial⟩) (t274_101 ih l0 l4 _ hM h)
def w274 (l0 : Nat) (l1 : Int32) (l2 : Int32) (l3 : Int32) (M : MM) (P : Int32 → MM → Prop) : Prop := kd M l0 10 ∧ w183 l0 l1 l2 M (fun r2 M1 => (r2 = 0 → (w274_17  l0 M1 P)) ∧ (¬ (r2 = 0) → (kd M1 l0 10 ∧ w182 l0 l3 M1 (fun r4 M3 => (r4 ≠ 0 → ((l1 ≠ l3 → (kd M3 l0 10 ∧ w275 l0 l1 l2 M3 (fun r6 M5 => (r6 ≠ 0 → (kd M5 l0 10 ∧ w211 l0 l1 l3 M5 (fun M7 => ∃ n2, w274_58  n2 l0 l2 M7 P))) ∧ (¬ (r6 ≠ 0) → (kd M5 l0 10 ∧ w190 l0 (5 : Int32) M5 (fun r9 M8 => (r9 = 0 ∨ r9 = 1) ∧ P r9 M8)))))) ∧ (¬ (l1 ≠ l3) → (kd M3 l0 10 ∧ w190 l0 (4 : Int32) M3 (fun r11 M10 => (r11 = 0 ∨ r11 = 1) ∧ P r11 M10))))) ∧ (¬ (r4 ≠ 0) → (w274_17  l0 M3 P))))))
theorem t274_E {sl : Nat} {sx : Nat → Int32} {d : Nat} {M0 : MM} {P : Int32 → MM → Prop} (l0 : Nat) (l1 : Int32) (l2 : Int32) (l3 : Int32) (M : MM) (hM : lenO M0 M) (h : w274  l0 l1 l2 l3 M P) : R274 sl sx d M0 P 0 [some (vR (some l0)), some (vI l1), some (vI l2), some (vI l3), none] [] M := by
  refine RN_k (callX_det _) 4 _ _ _ _ (show kd M l0 10 ∧ callX TBg sl sx (d + 105) 183 [vR (some l0), vI l1, vI l2] M (fun v M9 => R274 sl sx d M0 P 6 [some (vR (some l0)), some (vI l1), some (vI l2), some (vI l3), none] (pushO v []) M9) from ⟨h.1, ?_⟩)
  replace h := h.2
  refine callX_mono (callX_len (d := (d + 105)) rfl rfl rfl (c183 (d := d + 102) h)) ?_
  clear h
  rintro v9 M1 ⟨hl, r2, rfl, h⟩
  replace hM := lenT hM hl
  show R274 sl sx d M0 P 6 [some (vR (some l0)), some (vI l1), some (vI l2), some (vI l3), none] [vI r2] M1
  refine RN_k (callX_det _) 1 _ _ _ _ (show (r2 = 0 → R274 sl sx d M0 P 17 [some (vR (some l0)), some (vI l1), some (vI l2), some (vI l3), none] [] M1) ∧ (¬ (r2 = 0) → R274 sl sx d M0 P 9 [some (vR (some l0)), some (vI l1), some (vI l2), some (vI l3), none] [] M1) from ⟨fun hc => ?_, fun hc => ?_⟩)
  · replace h := h.1 hc
    exact RN_weak (K := [some (vR (some l0)), none, none, none, none]) (callX_det _) (show _ ∧ True from ⟨rfl, trivial⟩) (t274_17  l0 _ hM h)
  · replace h := h.2 hc
    refine RN_k (callX_det _) 3 _ _ _ _ (show kd M1 l0 10 ∧ callX TBg sl sx (d + 105) 182 [vR (some l0), vI l3] M1 (fun v M9 => R274 sl sx d M0 P 14 [some (vR (some l0)), some (vI l1), some (vI l2), some (vI l3), none] (pushO v []) M9) from ⟨h.1, ?_⟩)
    replace h := h.2
    refine callX_mono (callX_len (d := (d + 105)) rfl rfl rfl (c182 (d := d + 103) h)) ?_
    clear h
    rintro v9 M3 ⟨hl, r4, rfl, h⟩
    replace hM := lenT hM hl
    show R274 sl sx d M0 P 14 [some (vR (some l0)), some (vI l1), some (vI l2), some (vI l3), none] [vI r4] M3
    refine RN_k (callX_det _) 1 _ _ _ _ (show (r4 ≠ 0 → R274 sl sx d M0 P 23 [some (vR (some l0)), some (vI l1), some (vI l2), some (vI l3), none] [] M3) ∧ (¬ (r4 ≠ 0) → R274 sl sx d M0 P 17 [some (vR (some l0)), some (vI l1), some (vI l2), some (vI l3), none] [] M3) from ⟨fun hc => ?_, fun hc => ?_⟩)
    · replace h := h.1 hc
      refine RN_k (callX_det _) 3 _ _ _ _ (show (l1 ≠ l3 → R274 sl sx d M0 P 34 [some (vR (some l0)), some (vI l1), some (vI l2), some (vI l3), none] [] M3) ∧ (¬ (l1 ≠ l3) → R274 sl sx d M0 P 28 [some (vR (some l0)), some (vI l1), some (vI l2), some (vI l3), none] [] M3) from ⟨fun hc => ?_, fun hc => ?_⟩)
      · replace h := h.1 hc
        refine RN_k (callX_det _) 4 _ _ _ _ (show kd M3 l0 10 ∧ callX TBg sl sx (d + 105) 275 [vR (some l0), vI l1, vI l2] M3 (fun v M9 => R274 sl sx d M0 P 40 [some (vR (some l0)), some (vI l1), some (vI l2), some (vI l3), none] (pushO v []) M9) from ⟨h.1, ?_⟩)
        replace h := h.2
        refine callX_mono (callX_len (d := (d + 105)) rfl rfl rfl (c275 (d := d + 102) h)) ?_
        clear h
        rintro v9 M5 ⟨hl, r6, rfl, h⟩
        replace hM := lenT hM hl
        show R274 sl sx d M0 P 40 [some (vR (some l0)), some (vI l1), some (vI l2), some (vI l3), none] [vI r6] M5
        refine RN_k (callX_det _) 1 _ _ _ _ (show (r6 ≠ 0 → R274 sl sx d M0 P 49 [some (vR (some l0)), some (vI l1), some (vI l2), some (vI l3), none] [] M5) ∧ (¬ (r6 ≠ 0) → R274 sl sx d M0 P 43 [some (vR (some l0)), some (vI l1), some (vI l2), some (vI l3), none] [] M5) from ⟨fun hc => ?_, fun hc => ?_⟩)
        · replace h := h.1 hc
          refine RN_k (callX_det _) 4 _ _ _ _ (show kd M5 l0 10 ∧ callX TBg sl sx (d + 105) 211 [vR (some l0), vI l1, vI l3] M5 (fun v M9 => R274 sl sx d M0 P 55 [some (vR (some l0)), some (vI l1), some (vI l2), some (vI l3), none] (pushO v []) M9) from ⟨h.1, ?_⟩)
          replace h := h.2
          refine callX_mono (callX_len (d := (d + 105)) rfl rfl rfl (c211 (d := d + 100) h)) ?_
          clear h
          rintro v9 M7 ⟨hl, rfl, h⟩
          replace hM := lenT hM hl
          show R274 sl sx d M0 P 55 [some (vR (some l0)), some (vI l1), some (vI l2), some (vI l3), none] [] M7
          refine RN_k (callX_det _) 2 _ _ _ _ (show R274 sl sx d M0 P 58 [some (vR (some l0)), some (vI l1), some (vI l2), some (vI l3), some (vI l2)] [] M7 from ?_)
          obtain ⟨n2, h⟩ := h
          exact RN_weak (K := [some (vR (some l0)), none, none, none, some (vI l2)]) (callX_det _) (show _ ∧ _ ∧ True from ⟨rfl, rfl, trivial⟩) (t274_58  n2 l0 l2 _ hM h)
        · replace h := h.2 hc
          refine RN_k (callX_det _) 3 _ _ _ _ (show kd M5 l0 10 ∧ callX TBg sl sx (d + 105) 190 [vR (some l0), vI (5 : Int32)] M5 (fun v M9 => R274 sl sx d M0 P 48 [some (vR (some l0)), some (vI l1), some (vI l2), some (vI l3), none] (pushO v []) M9) from ⟨h.1, ?_⟩)
          replace h := h.2
          refine callX_mono (callX_len (d := (d + 105)) rfl rfl rfl (c190 (d := d + 104) h)) ?_
          clear h
          rintro v9 M8 ⟨hl, r9, rfl, h⟩
          replace hM := lenT hM hl
          show R274 sl sx d M0 P 48 [some (vR (some l0)), some (vI l1), some (vI l2), some (vI l3), none] [vI r9] M8
          exact RN_k (callX_det _) 1 _ _ _ _ (show rtW q274 M0 (PI P) (some (vI r9)) M8 from ⟨⟨_, rfl, h.1⟩, hM.1, hM.2, _, rfl, h.2⟩)
      · replace h := h.2 hc
        refine RN_k (callX_det _) 3 _ _ _ _ (show kd M3 l0 10 ∧ callX TBg sl sx (d + 105) 190 [vR (some l0), vI (4 : Int32)] M3 (fun v M9 => R274 sl sx d M0 P 33 [some (vR (some l0)), some (vI l1), some (vI l2), some (vI l3), none] (pushO v []) M9) from ⟨h.1, ?_⟩)
        replace h := h.2
        refine callX_mono (callX_len (d := (d + 105)) rfl rfl rfl (c190 (d := d + 104) h)) ?_
        clear h
        rintro v9 M10 ⟨hl, r11, rfl, h⟩
        replace hM := lenT hM hl
        show R274 sl sx d M0 P 33 [some (vR (some l0)), some (vI l1), some (vI l2), some (vI l3), none] [vI r11] M10
        exact RN_k (callX_det _) 1 _ _ _ _ (show rtW q274 M0 (PI P) (some (vI r11)) M10 from ⟨⟨_, rfl, h.1⟩, hM.1, hM.2, _, rfl, h.2⟩)
    · replace h := h.2 hc
      exact RN_weak (K := [some (vR (some l0)), none, none, none, none]) (callX_det _) (show _ ∧ True from ⟨rfl, trivial⟩) (t274_17  l0 _ hM h)
theorem c274 {sl : Nat} {sx : Nat → Int32} {d : Nat} {l0 : Nat} {l1 : Int32} {l2 : Int32} {l3 : Int32} {M : MM} {P : Int32 → MM → Prop} (h : w274 l0 l1 l2 l3 M P) : callX TBg sl sx (d + 106) 274 [vR (some l0), vI l1, vI l2, vI l3] M (PI P) :=
  cX (d := d + 105) q274 (false, tb274) rfl rfl rfl (t274_E l0 l1 l2 l3 M lenR h)
-- TwoLeashModel.turned(III)Z
abbrev q276 : MQ7 := (4, 1, 6, 10, 0, 0, 4)
abbrev R276 (sl : Nat) (sx : Nat → Int32) (d : Nat) (M0 : MM) (P : Int32 → MM → Prop) : Nat → LL → List VV → MM → Prop := RN 10 false (mS M0).length (mT M0) 0 0 sl sx (callX TBg sl sx (d + 105)) (rtW q276 M0 (PI P)) (as2 tb276)
def w276_60 : Nat → Nat → Int32 → Int32 → Int32 → MM → (Int32 → MM → Prop) → Prop
  | 0 => fun _ _ _ _ _ _ => False
  | n + 1 => fun l0 l2 l3 l5 M P => (l5 < 0 → (kd M l0 10 ∧ w245 l0 l3 M (fun M1 => kd M1 l0 10 ∧ (kd M1 l0 10 ∧ (kd M1 l0 10 ∧ w194 l0 (mL M1 l0 52) (mL M1 l0 53) M1 (fun r3 M2 => (r3 = 0 ∨ r3 = 1) ∧ P r3 M2)))))) ∧ (¬ (l5 < 0) → (kd M l0 10 ∧ w214 l0 l2 l5 M (fun M4 => w276_60  n l0 l2 l3 (l5 + (-1 : Int32)) M4 P)))
theorem t276_60 {sl : Nat} {sx : Nat → Int32} {d : Nat} {M0 : MM} {P : Int32 → MM → Prop} (n : Nat) : ∀ (l0 : Nat) (l2 : Int32) (l3 : Int32) (l5 : Int32) (M : MM) (_ : lenO M0 M) (_ : w276_60  n l0 l2 l3 l5 M P), R276 sl sx d M0 P 60 [some (vR (some l0)), none, some (vI l2), some (vI l3), none, some (vI l5)] [] M := by
  induction n with
  | zero => intro l0 l2 l3 l5 M hM h; cases h
  | succ n ih =>
    intro l0 l2 l3 l5 M hM h
    refine RN_k (callX_det _) 2 _ _ _ _ (show (l5 < 0 → R276 sl sx d M0 P 78 [some (vR (some l0)), none, some (vI l2), some (vI l3), none, some (vI l5)] [] M) ∧ (¬ (l5 < 0) → R276 sl sx d M0 P 65 [some (vR (some l0)), none, some (vI l2), some (vI l3), none, some (vI l5)] [] M) from ⟨fun hc => ?_, fun hc => ?_⟩)
    · replace h := h.1 hc
      refine RN_k (callX_det _) 3 _ _ _ _ (show kd M l0 10 ∧ callX TBg sl sx (d + 105) 245 [vR (some l0), vI l3] M (fun v M9 => R276 sl sx d M0 P 83 [some (vR (some l0)), none, some (vI l2), some (vI l3), none, some (vI l5)] (pushO v []) M9) from ⟨h.1, ?_⟩)
      replace h := h.2
      refine callX_mono (callX_len (d := (d + 105)) rfl rfl rfl (c245 (d := d) h)) ?_
      clear h
      rintro v9 M1 ⟨hl, rfl, h⟩
      replace hM := lenT hM hl
      show R276 sl sx d M0 P 83 [some (vR (some l0)), none, some (vI l2), some (vI l3), none, some (vI l5)] [] M1
      refine RN_k (callX_det _) 3 _ _ _ _ (show kd M1 l0 10 ∧ R276 sl sx d M0 P 88 [some (vR (some l0)), none, some (vI l2), some (vI l3), none, some (vI l5)] [vL (mL M1 l0 52), vR (some l0)] M1 from ⟨h.1, ?_⟩)
      replace h := h.2
      refine RN_k (callX_det _) 2 _ _ _ _ (show kd M1 l0 10 ∧ R276 sl sx d M0 P 92 [some (vR (some l0)), none, some (vI l2), some (vI l3), none, some (vI l5)] [vL (mL M1 l0 53), vL (mL M1 l0 52), vR (some l0)] M1 from ⟨h.1, ?_⟩)
      replace h := h.2
      refine RN_k (callX_det _) 1 _ _ _ _ (show kd M1 l0 10 ∧ callX TBg sl sx (d + 105) 194 [vR (some l0), vL (mL M1 l0 52), vL (mL M1 l0 53)] M1 (fun v M9 => R276 sl sx d M0 P 95 [some (vR (some l0)), none, some (vI l2), some (vI l3), none, some (vI l5)] (pushO v []) M9) from ⟨h.1, ?_⟩)
      replace h := h.2
      refine callX_mono (callX_len (d := (d + 105)) rfl rfl rfl (c194 (d := d + 3) h)) ?_
      clear h
      rintro v9 M2 ⟨hl, r3, rfl, h⟩
      replace hM := lenT hM hl
      show R276 sl sx d M0 P 95 [some (vR (some l0)), none, some (vI l2), some (vI l3), none, some (vI l5)] [vI r3] M2
      exact RN_k (callX_det _) 1 _ _ _ _ (show rtW q276 M0 (PI P) (some (vI r3)) M2 from ⟨⟨_, rfl, h.1⟩, hM.1, hM.2, _, rfl, h.2⟩)
    · replace h := h.2 hc
      refine RN_k (callX_det _) 4 _ _ _ _ (show kd M l0 10 ∧ callX TBg sl sx (d + 105) 214 [vR (some l0), vI l2, vI l5] M (fun v M9 => R276 sl sx d M0 P 72 [some (vR (some l0)), none, some (vI l2), some (vI l3), none, some (vI l5)] (pushO v []) M9) from ⟨h.1, ?_⟩)
      replace h := h.2
      refine callX_mono (callX_len (d := (d + 105)) rfl rfl rfl (c214 (d := d + 102) h)) ?_
      clear h
      rintro v9 M4 ⟨hl, rfl, h⟩
      replace hM := lenT hM hl
      show R276 sl sx d M0 P 72 [some (vR (some l0)), none, some (vI l2), some (vI l3), none, some (vI l5)] [] M4
      refine RN_k (callX_det _) 2 _ _ _ _ (show R276 sl sx d M0 P 60 [some (vR (some l0)), none, some (vI l2), some (vI l3), none, some (vI (l5 + (-1 : Int32)))] [] M4 from ?_)
      exact RN_weak (K := [some (vR (some l0)), none, some (vI l2), some (vI l3), none, some (vI (l5 + (-1 : Int32)))]) (callX_det _) (show _ ∧ _ ∧ _ ∧ _ ∧ True from ⟨rfl, rfl, rfl, rfl, trivial⟩) (ih l0 l2 l3 (l5 + (-1 : Int32)) _ hM h)
def w276_19 (l0 : Nat) (l1 : Int32) (l2 : Int32) (l3 : Int32) (s0 : Int32) (M : MM) (P : Int32 → MM → Prop) : Prop := (s0 ≤ 0 → (kd M l0 10 ∧ w180 l0 l1 M (fun r2 M1 => kd M1 l0 10 ∧ w212 l0 l1 (0 : Int32) (r2 - (1 : Int32)) M1 (fun M3 => kd M3 l0 10 ∧ (kd (sI M3 l0 28 (0 : Int32)) l0 10 ∧ w180 l0 l2 (sI M3 l0 28 (0 : Int32)) (fun r5 M4 => ∃ n2, w276_60  n2 l0 l2 l3 (r5 - (1 : Int32)) M4 P)))))) ∧ (¬ (s0 ≤ 0) → (kd M l0 10 ∧ w190 l0 s0 M (fun r7 M6 => (r7 = 0 ∨ r7 = 1) ∧ P r7 M6)))
theorem t276_19 {sl : Nat} {sx : Nat → Int32} {d : Nat} {M0 : MM} {P : Int32 → MM → Prop} (l0 : Nat) (l1 : Int32) (l2 : Int32) (l3 : Int32) (s0 : Int32) (M : MM) (hM : lenO M0 M) (h : w276_19  l0 l1 l2 l3 s0 M P) : R276 sl sx d M0 P 19 [some (vR (some l0)), some (vI l1), some (vI l2), some (vI l3), none, none] [vI s0] M := by
  refine RN_k (callX_det _) 3 _ _ _ _ (show (s0 ≤ 0 → R276 sl sx d M0 P 33 [some (vR (some l0)), some (vI l1), some (vI l2), some (vI l3), some (vI s0), none] [] M) ∧ (¬ (s0 ≤ 0) → R276 sl sx d M0 P 26 [some (vR (some l0)), some (vI l1), some (vI l2), some (vI l3), some (vI s0), none] [] M) from ⟨fun hc => ?_, fun hc => ?_⟩)
  · replace h := h.1 hc
    refine RN_k (callX_det _) 6 _ _ _ _ (show kd M l0 10 ∧ callX TBg sl sx (d + 105) 180 [vR (some l0), vI l1] M (fun v M9 => R276 sl sx d M0 P 41 [some (vR (some l0)), some (vI l1), some (vI l2), some (vI l3), some (vI s0), none] (pushO v [vI (0 : Int32), vI l1, vR (some l0)]) M9) from ⟨h.1, ?_⟩)
    replace h := h.2
    refine callX_mono (callX_len (d := (d + 105)) rfl rfl rfl (c180 (d := d + 103) h)) ?_
    clear h
    rintro v9 M1 ⟨hl, r2, rfl, h⟩
    replace hM := lenT hM hl
    show R276 sl sx d M0 P 41 [some (vR (some l0)), some (vI l1), some (vI l2), some (vI l3), some (vI s0), none] [vI r2, vI (0 : Int32), vI l1, vR (some l0)] M1
    refine RN_k (callX_det _) 3 _ _ _ _ (show kd M1 l0 10 ∧ callX TBg sl sx (d + 105) 212 [vR (some l0), vI l1, vI (0 : Int32), vI (r2 - (1 : Int32))] M1 (fun v M9 => R276 sl sx d M0 P 46 [some (vR (some l0)), some (vI l1), some (vI l2), some (vI l3), some (vI s0), none] (pushO v []) M9) from ⟨h.1, ?_⟩)
    replace h := h.2
    refine callX_mono (callX_len (d := (d + 105)) rfl rfl rfl (c212 (d := d + 102) h)) ?_
    clear h
    rintro v9 M3 ⟨hl, rfl, h⟩
    replace hM := lenT hM hl
    show R276 sl sx d M0 P 46 [some (vR (some l0)), some (vI l1), some (vI l2), some (vI l3), some (vI s0), none] [] M3
    refine RN_k (callX_det _) 3 _ _ _ _ (show kd M3 l0 10 ∧ R276 sl sx d M0 P 51 [some (vR (some l0)), some (vI l1), some (vI l2), some (vI l3), some (vI s0), none] [] (sI M3 l0 28 (0 : Int32)) from ⟨h.1, ?_⟩)
    replace h := h.2
    refine RN_k (callX_det _) 3 _ _ _ _ (show kd (sI M3 l0 28 (0 : Int32)) l0 10 ∧ callX TBg sl sx (d + 105) 180 [vR (some l0), vI l2] (sI M3 l0 28 (0 : Int32)) (fun v M9 => R276 sl sx d M0 P 56 [some (vR (some l0)), some (vI l1), some (vI l2), some (vI l3), some (vI s0), none] (pushO v []) M9) from ⟨h.1, ?_⟩)
    replace h := h.2
    refine callX_mono (callX_len (d := (d + 105)) rfl rfl rfl (c180 (d := d + 103) h)) ?_
    clear h
    rintro v9 M4 ⟨hl, r5, rfl, h⟩
    replace hM := lenT hM hl
    show R276 sl sx d M0 P 56 [some (vR (some l0)), some (vI l1), some (vI l2), some (vI l3), some (vI s0), none] [vI r5] M4
    refine RN_k (callX_det _) 3 _ _ _ _ (show R276 sl sx d M0 P 60 [some (vR (some l0)), some (vI l1), some (vI l2), some (vI l3), some (vI s0), some (vI (r5 - (1 : Int32)))] [] M4 from ?_)
    obtain ⟨n2, h⟩ := h
    exact RN_weak (K := [some (vR (some l0)), none, some (vI l2), some (vI l3), none, some (vI (r5 - (1 : Int32)))]) (callX_det _) (show _ ∧ _ ∧ _ ∧ _ ∧ True from ⟨rfl, rfl, rfl, rfl, trivial⟩) (t276_60  n2 l0 l2 l3 (r5 - (1 : Int32)) _ hM h)
  · replace h := h.2 hc
    refine RN_k (callX_det _) 3 _ _ _ _ (show kd M l0 10 ∧ callX TBg sl sx (d + 105) 190 [vR (some l0), vI s0] M (fun v M9 => R276 sl sx d M0 P 32 [some (vR (some l0)), some (vI l1), some (vI l2), some (vI l3), some (vI s0), none] (pushO v []) M9) from ⟨h.1, ?_⟩)
    replace h := h.2
    refine callX_mono (callX_len (d := (d + 105)) rfl rfl rfl (c190 (d := d + 104) h)) ?_
    clear h
    rintro v9 M6 ⟨hl, r7, rfl, h⟩
    replace hM := lenT hM hl
    show R276 sl sx d M0 P 32 [some (vR (some l0)), some (vI l1), some (vI l2), some (vI l3), some (vI s0), none] [vI r7] M6
    exact RN_k (callX_det _) 1 _ _ _ _ (show rtW q276 M0 (PI P) (some (vI r7)) M6 from ⟨⟨_, rfl, h.1⟩, hM.1, hM.2, _, rfl, h.2⟩)
def w276 (l0 : Nat) (l1 : Int32) (l2 : Int32) (l3 : Int32) (M : MM) (P : Int32 → MM → Prop) : Prop := w166 l3 (0 : Int32) (2 : Int32) M (fun r2 M1 => (r2 ≠ 0 → (kd M1 l0 10 ∧ w202 l0 l1 l2 M1 (fun r4 M3 => w276_19  l0 l1 l2 l3 r4 M3 P))) ∧ (¬ (r2 ≠ 0) → (w276_19  l0 l1 l2 l3 (1 : Int32) M1 P)))
theorem t276_E {sl : Nat} {sx : Nat → Int32} {d : Nat} {M0 : MM} {P : Int32 → MM → Prop} (l0 : Nat) (l1 : Int32) (l2 : Int32) (l3 : Int32) (M : MM) (hM : lenO M0 M) (h : w276  l0 l1 l2 l3 M P) : R276 sl sx d M0 P 0 [some (vR (some l0)), some (vI l1), some (vI l2), some (vI l3), none, none] [] M := by
  refine RN_k (callX_det _) 4 _ _ _ _ (show callX TBg sl sx (d + 105) 166 [vI l3, vI (0 : Int32), vI (2 : Int32)] M (fun v M9 => R276 sl sx d M0 P 6 [some (vR (some l0)), some (vI l1), some (vI l2), some (vI l3), none, none] (pushO v []) M9) from ?_)
  refine callX_mono (callX_len (d := (d + 105)) rfl rfl rfl (c166 (d := d + 104) h)) ?_
  clear h
  rintro v9 M1 ⟨hl, r2, rfl, h⟩
  replace hM := lenT hM hl
  show R276 sl sx d M0 P 6 [some (vR (some l0)), some (vI l1), some (vI l2), some (vI l3), none, none] [vI r2] M1
  refine RN_k (callX_det _) 1 _ _ _ _ (show (r2 ≠ 0 → R276 sl sx d M0 P 13 [some (vR (some l0)), some (vI l1), some (vI l2), some (vI l3), none, none] [] M1) ∧ (¬ (r2 ≠ 0) → R276 sl sx d M0 P 9 [some (vR (some l0)), some (vI l1), some (vI l2), some (vI l3), none, none] [] M1) from ⟨fun hc => ?_, fun hc => ?_⟩)
  · replace h := h.1 hc
    refine RN_k (callX_det _) 4 _ _ _ _ (show kd M1 l0 10 ∧ callX TBg sl sx (d + 105) 202 [vR (some l0), vI l1, vI l2] M1 (fun v M9 => R276 sl sx d M0 P 19 [some (vR (some l0)), some (vI l1), some (vI l2), some (vI l3), none, none] (pushO v []) M9) from ⟨h.1, ?_⟩)
    replace h := h.2
    refine callX_mono (callX_len (d := (d + 105)) rfl rfl rfl (c202 (d := d + 102) h)) ?_
    clear h
    rintro v9 M3 ⟨hl, r4, rfl, h⟩
    replace hM := lenT hM hl
    show R276 sl sx d M0 P 19 [some (vR (some l0)), some (vI l1), some (vI l2), some (vI l3), none, none] [vI r4] M3
    exact RN_weak (K := [some (vR (some l0)), some (vI l1), some (vI l2), some (vI l3), none, none]) (callX_det _) (show _ ∧ _ ∧ _ ∧ _ ∧ True from ⟨rfl, rfl, rfl, rfl, trivial⟩) (t276_19  l0 l1 l2 l3 r4 _ hM h)
  · replace h := h.2 hc
    refine RN_k (callX_det _) 2 _ _ _ _ (show R276 sl sx d M0 P 19 [some (vR (some l0)), some (vI l1), some (vI l2), some (vI l3), none, none] [vI (1 : Int32)] M1 from ?_)
    exact RN_weak (K := [some (vR (some l0)), some (vI l1), some (vI l2), some (vI l3), none, none]) (callX_det _) (show _ ∧ _ ∧ _ ∧ _ ∧ True from ⟨rfl, rfl, rfl, rfl, trivial⟩) (t276_19  l0 l1 l2 l3 (1 : Int32) _ hM h)
theorem c276 {sl : Nat} {sx : Nat → Int32} {d : Nat} {l0 : Nat} {l1 : Int32} {l2 : Int32} {l3 : Int32} {M : MM} {P : Int32 → MM → Prop} (h : w276 l0 l1 l2 l3 M P) : callX TBg sl sx (d + 106) 276 [vR (some l0), vI l1, vI l2, vI l3] M (PI P) :=
  cX (d := d + 105) q276 (false, tb276) rfl rfl rfl (t276_E l0 l1 l2 l3 M lenR h)
-- TwoLeashModel.puts(I)V
abbrev q279 : MQ7 := (2, 1, 2, 10, 0, 0, 0)
abbrev R279 (sl : Nat) (sx : Nat → Int32) (d : Nat) (M0 : MM) (P : MM → Prop) : Nat → LL → List VV → MM → Prop := RN 10 false (mS M0).length (mT M0) 0 0 sl sx (callX TBg sl sx (d + 0)) (rtW q279 M0 (PV P)) (as2 tb279)
def w279_21 (M : MM) (P : MM → Prop) : Prop := P M
theorem t279_21 {sl : Nat} {sx : Nat → Int32} {d : Nat} {M0 : MM} {P : MM → Prop}  (M : MM) (hM : lenO M0 M) (h : w279_21   M P) : R279 sl sx d M0 P 21 [none, none] [] M := by
  exact RN_k (callX_det _) 1 _ _ _ _ (show rtW q279 M0 (PV P) none M from ⟨rfl, hM.1, hM.2, rfl, h⟩)
def w279 (l0 : Nat) (l1 : Int32) (M : MM) (P : MM → Prop) : Prop := kd M l0 10 ∧ (kd M l0 10 ∧ (∃ a1, mR M l0 68 = some a1 ∧ (inb M a1 13 (mI M l0 69) ∧ (kd (sI M a1 (mI M l0 69).toNatClampNeg l1.toInt8.toInt32.toInt8.toInt32) l0 10 ∧ (kd (sI M a1 (mI M l0 69).toNatClampNeg l1.toInt8.toInt32.toInt8.toInt32) l0 10 ∧ (w279_21  (sI (sI M a1 (mI M l0 69).toNatClampNeg l1.toInt8.toInt32.toInt8.toInt32) l0 69 ((mI (sI M a1 (mI M l0 69).toNatClampNeg l1.toInt8.toInt32.toInt8.toInt32) l0 69) + (1 : Int32))) P))))))
theorem t279_E {sl : Nat} {sx : Nat → Int32} {d : Nat} {M0 : MM} {P : MM → Prop} (l0 : Nat) (l1 : Int32) (M : MM) (hM : lenO M0 M) (h : w279  l0 l1 M P) : R279 sl sx d M0 P 0 [some (vR (some l0)), some (vI l1)] [] M := by
  refine RN_k (callX_det _) 2 _ _ _ _ (show kd M l0 10 ∧ R279 sl sx d M0 P 4 [some (vR (some l0)), some (vI l1)] [vR (mR M l0 68)] M from ⟨h.1, ?_⟩)
  replace h := h.2
  refine RN_k (callX_det _) 2 _ _ _ _ (show kd M l0 10 ∧ R279 sl sx d M0 P 8 [some (vR (some l0)), some (vI l1)] [vI (mI M l0 69), vR (mR M l0 68)] M from ⟨h.1, ?_⟩)
  replace h := h.2
  obtain ⟨a1, he, h⟩ := h
  refine RN_k (callX_det _) 2 _ _ _ _ (show R279 sl sx d M0 P 10 [some (vR (some l0)), some (vI l1)] [vI l1.toInt8.toInt32, vI (mI M l0 69), vR (mR M l0 68)] M from ?_)
  rw [he]
  refine RN_k (callX_det _) 1 _ _ _ _ (show inb M a1 13 (mI M l0 69) ∧ R279 sl sx d M0 P 11 [some (vR (some l0)), some (vI l1)] [] (sI M a1 (mI M l0 69).toNatClampNeg l1.toInt8.toInt32.toInt8.toInt32) from ⟨h.1, ?_⟩)
  replace h := h.2
  refine RN_k (callX_det _) 3 _ _ _ _ (show kd (sI M a1 (mI M l0 69).toNatClampNeg l1.toInt8.toInt32.toInt8.toInt32) l0 10 ∧ R279 sl sx d M0 P 16 [some (vR (some l0)), some (vI l1)] [vI (mI (sI M a1 (mI M l0 69).toNatClampNeg l1.toInt8.toInt32.toInt8.toInt32) l0 69), vR (some l0)] (sI M a1 (mI M l0 69).toNatClampNeg l1.toInt8.toInt32.toInt8.toInt32) from ⟨h.1, ?_⟩)
  replace h := h.2
  refine RN_k (callX_det _) 3 _ _ _ _ (show kd (sI M a1 (mI M l0 69).toNatClampNeg l1.toInt8.toInt32.toInt8.toInt32) l0 10 ∧ R279 sl sx d M0 P 21 [some (vR (some l0)), some (vI l1)] [] (sI (sI M a1 (mI M l0 69).toNatClampNeg l1.toInt8.toInt32.toInt8.toInt32) l0 69 ((mI (sI M a1 (mI M l0 69).toNatClampNeg l1.toInt8.toInt32.toInt8.toInt32) l0 69) + (1 : Int32))) from ⟨h.1, ?_⟩)
  replace h := h.2
  exact RN_weak (K := [none, none]) (callX_det _) (show True from trivial) (t279_21   _ hM h)
theorem c279 {sl : Nat} {sx : Nat → Int32} {d : Nat} {l0 : Nat} {l1 : Int32} {M : MM} {P : MM → Prop} (h : w279 l0 l1 M P) : callX TBg sl sx (d + 1) 279 [vR (some l0), vI l1] M (PV P) :=
  cX (d := d + 0) q279 (false, tb279) rfl rfl rfl (t279_E l0 l1 M lenR h)
-- TwoLeashModel.putsWord(J)V
abbrev q278 : MQ7 := (2, 1, 4, 10, 0, 0, 0)
abbrev R278 (sl : Nat) (sx : Nat → Int32) (d : Nat) (M0 : MM) (P : MM → Prop) : Nat → LL → List VV → MM → Prop := RN 10 false (mS M0).length (mT M0) 0 0 sl sx (callX TBg sl sx (d + 1)) (rtW q278 M0 (PV P)) (as2 tb278)
def w278_34 (k3 : Nat → Int64 → Int32 → MM → Prop) (l0 : Nat) (l1 : Int64) (l3 : Int32) (M : MM) (P : MM → Prop) : Prop := k3 l0 l1 (l3 + (-5 : Int32)) M
theorem t278_34 {sl : Nat} {sx : Nat → Int32} {d : Nat} {M0 : MM} {P : MM → Prop} {k3 : Nat → Int64 → Int32 → MM → Prop} (hk3 : ∀ (l0 : Nat) (l1 : Int64) (l3 : Int32) (M : MM), lenO M0 M → k3 l0 l1 l3 M → R278 sl sx d M0 P 3 [some (vR (some l0)), some (vL l1), none, some (vI l3)] [] M) (l0 : Nat) (l1 : Int64) (l3 : Int32) (M : MM) (hM : lenO M0 M) (h : w278_34 k3 l0 l1 l3 M P) : R278 sl sx d M0 P 34 [some (vR (some l0)), some (vL l1), none, some (vI l3)] [] M := by
  refine RN_k (callX_det _) 2 _ _ _ _ (show R278 sl sx d M0 P 3 [some (vR (some l0)), some (vL l1), none, some (vI (l3 + (-5 : Int32)))] [] M from ?_)
  exact RN_weak (K := [some (vR (some l0)), some (vL l1), none, some (vI (l3 + (-5 : Int32)))]) (callX_det _) (show _ ∧ _ ∧ _ ∧ True from ⟨rfl, rfl, rfl, trivial⟩) (hk3 l0 l1 (l3 + (-5 : Int32)) _ hM h)
def w278_3 : Nat → Nat → Int64 → Int32 → MM → (MM → Prop) → Prop
  | 0 => fun _ _ _ _ _ => False
  | n + 1 => fun l0 l1 l3 M P => (l3 < 0 → (P M)) ∧ (¬ (l3 < 0) → (((lg_cmp ((l1 >>> (l3.toInt64 &&& 63)) &&& (31 : Int64)) (0 : Int64)) = 0 → (w278_34 (fun z0 z1 z2 z3 => w278_3  n z0 z1 z2 z3 P) l0 l1 l3 M P)) ∧ (¬ ((lg_cmp ((l1 >>> (l3.toInt64 &&& 63)) &&& (31 : Int64)) (0 : Int64)) = 0) → (kd M l0 10 ∧ w279 l0 ((((l1 >>> (l3.toInt64 &&& 63)) &&& (31 : Int64)).toInt32) + (96 : Int32)) M (fun M1 => w278_34 (fun z0 z1 z2 z3 => w278_3  n z0 z1 z2 z3 P) l0 l1 l3 M1 P)))))
theorem t278_3 {sl : Nat} {sx : Nat → Int32} {d : Nat} {M0 : MM} {P : MM → Prop} (n : Nat) : ∀ (l0 : Nat) (l1 : Int64) (l3 : Int32) (M : MM) (_ : lenO M0 M) (_ : w278_3  n l0 l1 l3 M P), R278 sl sx d M0 P 3 [some (vR (some l0)), some (vL l1), none, some (vI l3)] [] M := by
  induction n with
  | zero => intro l0 l1 l3 M hM h; cases h
  | succ n ih =>
    intro l0 l1 l3 M hM h
    refine RN_k (callX_det _) 2 _ _ _ _ (show (l3 < 0 → R278 sl sx d M0 P 40 [some (vR (some l0)), some (vL l1), none, some (vI l3)] [] M) ∧ (¬ (l3 < 0) → R278 sl sx d M0 P 7 [some (vR (some l0)), some (vL l1), none, some (vI l3)] [] M) from ⟨fun hc => ?_, fun hc => ?_⟩)
    · replace h := h.1 hc
      exact RN_k (callX_det _) 1 _ _ _ _ (show rtW q278 M0 (PV P) none M from ⟨rfl, hM.1, hM.2, rfl, h⟩)
    · replace h := h.2 hc
      refine RN_k (callX_det _) 8 _ _ _ _ (show ((lg_cmp ((l1 >>> (l3.toInt64 &&& 63)) &&& (31 : Int64)) (0 : Int64)) = 0 → R278 sl sx d M0 P 34 [some (vR (some l0)), some (vL l1), none, some (vI l3)] [] M) ∧ (¬ ((lg_cmp ((l1 >>> (l3.toInt64 &&& 63)) &&& (31 : Int64)) (0 : Int64)) = 0) → R278 sl sx d M0 P 19 [some (vR (some l0)), some (vL l1), none, some (vI l3)] [] M) from ⟨fun hc => ?_, fun hc => ?_⟩)
      · replace h := h.1 hc
        exact RN_weak (K := [some (vR (some l0)), some (vL l1), none, some (vI l3)]) (callX_det _) (show _ ∧ _ ∧ _ ∧ True from ⟨rfl, rfl, rfl, trivial⟩) (t278_34 ih l0 l1 l3 _ hM h)
      · replace h := h.2 hc
        refine RN_k (callX_det _) 10 _ _ _ _ (show kd M l0 10 ∧ callX TBg sl sx (d + 1) 279 [vR (some l0), vI ((((l1 >>> (l3.toInt64 &&& 63)) &&& (31 : Int64)).toInt32) + (96 : Int32))] M (fun v M9 => R278 sl sx d M0 P 34 [some (vR (some l0)), some (vL l1), none, some (vI l3)] (pushO v []) M9) from ⟨h.1, ?_⟩)
        replace h := h.2
        refine callX_mono (callX_len (d := (d + 1)) rfl rfl rfl (c279 (d := d) h)) ?_
        clear h
        rintro v9 M1 ⟨hl, rfl, h⟩
        replace hM := lenT hM hl
        show R278 sl sx d M0 P 34 [some (vR (some l0)), some (vL l1), none, some (vI l3)] [] M1
        exact RN_weak (K := [some (vR (some l0)), some (vL l1), none, some (vI l3)]) (callX_det _) (show _ ∧ _ ∧ _ ∧ True from ⟨rfl, rfl, rfl, trivial⟩) (t278_34 ih l0 l1 l3 _ hM h)
def w278 (l0 : Nat) (l1 : Int64) (M : MM) (P : MM → Prop) : Prop := ∃ n2, w278_3  n2 l0 l1 (40 : Int32) M P
theorem t278_E {sl : Nat} {sx : Nat → Int32} {d : Nat} {M0 : MM} {P : MM → Prop} (l0 : Nat) (l1 : Int64) (M : MM) (hM : lenO M0 M) (h : w278  l0 l1 M P) : R278 sl sx d M0 P 0 [some (vR (some l0)), some (vL l1), none, none] [] M := by
  refine RN_k (callX_det _) 2 _ _ _ _ (show R278 sl sx d M0 P 3 [some (vR (some l0)), some (vL l1), none, some (vI (40 : Int32))] [] M from ?_)
  obtain ⟨n2, h⟩ := h
  exact RN_weak (K := [some (vR (some l0)), some (vL l1), none, some (vI (40 : Int32))]) (callX_det _) (show _ ∧ _ ∧ _ ∧ True from ⟨rfl, rfl, rfl, trivial⟩) (t278_3  n2 l0 l1 (40 : Int32) _ hM h)
theorem c278 {sl : Nat} {sx : Nat → Int32} {d : Nat} {l0 : Nat} {l1 : Int64} {M : MM} {P : MM → Prop} (h : w278 l0 l1 M P) : callX TBg sl sx (d + 2) 278 [vR (some l0), vL l1] M (PV P) :=
  cX (d := d + 1) q278 (false, tb278) rfl rfl rfl (t278_E l0 l1 M lenR h)
-- TwoLeashModel.putsNumber(I)V
abbrev q280 : MQ7 := (2, 1, 2, 10, 0, 0, 0)
abbrev R280 (sl : Nat) (sx : Nat → Int32) (d : Nat) (M0 : MM) (P : MM → Prop) : Nat → LL → List VV → MM → Prop := RN 10 false (mS M0).length (mT M0) 0 0 sl sx (callX TBg sl sx (d + 1)) (rtW q280 M0 (PV P)) (as2 tb280)
def w280_23 (l0 : Nat) (l1 : Int32) (M : MM) (P : MM → Prop) : Prop := ¬ (10 : Int32) = 0 ∧ (kd M l0 10 ∧ w279 l0 ((48 : Int32) + (l1 - l1 / (10 : Int32) * (10 : Int32))) M (fun M1 => P M1))
theorem t280_23 {sl : Nat} {sx : Nat → Int32} {d : Nat} {M0 : MM} {P : MM → Prop} (l0 : Nat) (l1 : Int32) (M : MM) (hM : lenO M0 M) (h : w280_23  l0 l1 M P) : R280 sl sx d M0 P 23 [some (vR (some l0)), some (vI l1)] [] M := by
  refine RN_k (callX_det _) 5 _ _ _ _ (show ¬ (10 : Int32) = 0 ∧ R280 sl sx d M0 P 30 [some (vR (some l0)), some (vI l1)] [vI (l1 - l1 / (10 : Int32) * (10 : Int32)), vI (48 : Int32), vR (some l0)] M from ⟨h.1, ?_⟩)
  replace h := h.2
  refine RN_k (callX_det _) 2 _ _ _ _ (show kd M l0 10 ∧ callX TBg sl sx (d + 1) 279 [vR (some l0), vI ((48 : Int32) + (l1 - l1 / (10 : Int32) * (10 : Int32)))] M (fun v M9 => R280 sl sx d M0 P 34 [some (vR (some l0)), some (vI l1)] (pushO v []) M9) from ⟨h.1, ?_⟩)
  replace h := h.2
  refine callX_mono (callX_len (d := (d + 1)) rfl rfl rfl (c279 (d := d) h)) ?_
  clear h
  rintro v9 M1 ⟨hl, rfl, h⟩
  replace hM := lenT hM hl
  show R280 sl sx d M0 P 34 [some (vR (some l0)), some (vI l1)] [] M1
  exact RN_k (callX_det _) 1 _ _ _ _ (show rtW q280 M0 (PV P) none M1 from ⟨rfl, hM.1, hM.2, rfl, h⟩)
def w280 (l0 : Nat) (l1 : Int32) (M : MM) (P : MM → Prop) : Prop := kd M l0 10 ∧ w279 l0 (32 : Int32) M (fun M1 => (l1 ≤ (9 : Int32) → (w280_23  l0 l1 M1 P)) ∧ (¬ (l1 ≤ (9 : Int32)) → (¬ (10 : Int32) = 0 ∧ (kd M1 l0 10 ∧ w279 l0 ((48 : Int32) + (l1 / (10 : Int32))) M1 (fun M2 => w280_23  l0 l1 M2 P)))))
theorem t280_E {sl : Nat} {sx : Nat → Int32} {d : Nat} {M0 : MM} {P : MM → Prop} (l0 : Nat) (l1 : Int32) (M : MM) (hM : lenO M0 M) (h : w280  l0 l1 M P) : R280 sl sx d M0 P 0 [some (vR (some l0)), some (vI l1)] [] M := by
  refine RN_k (callX_det _) 3 _ _ _ _ (show kd M l0 10 ∧ callX TBg sl sx (d + 1) 279 [vR (some l0), vI (32 : Int32)] M (fun v M9 => R280 sl sx d M0 P 6 [some (vR (some l0)), some (vI l1)] (pushO v []) M9) from ⟨h.1, ?_⟩)
  replace h := h.2
  refine callX_mono (callX_len (d := (d + 1)) rfl rfl rfl (c279 (d := d) h)) ?_
  clear h
  rintro v9 M1 ⟨hl, rfl, h⟩
  replace hM := lenT hM hl
  show R280 sl sx d M0 P 6 [some (vR (some l0)), some (vI l1)] [] M1
  refine RN_k (callX_det _) 3 _ _ _ _ (show (l1 ≤ (9 : Int32) → R280 sl sx d M0 P 23 [some (vR (some l0)), some (vI l1)] [] M1) ∧ (¬ (l1 ≤ (9 : Int32)) → R280 sl sx d M0 P 12 [some (vR (some l0)), some (vI l1)] [] M1) from ⟨fun hc => ?_, fun hc => ?_⟩)
  · replace h := h.1 hc
    exact RN_weak (K := [some (vR (some l0)), some (vI l1)]) (callX_det _) (show _ ∧ _ ∧ True from ⟨rfl, rfl, trivial⟩) (t280_23  l0 l1 _ hM h)
  · replace h := h.2 hc
    refine RN_k (callX_det _) 5 _ _ _ _ (show ¬ (10 : Int32) = 0 ∧ R280 sl sx d M0 P 19 [some (vR (some l0)), some (vI l1)] [vI (l1 / (10 : Int32)), vI (48 : Int32), vR (some l0)] M1 from ⟨h.1, ?_⟩)
    replace h := h.2
    refine RN_k (callX_det _) 2 _ _ _ _ (show kd M1 l0 10 ∧ callX TBg sl sx (d + 1) 279 [vR (some l0), vI ((48 : Int32) + (l1 / (10 : Int32)))] M1 (fun v M9 => R280 sl sx d M0 P 23 [some (vR (some l0)), some (vI l1)] (pushO v []) M9) from ⟨h.1, ?_⟩)
    replace h := h.2
    refine callX_mono (callX_len (d := (d + 1)) rfl rfl rfl (c279 (d := d) h)) ?_
    clear h
    rintro v9 M2 ⟨hl, rfl, h⟩
    replace hM := lenT hM hl
    show R280 sl sx d M0 P 23 [some (vR (some l0)), some (vI l1)] [] M2
    exact RN_weak (K := [some (vR (some l0)), some (vI l1)]) (callX_det _) (show _ ∧ _ ∧ True from ⟨rfl, rfl, trivial⟩) (t280_23  l0 l1 _ hM h)
theorem c280 {sl : Nat} {sx : Nat → Int32} {d : Nat} {l0 : Nat} {l1 : Int32} {M : MM} {P : MM → Prop} (h : w280 l0 l1 M P) : callX TBg sl sx (d + 2) 280 [vR (some l0), vI l1] M (PV P) :=
  cX (d := d + 1) q280 (false, tb280) rfl rfl rfl (t280_E l0 l1 M lenR h)
-- TwoLeashModel.print()I
abbrev q277 : MQ7 := (1, 1, 3, 10, 0, 0, 1)
abbrev R277 (sl : Nat) (sx : Nat → Int32) (d : Nat) (M0 : MM) (P : Int32 → MM → Prop) : Nat → LL → List VV → MM → Prop := RN 10 false (mS M0).length (mT M0) 0 0 sl sx (callX TBg sl sx (d + 2)) (rtW q277 M0 (PI P)) (as2 tb277)
def w277_45 (k12 : Nat → Int32 → MM → Prop) : Nat → Nat → Int32 → Int32 → MM → (Int32 → MM → Prop) → Prop
  | 0 => fun _ _ _ _ _ => False
  | n + 1 => fun l0 l1 l2 M P => kd M l0 10 ∧ w180 l0 l1 M (fun r2 M1 => (r2 ≤ l2 → (kd M1 l0 10 ∧ w279 l0 (59 : Int32) M1 (fun M3 => k12 l0 (l1 + (1 : Int32)) M3))) ∧ (¬ (r2 ≤ l2) → (kd M1 l0 10 ∧ w184 l0 l1 l2 M1 (fun r5 M4 => kd M4 l0 10 ∧ w280 l0 r5 M4 (fun M6 => kd M6 l0 10 ∧ w185 l0 l1 l2 M6 (fun r8 M7 => kd M7 l0 10 ∧ w280 l0 r8 M7 (fun M9 => w277_45 k12 n l0 l1 (l2 + (1 : Int32)) M9 P)))))))
theorem t277_45 {sl : Nat} {sx : Nat → Int32} {d : Nat} {M0 : MM} {P : Int32 → MM → Prop} {k12 : Nat → Int32 → MM → Prop} (hk12 : ∀ (l0 : Nat) (l1 : Int32) (M : MM), lenO M0 M → k12 l0 l1 M → R277 sl sx d M0 P 12 [some (vR (some l0)), some (vI l1), none] [] M) (n : Nat) : ∀ (l0 : Nat) (l1 : Int32) (l2 : Int32) (M : MM) (_ : lenO M0 M) (_ : w277_45 k12 n l0 l1 l2 M P), R277 sl sx d M0 P 45 [some (vR (some l0)), some (vI l1), some (vI l2)] [] M := by
  induction n with
  | zero => intro l0 l1 l2 M hM h; cases h
  | succ n ih =>
    intro l0 l1 l2 M hM h
    refine RN_k (callX_det _) 4 _ _ _ _ (show kd M l0 10 ∧ callX TBg sl sx (d + 2) 180 [vR (some l0), vI l1] M (fun v M9 => R277 sl sx d M0 P 51 [some (vR (some l0)), some (vI l1), some (vI l2)] (pushO v [vI l2]) M9) from ⟨h.1, ?_⟩)
    replace h := h.2
    refine callX_mono (callX_len (d := (d + 2)) rfl rfl rfl (c180 (d := d) h)) ?_
    clear h
    rintro v9 M1 ⟨hl, r2, rfl, h⟩
    replace hM := lenT hM hl
    show R277 sl sx d M0 P 51 [some (vR (some l0)), some (vI l1), some (vI l2)] [vI r2, vI l2] M1
    refine RN_k (callX_det _) 1 _ _ _ _ (show (r2 ≤ l2 → R277 sl sx d M0 P 80 [some (vR (some l0)), some (vI l1), some (vI l2)] [] M1) ∧ (¬ (r2 ≤ l2) → R277 sl sx d M0 P 54 [some (vR (some l0)), some (vI l1), some (vI l2)] [] M1) from ⟨fun hc => ?_, fun hc => ?_⟩)
    · replace h := h.1 hc
      refine RN_k (callX_det _) 3 _ _ _ _ (show kd M1 l0 10 ∧ callX TBg sl sx (d + 2) 279 [vR (some l0), vI (59 : Int32)] M1 (fun v M9 => R277 sl sx d M0 P 86 [some (vR (some l0)), some (vI l1), some (vI l2)] (pushO v []) M9) from ⟨h.1, ?_⟩)
      replace h := h.2
      refine callX_mono (callX_len (d := (d + 2)) rfl rfl rfl (c279 (d := d + 1) h)) ?_
      clear h
      rintro v9 M3 ⟨hl, rfl, h⟩
      replace hM := lenT hM hl
      show R277 sl sx d M0 P 86 [some (vR (some l0)), some (vI l1), some (vI l2)] [] M3
      refine RN_k (callX_det _) 2 _ _ _ _ (show R277 sl sx d M0 P 12 [some (vR (some l0)), some (vI (l1 + (1 : Int32))), some (vI l2)] [] M3 from ?_)
      exact RN_weak (K := [some (vR (some l0)), some (vI (l1 + (1 : Int32))), none]) (callX_det _) (show _ ∧ _ ∧ True from ⟨rfl, rfl, trivial⟩) (hk12 l0 (l1 + (1 : Int32)) _ hM h)
    · replace h := h.2 hc
      refine RN_k (callX_det _) 5 _ _ _ _ (show kd M1 l0 10 ∧ callX TBg sl sx (d + 2) 184 [vR (some l0), vI l1, vI l2] M1 (fun v M9 => R277 sl sx d M0 P 61 [some (vR (some l0)), some (vI l1), some (vI l2)] (pushO v [vR (some l0)]) M9) from ⟨h.1, ?_⟩)
      replace h := h.2
      refine callX_mono (callX_len (d := (d + 2)) rfl rfl rfl (c184 (d := d) h)) ?_
      clear h
      rintro v9 M4 ⟨hl, r5, rfl, h⟩
      replace hM := lenT hM hl
      show R277 sl sx d M0 P 61 [some (vR (some l0)), some (vI l1), some (vI l2)] [vI r5, vR (some l0)] M4
      refine RN_k (callX_det _) 1 _ _ _ _ (show kd M4 l0 10 ∧ callX TBg sl sx (d + 2) 280 [vR (some l0), vI r5] M4 (fun v M9 => R277 sl sx d M0 P 64 [some (vR (some l0)), some (vI l1), some (vI l2)] (pushO v []) M9) from ⟨h.1, ?_⟩)
      replace h := h.2
      refine callX_mono (callX_len (d := (d + 2)) rfl rfl rfl (c280 (d := d) h)) ?_
      clear h
      rintro v9 M6 ⟨hl, rfl, h⟩
      replace hM := lenT hM hl
      show R277 sl sx d M0 P 64 [some (vR (some l0)), some (vI l1), some (vI l2)] [] M6
      refine RN_k (callX_det _) 5 _ _ _ _ (show kd M6 l0 10 ∧ callX TBg sl sx (d + 2) 185 [vR (some l0), vI l1, vI l2] M6 (fun v M9 => R277 sl sx d M0 P 71 [some (vR (some l0)), some (vI l1), some (vI l2)] (pushO v [vR (some l0)]) M9) from ⟨h.1, ?_⟩)
      replace h := h.2
      refine callX_mono (callX_len (d := (d + 2)) rfl rfl rfl (c185 (d := d) h)) ?_
      clear h
      rintro v9 M7 ⟨hl, r8, rfl, h⟩
      replace hM := lenT hM hl
      show R277 sl sx d M0 P 71 [some (vR (some l0)), some (vI l1), some (vI l2)] [vI r8, vR (some l0)] M7
      refine RN_k (callX_det _) 1 _ _ _ _ (show kd M7 l0 10 ∧ callX TBg sl sx (d + 2) 280 [vR (some l0), vI r8] M7 (fun v M9 => R277 sl sx d M0 P 74 [some (vR (some l0)), some (vI l1), some (vI l2)] (pushO v []) M9) from ⟨h.1, ?_⟩)
      replace h := h.2
      refine callX_mono (callX_len (d := (d + 2)) rfl rfl rfl (c280 (d := d) h)) ?_
      clear h
      rintro v9 M9 ⟨hl, rfl, h⟩
      replace hM := lenT hM hl
      show R277 sl sx d M0 P 74 [some (vR (some l0)), some (vI l1), some (vI l2)] [] M9
      refine RN_k (callX_det _) 2 _ _ _ _ (show R277 sl sx d M0 P 45 [some (vR (some l0)), some (vI l1), some (vI (l2 + (1 : Int32)))] [] M9 from ?_)
      exact RN_weak (K := [some (vR (some l0)), some (vI l1), some (vI (l2 + (1 : Int32)))]) (callX_det _) (show _ ∧ _ ∧ _ ∧ True from ⟨rfl, rfl, rfl, trivial⟩) (ih l0 l1 (l2 + (1 : Int32)) _ hM h)
def w277_12 : Nat → Nat → Int32 → MM → (Int32 → MM → Prop) → Prop
  | 0 => fun _ _ _ _ => False
  | n + 1 => fun l0 l1 M P => kd M l0 10 ∧ (((mI M l0 5) ≤ l1 → (kd M l0 10 ∧ (kd M l0 10 ∧ w177 l0 (mI M l0 69) M (fun r2 M1 => P r2 M1)))) ∧ (¬ ((mI M l0 5) ≤ l1) → (kd M l0 10 ∧ w278 l0 (23609 : Int64) M (fun M3 => kd M3 l0 10 ∧ w279 l0 (32 : Int32) M3 (fun M4 => kd M4 l0 10 ∧ (∃ a5, mR M4 l0 3 = some a5 ∧ (inb M4 a5 12 l1 ∧ (kd M4 l0 10 ∧ w278 l0 (mL M4 a5 l1.toNatClampNeg) M4 (fun M6 => ∃ n2, w277_45 (fun z0 z1 z2 => w277_12  n z0 z1 z2 P) n2 l0 l1 (0 : Int32) M6 P)))))))))
theorem t277_12 {sl : Nat} {sx : Nat → Int32} {d : Nat} {M0 : MM} {P : Int32 → MM → Prop} (n : Nat) : ∀ (l0 : Nat) (l1 : Int32) (M : MM) (_ : lenO M0 M) (_ : w277_12  n l0 l1 M P), R277 sl sx d M0 P 12 [some (vR (some l0)), some (vI l1), none] [] M := by
  induction n with
  | zero => intro l0 l1 M hM h; cases h
  | succ n ih =>
    intro l0 l1 M hM h
    refine RN_k (callX_det _) 3 _ _ _ _ (show kd M l0 10 ∧ R277 sl sx d M0 P 17 [some (vR (some l0)), some (vI l1), none] [vI (mI M l0 5), vI l1] M from ⟨h.1, ?_⟩)
    replace h := h.2
    refine RN_k (callX_det _) 1 _ _ _ _ (show ((mI M l0 5) ≤ l1 → R277 sl sx d M0 P 92 [some (vR (some l0)), some (vI l1), none] [] M) ∧ (¬ ((mI M l0 5) ≤ l1) → R277 sl sx d M0 P 20 [some (vR (some l0)), some (vI l1), none] [] M) from ⟨fun hc => ?_, fun hc => ?_⟩)
    · replace h := h.1 hc
      refine RN_k (callX_det _) 3 _ _ _ _ (show kd M l0 10 ∧ R277 sl sx d M0 P 97 [some (vR (some l0)), some (vI l1), none] [vI (mI M l0 69), vR (some l0)] M from ⟨h.1, ?_⟩)
      replace h := h.2
      refine RN_k (callX_det _) 1 _ _ _ _ (show kd M l0 10 ∧ callX TBg sl sx (d + 2) 177 [vR (some l0), vI (mI M l0 69)] M (fun v M9 => R277 sl sx d M0 P 100 [some (vR (some l0)), some (vI l1), none] (pushO v []) M9) from ⟨h.1, ?_⟩)
      replace h := h.2
      refine callX_mono (callX_len (d := (d + 2)) rfl rfl rfl (c177 (d := d + 1) h)) ?_
      clear h
      rintro v9 M1 ⟨hl, r2, rfl, h⟩
      replace hM := lenT hM hl
      show R277 sl sx d M0 P 100 [some (vR (some l0)), some (vI l1), none] [vI r2] M1
      exact RN_k (callX_det _) 1 _ _ _ _ (show rtW q277 M0 (PI P) (some (vI r2)) M1 from ⟨⟨_, rfl⟩, hM.1, hM.2, _, rfl, h⟩)
    · replace h := h.2 hc
      refine RN_k (callX_det _) 3 _ _ _ _ (show kd M l0 10 ∧ callX TBg sl sx (d + 2) 278 [vR (some l0), vL (23609 : Int64)] M (fun v M9 => R277 sl sx d M0 P 27 [some (vR (some l0)), some (vI l1), none] (pushO v []) M9) from ⟨h.1, ?_⟩)
      replace h := h.2
      refine callX_mono (callX_len (d := (d + 2)) rfl rfl rfl (c278 (d := d) h)) ?_
      clear h
      rintro v9 M3 ⟨hl, rfl, h⟩
      replace hM := lenT hM hl
      show R277 sl sx d M0 P 27 [some (vR (some l0)), some (vI l1), none] [] M3
      refine RN_k (callX_det _) 3 _ _ _ _ (show kd M3 l0 10 ∧ callX TBg sl sx (d + 2) 279 [vR (some l0), vI (32 : Int32)] M3 (fun v M9 => R277 sl sx d M0 P 33 [some (vR (some l0)), some (vI l1), none] (pushO v []) M9) from ⟨h.1, ?_⟩)
      replace h := h.2
      refine callX_mono (callX_len (d := (d + 2)) rfl rfl rfl (c279 (d := d + 1) h)) ?_
      clear h
      rintro v9 M4 ⟨hl, rfl, h⟩
      replace hM := lenT hM hl
      show R277 sl sx d M0 P 33 [some (vR (some l0)), some (vI l1), none] [] M4
      refine RN_k (callX_det _) 3 _ _ _ _ (show kd M4 l0 10 ∧ R277 sl sx d M0 P 38 [some (vR (some l0)), some (vI l1), none] [vR (mR M4 l0 3), vR (some l0)] M4 from ⟨h.1, ?_⟩)
      replace h := h.2
      obtain ⟨a5, he, h⟩ := h
      refine RN_k (callX_det _) 1 _ _ _ _ (show R277 sl sx d M0 P 39 [some (vR (some l0)), some (vI l1), none] [vI l1, vR (mR M4 l0 3), vR (some l0)] M4 from ?_)
      rw [he]
      refine RN_k (callX_det _) 1 _ _ _ _ (show inb M4 a5 12 l1 ∧ R277 sl sx d M0 P 40 [some (vR (some l0)), some (vI l1), none] [vL (mL M4 a5 l1.toNatClampNeg), vR (some l0)] M4 from ⟨h.1, ?_⟩)
      replace h := h.2
      refine RN_k (callX_det _) 1 _ _ _ _ (show kd M4 l0 10 ∧ callX TBg sl sx (d + 2) 278 [vR (some l0), vL (mL M4 a5 l1.toNatClampNeg)] M4 (fun v M9 => R277 sl sx d M0 P 43 [some (vR (some l0)), some (vI l1), none] (pushO v []) M9) from ⟨h.1, ?_⟩)
      replace h := h.2
      refine callX_mono (callX_len (d := (d + 2)) rfl rfl rfl (c278 (d := d) h)) ?_
      clear h
      rintro v9 M6 ⟨hl, rfl, h⟩
      replace hM := lenT hM hl
      show R277 sl sx d M0 P 43 [some (vR (some l0)), some (vI l1), none] [] M6
      refine RN_k (callX_det _) 2 _ _ _ _ (show R277 sl sx d M0 P 45 [some (vR (some l0)), some (vI l1), some (vI (0 : Int32))] [] M6 from ?_)
      obtain ⟨n2, h⟩ := h
      exact RN_weak (K := [some (vR (some l0)), some (vI l1), some (vI (0 : Int32))]) (callX_det _) (show _ ∧ _ ∧ _ ∧ True from ⟨rfl, rfl, rfl, trivial⟩) (t277_45 ih n2 l0 l1 (0 : Int32) _ hM h)
def w277 (l0 : Nat) (M : MM) (P : Int32 → MM → Prop) : Prop := kd M l0 10 ∧ (kd (sI M l0 69 (0 : Int32)) l0 10 ∧ (∃ n2, w277_12  n2 l0 (0 : Int32) (sI (sI M l0 69 (0 : Int32)) l0 70 (1 : Int32)) P))
theorem t277_E {sl : Nat} {sx : Nat → Int32} {d : Nat} {M0 : MM} {P : Int32 → MM → Prop} (l0 : Nat) (M : MM) (hM : lenO M0 M) (h : w277  l0 M P) : R277 sl sx d M0 P 0 [some (vR (some l0)), none, none] [] M := by
  refine RN_k (callX_det _) 3 _ _ _ _ (show kd M l0 10 ∧ R277 sl sx d M0 P 5 [some (vR (some l0)), none, none] [] (sI M l0 69 (0 : Int32)) from ⟨h.1, ?_⟩)
  replace h := h.2
  refine RN_k (callX_det _) 3 _ _ _ _ (show kd (sI M l0 69 (0 : Int32)) l0 10 ∧ ((1 : Int32) = 0 ∨ (1 : Int32) = 1) ∧ R277 sl sx d M0 P 10 [some (vR (some l0)), none, none] [] (sI (sI M l0 69 (0 : Int32)) l0 70 (1 : Int32)) from ⟨h.1, Or.inr rfl, ?_⟩)
  replace h := h.2
  refine RN_k (callX_det _) 2 _ _ _ _ (show R277 sl sx d M0 P 12 [some (vR (some l0)), some (vI (0 : Int32)), none] [] (sI (sI M l0 69 (0 : Int32)) l0 70 (1 : Int32)) from ?_)
  obtain ⟨n2, h⟩ := h
  exact RN_weak (K := [some (vR (some l0)), some (vI (0 : Int32)), none]) (callX_det _) (show _ ∧ _ ∧ True from ⟨rfl, rfl, trivial⟩) (t277_12  n2 l0 (0 : Int32) _ hM h)
theorem c277 {sl : Nat} {sx : Nat → Int32} {d : Nat} {l0 : Nat} {M : MM} {P : Int32 → MM → Prop} (h : w277 l0 M P) : callX TBg sl sx (d + 3) 277 [vR (some l0)] M (PI P) :=
  cX (d := d + 2) q277 (false, tb277) rfl rfl rfl (t277_E l0 M lenR h)
-- TwoLeashModel.out(I)I
abbrev q281 : MQ7 := (2, 1, 2, 10, 0, 0, 1)
abbrev R281 (sl : Nat) (sx : Nat → Int32) (d : Nat) (M0 : MM) (P : Int32 → MM → Prop) : Nat → LL → List VV → MM → Prop := RN 10 false (mS M0).length (mT M0) 0 0 sl sx (callX TBg sl sx (d + 1)) (rtW q281 M0 (PI P)) (as2 tb281)
def w281_43 (s0 : Int32) (M : MM) (P : Int32 → MM → Prop) : Prop := P s0 M
theorem t281_43 {sl : Nat} {sx : Nat → Int32} {d : Nat} {M0 : MM} {P : Int32 → MM → Prop} (s0 : Int32) (M : MM) (hM : lenO M0 M) (h : w281_43  s0 M P) : R281 sl sx d M0 P 43 [none, none] [vI s0] M := by
  exact RN_k (callX_det _) 1 _ _ _ _ (show rtW q281 M0 (PI P) (some (vI s0)) M from ⟨⟨_, rfl⟩, hM.1, hM.2, _, rfl, h⟩)
def w281_38 (l0 : Nat) (M : MM) (P : Int32 → MM → Prop) : Prop := kd M l0 10 ∧ w167 l0 (5 : Int32) M (fun r2 M1 => w281_43  r2 M1 P)
theorem t281_38 {sl : Nat} {sx : Nat → Int32} {d : Nat} {M0 : MM} {P : Int32 → MM → Prop} (l0 : Nat) (M : MM) (hM : lenO M0 M) (h : w281_38  l0 M P) : R281 sl sx d M0 P 38 [some (vR (some l0)), none] [] M := by
  refine RN_k (callX_det _) 3 _ _ _ _ (show kd M l0 10 ∧ callX TBg sl sx (d + 1) 167 [vR (some l0), vI (5 : Int32)] M (fun v M9 => R281 sl sx d M0 P 43 [some (vR (some l0)), none] (pushO v []) M9) from ⟨h.1, ?_⟩)
  replace h := h.2
  refine callX_mono (callX_len (d := (d + 1)) rfl rfl rfl (c167 (d := d) h)) ?_
  clear h
  rintro v9 M1 ⟨hl, r2, rfl, h⟩
  replace hM := lenT hM hl
  show R281 sl sx d M0 P 43 [some (vR (some l0)), none] [vI r2] M1
  exact RN_weak (K := [none, none]) (callX_det _) (show True from trivial) (t281_43  r2 _ hM h)
def w281 (l0 : Nat) (l1 : Int32) (M : MM) (P : Int32 → MM → Prop) : Prop := (0 ≤ l1 → (kd M l0 10 ∧ (((mI M l0 70) = 0 → (w281_38  l0 M P)) ∧ (¬ ((mI M l0 70) = 0) → (kd M l0 10 ∧ (((mI M l0 69) ≤ l1 → (w281_38  l0 M P)) ∧ (¬ ((mI M l0 69) ≤ l1) → (kd M l0 10 ∧ (∃ a1, mR M l0 68 = some a1 ∧ (inb M a1 13 l1 ∧ (kd M l0 10 ∧ w177 l0 (mI M a1 l1.toNatClampNeg) M (fun r3 M2 => w281_43  r3 M2 P)))))))))))) ∧ (¬ (0 ≤ l1) → (kd M l0 10 ∧ w167 l0 (1 : Int32) M (fun r5 M4 => P r5 M4)))
theorem t281_E {sl : Nat} {sx : Nat → Int32} {d : Nat} {M0 : MM} {P : Int32 → MM → Prop} (l0 : Nat) (l1 : Int32) (M : MM) (hM : lenO M0 M) (h : w281  l0 l1 M P) : R281 sl sx d M0 P 0 [some (vR (some l0)), some (vI l1)] [] M := by
  refine RN_k (callX_det _) 2 _ _ _ _ (show (0 ≤ l1 → R281 sl sx d M0 P 10 [some (vR (some l0)), some (vI l1)] [] M) ∧ (¬ (0 ≤ l1) → R281 sl sx d M0 P 4 [some (vR (some l0)), some (vI l1)] [] M) from ⟨fun hc => ?_, fun hc => ?_⟩)
  · replace h := h.1 hc
    refine RN_k (callX_det _) 2 _ _ _ _ (show kd M l0 10 ∧ R281 sl sx d M0 P 14 [some (vR (some l0)), some (vI l1)] [vI (mI M l0 70)] M from ⟨h.1, ?_⟩)
    replace h := h.2
    refine RN_k (callX_det _) 1 _ _ _ _ (show ((mI M l0 70) = 0 → R281 sl sx d M0 P 38 [some (vR (some l0)), some (vI l1)] [] M) ∧ (¬ ((mI M l0 70) = 0) → R281 sl sx d M0 P 17 [some (vR (some l0)), some (vI l1)] [] M) from ⟨fun hc => ?_, fun hc => ?_⟩)
    · replace h := h.1 hc
      exact RN_weak (K := [some (vR (some l0)), none]) (callX_det _) (show _ ∧ True from ⟨rfl, trivial⟩) (t281_38  l0 _ hM h)
    · replace h := h.2 hc
      refine RN_k (callX_det _) 3 _ _ _ _ (show kd M l0 10 ∧ R281 sl sx d M0 P 22 [some (vR (some l0)), some (vI l1)] [vI (mI M l0 69), vI l1] M from ⟨h.1, ?_⟩)
      replace h := h.2
      refine RN_k (callX_det _) 1 _ _ _ _ (show ((mI M l0 69) ≤ l1 → R281 sl sx d M0 P 38 [some (vR (some l0)), some (vI l1)] [] M) ∧ (¬ ((mI M l0 69) ≤ l1) → R281 sl sx d M0 P 25 [some (vR (some l0)), some (vI l1)] [] M) from ⟨fun hc => ?_, fun hc => ?_⟩)
      · replace h := h.1 hc
        exact RN_weak (K := [some (vR (some l0)), none]) (callX_det _) (show _ ∧ True from ⟨rfl, trivial⟩) (t281_38  l0 _ hM h)
      · replace h := h.2 hc
        refine RN_k (callX_det _) 3 _ _ _ _ (show kd M l0 10 ∧ R281 sl sx d M0 P 30 [some (vR (some l0)), some (vI l1)] [vR (mR M l0 68), vR (some l0)] M from ⟨h.1, ?_⟩)
        replace h := h.2
        obtain ⟨a1, he, h⟩ := h
        refine RN_k (callX_det _) 1 _ _ _ _ (show R281 sl sx d M0 P 31 [some (vR (some l0)), some (vI l1)] [vI l1, vR (mR M l0 68), vR (some l0)] M from ?_)
        rw [he]
        refine RN_k (callX_det _) 1 _ _ _ _ (show inb M a1 13 l1 ∧ R281 sl sx d M0 P 32 [some (vR (some l0)), some (vI l1)] [vI (mI M a1 l1.toNatClampNeg), vR (some l0)] M from ⟨h.1, ?_⟩)
        replace h := h.2
        refine RN_k (callX_det _) 1 _ _ _ _ (show kd M l0 10 ∧ callX TBg sl sx (d + 1) 177 [vR (some l0), vI (mI M a1 l1.toNatClampNeg)] M (fun v M9 => R281 sl sx d M0 P 35 [some (vR (some l0)), some (vI l1)] (pushO v []) M9) from ⟨h.1, ?_⟩)
        replace h := h.2
        refine callX_mono (callX_len (d := (d + 1)) rfl rfl rfl (c177 (d := d) h)) ?_
        clear h
        rintro v9 M2 ⟨hl, r3, rfl, h⟩
        replace hM := lenT hM hl
        show R281 sl sx d M0 P 35 [some (vR (some l0)), some (vI l1)] [vI r3] M2
        refine RN_k (callX_det _) 1 _ _ _ _ (show R281 sl sx d M0 P 43 [some (vR (some l0)), some (vI l1)] [vI r3] M2 from ?_)
        exact RN_weak (K := [none, none]) (callX_det _) (show True from trivial) (t281_43  r3 _ hM h)
  · replace h := h.2 hc
    refine RN_k (callX_det _) 3 _ _ _ _ (show kd M l0 10 ∧ callX TBg sl sx (d + 1) 167 [vR (some l0), vI (1 : Int32)] M (fun v M9 => R281 sl sx d M0 P 9 [some (vR (some l0)), some (vI l1)] (pushO v []) M9) from ⟨h.1, ?_⟩)
    replace h := h.2
    refine callX_mono (callX_len (d := (d + 1)) rfl rfl rfl (c167 (d := d) h)) ?_
    clear h
    rintro v9 M4 ⟨hl, r5, rfl, h⟩
    replace hM := lenT hM hl
    show R281 sl sx d M0 P 9 [some (vR (some l0)), some (vI l1)] [vI r5] M4
    exact RN_k (callX_det _) 1 _ _ _ _ (show rtW q281 M0 (PI P) (some (vI r5)) M4 from ⟨⟨_, rfl⟩, hM.1, hM.2, _, rfl, h⟩)
theorem c281 {sl : Nat} {sx : Nat → Int32} {d : Nat} {l0 : Nat} {l1 : Int32} {M : MM} {P : Int32 → MM → Prop} (h : w281 l0 l1 M P) : callX TBg sl sx (d + 2) 281 [vR (some l0), vI l1] M (PI P) :=
  cX (d := d + 1) q281 (false, tb281) rfl rfl rfl (t281_E l0 l1 M lenR h)
-- TwoLeashModel.undo()I
abbrev q282 : MQ7 := (1, 1, 2, 10, 0, 0, 1)
abbrev R282 (sl : Nat) (sx : Nat → Int32) (d : Nat) (M0 : MM) (P : Int32 → MM → Prop) : Nat → LL → List VV → MM → Prop := RN 10 false (mS M0).length (mT M0) 0 0 sl sx (callX TBg sl sx (d + 1)) (rtW q282 M0 (PI P)) (as2 tb282)
def w282_25 : Nat → Nat → Int32 → MM → (Int32 → MM → Prop) → Prop
  | 0 => fun _ _ _ _ => False
  | n + 1 => fun l0 l1 M P => ((68 : Int32) ≤ l1 → (kd M l0 10 ∧ (kd M l0 10 ∧ w177 l0 (mI M l0 12) M (fun r2 M1 => P r2 M1)))) ∧ (¬ ((68 : Int32) ≤ l1) → (kd M l0 10 ∧ (kd M l0 10 ∧ (kd M l0 10 ∧ (∃ a3, mR M l0 2 = some a3 ∧ (inb M a3 11 (((68 : Int32) * (mI M l0 12)) + l1) ∧ (∃ a4, mR M l0 0 = some a4 ∧ (inb M a4 11 l1 ∧ (w282_25  n l0 (l1 + (1 : Int32)) (sI M a4 l1.toNatClampNeg (mI M a3 (((68 : Int32) * (mI M l0 12)) + l1).toNatClampNeg)) P)))))))))
theorem t282_25 {sl : Nat} {sx : Nat → Int32} {d : Nat} {M0 : MM} {P : Int32 → MM → Prop} (n : Nat) : ∀ (l0 : Nat) (l1 : Int32) (M : MM) (_ : lenO M0 M) (_ : w282_25  n l0 l1 M P), R282 sl sx d M0 P 25 [some (vR (some l0)), some (vI l1)] [] M := by
  induction n with
  | zero => intro l0 l1 M hM h; cases h
  | succ n ih =>
    intro l0 l1 M hM h
    refine RN_k (callX_det _) 3 _ _ _ _ (show ((68 : Int32) ≤ l1 → R282 sl sx d M0 P 57 [some (vR (some l0)), some (vI l1)] [] M) ∧ (¬ ((68 : Int32) ≤ l1) → R282 sl sx d M0 P 31 [some (vR (some l0)), some (vI l1)] [] M) from ⟨fun hc => ?_, fun hc => ?_⟩)
    · replace h := h.1 hc
      refine RN_k (callX_det _) 3 _ _ _ _ (show kd M l0 10 ∧ R282 sl sx d M0 P 62 [some (vR (some l0)), some (vI l1)] [vI (mI M l0 12), vR (some l0)] M from ⟨h.1, ?_⟩)
      replace h := h.2
      refine RN_k (callX_det _) 1 _ _ _ _ (show kd M l0 10 ∧ callX TBg sl sx (d + 1) 177 [vR (some l0), vI (mI M l0 12)] M (fun v M9 => R282 sl sx d M0 P 65 [some (vR (some l0)), some (vI l1)] (pushO v []) M9) from ⟨h.1, ?_⟩)
      replace h := h.2
      refine callX_mono (callX_len (d := (d + 1)) rfl rfl rfl (c177 (d := d) h)) ?_
      clear h
      rintro v9 M1 ⟨hl, r2, rfl, h⟩
      replace hM := lenT hM hl
      show R282 sl sx d M0 P 65 [some (vR (some l0)), some (vI l1)] [vI r2] M1
      exact RN_k (callX_det _) 1 _ _ _ _ (show rtW q282 M0 (PI P) (some (vI r2)) M1 from ⟨⟨_, rfl⟩, hM.1, hM.2, _, rfl, h⟩)
    · replace h := h.2 hc
      refine RN_k (callX_det _) 2 _ _ _ _ (show kd M l0 10 ∧ R282 sl sx d M0 P 35 [some (vR (some l0)), some (vI l1)] [vR (mR M l0 0)] M from ⟨h.1, ?_⟩)
      replace h := h.2
      refine RN_k (callX_det _) 3 _ _ _ _ (show kd M l0 10 ∧ R282 sl sx d M0 P 40 [some (vR (some l0)), some (vI l1)] [vR (mR M l0 2), vI l1, vR (mR M l0 0)] M from ⟨h.1, ?_⟩)
      replace h := h.2
      refine RN_k (callX_det _) 3 _ _ _ _ (show kd M l0 10 ∧ R282 sl sx d M0 P 46 [some (vR (some l0)), some (vI l1)] [vI (mI M l0 12), vI (68 : Int32), vR (mR M l0 2), vI l1, vR (mR M l0 0)] M from ⟨h.1, ?_⟩)
      replace h := h.2
      obtain ⟨a3, he, h⟩ := h
      refine RN_k (callX_det _) 3 _ _ _ _ (show R282 sl sx d M0 P 49 [some (vR (some l0)), some (vI l1)] [vI (((68 : Int32) * (mI M l0 12)) + l1), vR (mR M l0 2), vI l1, vR (mR M l0 0)] M from ?_)
      rw [he]
      refine RN_k (callX_det _) 1 _ _ _ _ (show inb M a3 11 (((68 : Int32) * (mI M l0 12)) + l1) ∧ R282 sl sx d M0 P 50 [some (vR (some l0)), some (vI l1)] [vI (mI M a3 (((68 : Int32) * (mI M l0 12)) + l1).toNatClampNeg), vI l1, vR (mR M l0 0)] M from ⟨h.1, ?_⟩)
      replace h := h.2
      obtain ⟨a4, he, h⟩ := h
      rw [he]
      refine RN_k (callX_det _) 1 _ _ _ _ (show inb M a4 11 l1 ∧ R282 sl sx d M0 P 51 [some (vR (some l0)), some (vI l1)] [] (sI M a4 l1.toNatClampNeg (mI M a3 (((68 : Int32) * (mI M l0 12)) + l1).toNatClampNeg)) from ⟨h.1, ?_⟩)
      replace h := h.2
      refine RN_k (callX_det _) 2 _ _ _ _ (show R282 sl sx d M0 P 25 [some (vR (some l0)), some (vI (l1 + (1 : Int32)))] [] (sI M a4 l1.toNatClampNeg (mI M a3 (((68 : Int32) * (mI M l0 12)) + l1).toNatClampNeg)) from ?_)
      exact RN_weak (K := [some (vR (some l0)), some (vI (l1 + (1 : Int32)))]) (callX_det _) (show _ ∧ _ ∧ True from ⟨rfl, rfl, trivial⟩) (ih l0 (l1 + (1 : Int32)) _ hM h)
def w282 (l0 : Nat) (M : MM) (P : Int32 → MM → Prop) : Prop := kd M l0 10 ∧ (((mI M l0 12) ≠ 0 → (kd M l0 10 ∧ (kd M l0 10 ∧ (∃ n2, w282_25  n2 l0 (0 : Int32) (sI M l0 12 ((mI M l0 12) - (1 : Int32))) P)))) ∧ (¬ ((mI M l0 12) ≠ 0) → (kd M l0 10 ∧ w167 l0 (5 : Int32) M (fun r2 M1 => P r2 M1))))
theorem t282_E {sl : Nat} {sx : Nat → Int32} {d : Nat} {M0 : MM} {P : Int32 → MM → Prop} (l0 : Nat) (M : MM) (hM : lenO M0 M) (h : w282  l0 M P) : R282 sl sx d M0 P 0 [some (vR (some l0)), none] [] M := by
  refine RN_k (callX_det _) 2 _ _ _ _ (show kd M l0 10 ∧ R282 sl sx d M0 P 4 [some (vR (some l0)), none] [vI (mI M l0 12)] M from ⟨h.1, ?_⟩)
  replace h := h.2
  refine RN_k (callX_det _) 1 _ _ _ _ (show ((mI M l0 12) ≠ 0 → R282 sl sx d M0 P 13 [some (vR (some l0)), none] [] M) ∧ (¬ ((mI M l0 12) ≠ 0) → R282 sl sx d M0 P 7 [some (vR (some l0)), none] [] M) from ⟨fun hc => ?_, fun hc => ?_⟩)
  · replace h := h.1 hc
    refine RN_k (callX_det _) 3 _ _ _ _ (show kd M l0 10 ∧ R282 sl sx d M0 P 18 [some (vR (some l0)), none] [vI (mI M l0 12), vR (some l0)] M from ⟨h.1, ?_⟩)
    replace h := h.2
    refine RN_k (callX_det _) 3 _ _ _ _ (show kd M l0 10 ∧ R282 sl sx d M0 P 23 [some (vR (some l0)), none] [] (sI M l0 12 ((mI M l0 12) - (1 : Int32))) from ⟨h.1, ?_⟩)
    replace h := h.2
    refine RN_k (callX_det _) 2 _ _ _ _ (show R282 sl sx d M0 P 25 [some (vR (some l0)), some (vI (0 : Int32))] [] (sI M l0 12 ((mI M l0 12) - (1 : Int32))) from ?_)
    obtain ⟨n2, h⟩ := h
    exact RN_weak (K := [some (vR (some l0)), some (vI (0 : Int32))]) (callX_det _) (show _ ∧ _ ∧ True from ⟨rfl, rfl, trivial⟩) (t282_25  n2 l0 (0 : Int32) _ hM h)
  · replace h := h.2 hc
    refine RN_k (callX_det _) 3 _ _ _ _ (show kd M l0 10 ∧ callX TBg sl sx (d + 1) 167 [vR (some l0), vI (5 : Int32)] M (fun v M9 => R282 sl sx d M0 P 12 [some (vR (some l0)), none] (pushO v []) M9) from ⟨h.1, ?_⟩)
    replace h := h.2
    refine callX_mono (callX_len (d := (d + 1)) rfl rfl rfl (c167 (d := d) h)) ?_
    clear h
    rintro v9 M1 ⟨hl, r2, rfl, h⟩
    replace hM := lenT hM hl
    show R282 sl sx d M0 P 12 [some (vR (some l0)), none] [vI r2] M1
    exact RN_k (callX_det _) 1 _ _ _ _ (show rtW q282 M0 (PI P) (some (vI r2)) M1 from ⟨⟨_, rfl⟩, hM.1, hM.2, _, rfl, h⟩)
theorem c282 {sl : Nat} {sx : Nat → Int32} {d : Nat} {l0 : Nat} {M : MM} {P : Int32 → MM → Prop} (h : w282 l0 M P) : callX TBg sl sx (d + 2) 282 [vR (some l0)] M (PI P) :=
  cX (d := d + 1) q282 (false, tb282) rfl rfl rfl (t282_E l0 M lenR h)
-- TwoLeashModel.isSpot(II)Z
abbrev q284 : MQ7 := (2, 0, 2, 10, 0, 0, 4)
abbrev R284 (sl : Nat) (sx : Nat → Int32) (d : Nat) (M0 : MM) (P : Int32 → MM → Prop) : Nat → LL → List VV → MM → Prop := RN 10 false (mS M0).length (mT M0) 0 0 sl sx (callX TBg sl sx (d + 1)) (rtW q284 M0 (PI P)) (as2 tb284)
def w284_25 (s0 : Int32) (M : MM) (P : Int32 → MM → Prop) : Prop := (s0 = 0 ∨ s0 = 1) ∧ P s0 M
theorem t284_25 {sl : Nat} {sx : Nat → Int32} {d : Nat} {M0 : MM} {P : Int32 → MM → Prop} (s0 : Int32) (M : MM) (hM : lenO M0 M) (h : w284_25  s0 M P) : R284 sl sx d M0 P 25 [none, none] [vI s0] M := by
  exact RN_k (callX_det _) 1 _ _ _ _ (show rtW q284 M0 (PI P) (some (vI s0)) M from ⟨⟨_, rfl, h.1⟩, hM.1, hM.2, _, rfl, h.2⟩)
def w284_24 (M : MM) (P : Int32 → MM → Prop) : Prop := w284_25  (0 : Int32) M P
theorem t284_24 {sl : Nat} {sx : Nat → Int32} {d : Nat} {M0 : MM} {P : Int32 → MM → Prop}  (M : MM) (hM : lenO M0 M) (h : w284_24   M P) : R284 sl sx d M0 P 24 [none, none] [] M := by
  refine RN_k (callX_det _) 1 _ _ _ _ (show R284 sl sx d M0 P 25 [none, none] [vI (0 : Int32)] M from ?_)
  exact RN_weak (K := [none, none]) (callX_det _) (show True from trivial) (t284_25  (0 : Int32) _ hM h)
def w284 (l0 : Int32) (l1 : Int32) (M : MM) (P : Int32 → MM → Prop) : Prop := w166 l0 (0 : Int32) (18 : Int32) M (fun r2 M1 => (r2 = 0 → (w284_24  M1 P)) ∧ (¬ (r2 = 0) → (w166 l1 (0 : Int32) (18 : Int32) M1 (fun r4 M3 => (r4 = 0 → (w284_24  M3 P)) ∧ (¬ (r4 = 0) → (w284_25  (1 : Int32) M3 P))))))
theorem t284_E {sl : Nat} {sx : Nat → Int32} {d : Nat} {M0 : MM} {P : Int32 → MM → Prop} (l0 : Int32) (l1 : Int32) (M : MM) (hM : lenO M0 M) (h : w284  l0 l1 M P) : R284 sl sx d M0 P 0 [some (vI l0), some (vI l1)] [] M := by
  refine RN_k (callX_det _) 4 _ _ _ _ (show callX TBg sl sx (d + 1) 166 [vI l0, vI (0 : Int32), vI (18 : Int32)] M (fun v M9 => R284 sl sx d M0 P 7 [some (vI l0), some (vI l1)] (pushO v []) M9) from ?_)
  refine callX_mono (callX_len (d := (d + 1)) rfl rfl rfl (c166 (d := d) h)) ?_
  clear h
  rintro v9 M1 ⟨hl, r2, rfl, h⟩
  replace hM := lenT hM hl
  show R284 sl sx d M0 P 7 [some (vI l0), some (vI l1)] [vI r2] M1
  refine RN_k (callX_det _) 1 _ _ _ _ (show (r2 = 0 → R284 sl sx d M0 P 24 [some (vI l0), some (vI l1)] [] M1) ∧ (¬ (r2 = 0) → R284 sl sx d M0 P 10 [some (vI l0), some (vI l1)] [] M1) from ⟨fun hc => ?_, fun hc => ?_⟩)
  · replace h := h.1 hc
    exact RN_weak (K := [none, none]) (callX_det _) (show True from trivial) (t284_24   _ hM h)
  · replace h := h.2 hc
    refine RN_k (callX_det _) 4 _ _ _ _ (show callX TBg sl sx (d + 1) 166 [vI l1, vI (0 : Int32), vI (18 : Int32)] M1 (fun v M9 => R284 sl sx d M0 P 17 [some (vI l0), some (vI l1)] (pushO v []) M9) from ?_)
    refine callX_mono (callX_len (d := (d + 1)) rfl rfl rfl (c166 (d := d) h)) ?_
    clear h
    rintro v9 M3 ⟨hl, r4, rfl, h⟩
    replace hM := lenT hM hl
    show R284 sl sx d M0 P 17 [some (vI l0), some (vI l1)] [vI r4] M3
    refine RN_k (callX_det _) 1 _ _ _ _ (show (r4 = 0 → R284 sl sx d M0 P 24 [some (vI l0), some (vI l1)] [] M3) ∧ (¬ (r4 = 0) → R284 sl sx d M0 P 20 [some (vI l0), some (vI l1)] [] M3) from ⟨fun hc => ?_, fun hc => ?_⟩)
    · replace h := h.1 hc
      exact RN_weak (K := [none, none]) (callX_det _) (show True from trivial) (t284_24   _ hM h)
    · replace h := h.2 hc
      refine RN_k (callX_det _) 2 _ _ _ _ (show R284 sl sx d M0 P 25 [some (vI l0), some (vI l1)] [vI (1 : Int32)] M3 from ?_)
      exact RN_weak (K := [none, none]) (callX_det _) (show True from trivial) (t284_25  (1 : Int32) _ hM h)
theorem c284 {sl : Nat} {sx : Nat → Int32} {d : Nat} {l0 : Int32} {l1 : Int32} {M : MM} {P : Int32 → MM → Prop} (h : w284 l0 l1 M P) : callX TBg sl sx (d + 2) 284 [vI l0, vI l1] M (PI P) :=
  cX (d := d + 1) q284 (false, tb284) rfl rfl rfl (t284_E l0 l1 M lenR h)
-- TwoLeashModel.isAt(IIII)Z
abbrev q285 : MQ7 := (5, 1, 5, 10, 0, 0, 4)
abbrev R285 (sl : Nat) (sx : Nat → Int32) (d : Nat) (M0 : MM) (P : Int32 → MM → Prop) : Nat → LL → List VV → MM → Prop := RN 10 false (mS M0).length (mT M0) 0 0 sl sx (callX TBg sl sx (d + 3)) (rtW q285 M0 (PI P)) (as2 tb285)
def w285_35 (s0 : Int32) (M : MM) (P : Int32 → MM → Prop) : Prop := (s0 = 0 ∨ s0 = 1) ∧ P s0 M
theorem t285_35 {sl : Nat} {sx : Nat → Int32} {d : Nat} {M0 : MM} {P : Int32 → MM → Prop} (s0 : Int32) (M : MM) (hM : lenO M0 M) (h : w285_35  s0 M P) : R285 sl sx d M0 P 35 [none, none, none, none, none] [vI s0] M := by
  exact RN_k (callX_det _) 1 _ _ _ _ (show rtW q285 M0 (PI P) (some (vI s0)) M from ⟨⟨_, rfl, h.1⟩, hM.1, hM.2, _, rfl, h.2⟩)
def w285_34 (M : MM) (P : Int32 → MM → Prop) : Prop := w285_35  (0 : Int32) M P
theorem t285_34 {sl : Nat} {sx : Nat → Int32} {d : Nat} {M0 : MM} {P : Int32 → MM → Prop}  (M : MM) (hM : lenO M0 M) (h : w285_34   M P) : R285 sl sx d M0 P 34 [none, none, none, none, none] [] M := by
  refine RN_k (callX_det _) 1 _ _ _ _ (show R285 sl sx d M0 P 35 [none, none, none, none, none] [vI (0 : Int32)] M from ?_)
  exact RN_weak (K := [none, none, none, none, none]) (callX_det _) (show True from trivial) (t285_35  (0 : Int32) _ hM h)
def w285 (l0 : Nat) (l1 : Int32) (l2 : Int32) (l3 : Int32) (l4 : Int32) (M : MM) (P : Int32 → MM → Prop) : Prop := kd M l0 10 ∧ w183 l0 l1 l2 M (fun r2 M1 => (r2 = 0 → (w285_34  M1 P)) ∧ (¬ (r2 = 0) → (kd M1 l0 10 ∧ w184 l0 l1 l2 M1 (fun r4 M3 => (r4 ≠ l3 → (w285_34  M3 P)) ∧ (¬ (r4 ≠ l3) → (kd M3 l0 10 ∧ w185 l0 l1 l2 M3 (fun r6 M5 => (r6 ≠ l4 → (w285_34  M5 P)) ∧ (¬ (r6 ≠ l4) → (w285_35  (1 : Int32) M5 P)))))))))
theorem t285_E {sl : Nat} {sx : Nat → Int32} {d : Nat} {M0 : MM} {P : Int32 → MM → Prop} (l0 : Nat) (l1 : Int32) (l2 : Int32) (l3 : Int32) (l4 : Int32) (M : MM) (hM : lenO M0 M) (h : w285  l0 l1 l2 l3 l4 M P) : R285 sl sx d M0 P 0 [some (vR (some l0)), some (vI l1), some (vI l2), some (vI l3), some (vI l4)] [] M := by
  refine RN_k (callX_det _) 4 _ _ _ _ (show kd M l0 10 ∧ callX TBg sl sx (d + 3) 183 [vR (some l0), vI l1, vI l2] M (fun v M9 => R285 sl sx d M0 P 6 [some (vR (some l0)), some (vI l1), some (vI l2), some (vI l3), some (vI l4)] (pushO v []) M9) from ⟨h.1, ?_⟩)
  replace h := h.2
  refine callX_mono (callX_len (d := (d + 3)) rfl rfl rfl (c183 (d := d) h)) ?_
  clear h
  rintro v9 M1 ⟨hl, r2, rfl, h⟩
  replace hM := lenT hM hl
  show R285 sl sx d M0 P 6 [some (vR (some l0)), some (vI l1), some (vI l2), some (vI l3), some (vI l4)] [vI r2] M1
  refine RN_k (callX_det _) 1 _ _ _ _ (show (r2 = 0 → R285 sl sx d M0 P 34 [some (vR (some l0)), some (vI l1), some (vI l2), some (vI l3), some (vI l4)] [] M1) ∧ (¬ (r2 = 0) → R285 sl sx d M0 P 9 [some (vR (some l0)), some (vI l1), some (vI l2), some (vI l3), some (vI l4)] [] M1) from ⟨fun hc => ?_, fun hc => ?_⟩)
  · replace h := h.1 hc
    exact RN_weak (K := [none, none, none, none, none]) (callX_det _) (show True from trivial) (t285_34   _ hM h)
  · replace h := h.2 hc
    refine RN_k (callX_det _) 4 _ _ _ _ (show kd M1 l0 10 ∧ callX TBg sl sx (d + 3) 184 [vR (some l0), vI l1, vI l2] M1 (fun v M9 => R285 sl sx d M0 P 15 [some (vR (some l0)), some (vI l1), some (vI l2), some (vI l3), some (vI l4)] (pushO v []) M9) from ⟨h.1, ?_⟩)
    replace h := h.2
    refine callX_mono (callX_len (d := (d + 3)) rfl rfl rfl (c184 (d := d + 1) h)) ?_
    clear h
    rintro v9 M3 ⟨hl, r4, rfl, h⟩
    replace hM := lenT hM hl
    show R285 sl sx d M0 P 15 [some (vR (some l0)), some (vI l1), some (vI l2), some (vI l3), some (vI l4)] [vI r4] M3
    refine RN_k (callX_det _) 2 _ _ _ _ (show (r4 ≠ l3 → R285 sl sx d M0 P 34 [some (vR (some l0)), some (vI l1), some (vI l2), some (vI l3), some (vI l4)] [] M3) ∧ (¬ (r4 ≠ l3) → R285 sl sx d M0 P 19 [some (vR (some l0)), some (vI l1), some (vI l2), some (vI l3), some (vI l4)] [] M3) from ⟨fun hc => ?_, fun hc => ?_⟩)
    · replace h := h.1 hc
      exact RN_weak (K := [none, none, none, none, none]) (callX_det _) (show True from trivial) (t285_34   _ hM h)
    · replace h := h.2 hc
      refine RN_k (callX_det _) 4 _ _ _ _ (show kd M3 l0 10 ∧ callX TBg sl sx (d + 3) 185 [vR (some l0), vI l1, vI l2] M3 (fun v M9 => R285 sl sx d M0 P 25 [some (vR (some l0)), some (vI l1), some (vI l2), some (vI l3), some (vI l4)] (pushO v []) M9) from ⟨h.1, ?_⟩)
      replace h := h.2
      refine callX_mono (callX_len (d := (d + 3)) rfl rfl rfl (c185 (d := d + 1) h)) ?_
      clear h
      rintro v9 M5 ⟨hl, r6, rfl, h⟩
      replace hM := lenT hM hl
      show R285 sl sx d M0 P 25 [some (vR (some l0)), some (vI l1), some (vI l2), some (vI l3), some (vI l4)] [vI r6] M5
      refine RN_k (callX_det _) 2 _ _ _ _ (show (r6 ≠ l4 → R285 sl sx d M0 P 34 [some (vR (some l0)), some (vI l1), some (vI l2), some (vI l3), some (vI l4)] [] M5) ∧ (¬ (r6 ≠ l4) → R285 sl sx d M0 P 30 [some (vR (some l0)), some (vI l1), some (vI l2), some (vI l3), some (vI l4)] [] M5) from ⟨fun hc => ?_, fun hc => ?_⟩)
      · replace h := h.1 hc
        exact RN_weak (K := [none, none, none, none, none]) (callX_det _) (show True from trivial) (t285_34   _ hM h)
      · replace h := h.2 hc
        refine RN_k (callX_det _) 2 _ _ _ _ (show R285 sl sx d M0 P 35 [some (vR (some l0)), some (vI l1), some (vI l2), some (vI l3), some (vI l4)] [vI (1 : Int32)] M5 from ?_)
        exact RN_weak (K := [none, none, none, none, none]) (callX_det _) (show True from trivial) (t285_35  (1 : Int32) _ hM h)
theorem c285 {sl : Nat} {sx : Nat → Int32} {d : Nat} {l0 : Nat} {l1 : Int32} {l2 : Int32} {l3 : Int32} {l4 : Int32} {M : MM} {P : Int32 → MM → Prop} (h : w285 l0 l1 l2 l3 l4 M P) : callX TBg sl sx (d + 4) 285 [vR (some l0), vI l1, vI l2, vI l3, vI l4] M (PI P) :=
  cX (d := d + 3) q285 (false, tb285) rfl rfl rfl (t285_E l0 l1 l2 l3 l4 M lenR h)
-- TwoLeashModel.keeps()V
abbrev q286 : MQ7 := (1, 1, 2, 10, 0, 0, 0)
abbrev R286 (sl : Nat) (sx : Nat → Int32) (d : Nat) (M0 : MM) (P : MM → Prop) : Nat → LL → List VV → MM → Prop := RN 10 false (mS M0).length (mT M0) 0 0 sl sx (callX TBg sl sx (d + 0)) (rtW q286 M0 (PV P)) (as2 tb286)
def w286_52 : Nat → Nat → Int32 → MM → (MM → Prop) → Prop
  | 0 => fun _ _ _ _ => False
  | n + 1 => fun l0 l1 M P => ((68 : Int32) ≤ l1 → (kd M l0 10 ∧ (kd M l0 10 ∧ (P (sI M l0 12 ((mI M l0 12) + (1 : Int32))))))) ∧ (¬ ((68 : Int32) ≤ l1) → (kd M l0 10 ∧ (kd M l0 10 ∧ (kd M l0 10 ∧ (∃ a1, mR M l0 0 = some a1 ∧ (inb M a1 11 l1 ∧ (∃ a2, mR M l0 2 = some a2 ∧ (inb M a2 11 (((68 : Int32) * (mI M l0 12)) + l1) ∧ (w286_52  n l0 (l1 + (1 : Int32)) (sI M a2 (((68 : Int32) * (mI M l0 12)) + l1).toNatClampNeg (mI M a1 l1.toNatClampNeg)) P)))))))))
theorem t286_52 {sl : Nat} {sx : Nat → Int32} {d : Nat} {M0 : MM} {P : MM → Prop} (n : Nat) : ∀ (l0 : Nat) (l1 : Int32) (M : MM) (_ : lenO M0 M) (_ : w286_52  n l0 l1 M P), R286 sl sx d M0 P 52 [some (vR (some l0)), some (vI l1)] [] M := by
  induction n with
  | zero => intro l0 l1 M hM h; cases h
  | succ n ih =>
    intro l0 l1 M hM h
    refine RN_k (callX_det _) 3 _ _ _ _ (show ((68 : Int32) ≤ l1 → R286 sl sx d M0 P 84 [some (vR (some l0)), some (vI l1)] [] M) ∧ (¬ ((68 : Int32) ≤ l1) → R286 sl sx d M0 P 58 [some (vR (some l0)), some (vI l1)] [] M) from ⟨fun hc => ?_, fun hc => ?_⟩)
    · replace h := h.1 hc
      refine RN_k (callX_det _) 3 _ _ _ _ (show kd M l0 10 ∧ R286 sl sx d M0 P 89 [some (vR (some l0)), some (vI l1)] [vI (mI M l0 12), vR (some l0)] M from ⟨h.1, ?_⟩)
      replace h := h.2
      refine RN_k (callX_det _) 3 _ _ _ _ (show kd M l0 10 ∧ R286 sl sx d M0 P 94 [some (vR (some l0)), some (vI l1)] [] (sI M l0 12 ((mI M l0 12) + (1 : Int32))) from ⟨h.1, ?_⟩)
      replace h := h.2
      exact RN_k (callX_det _) 1 _ _ _ _ (show rtW q286 M0 (PV P) none (sI M l0 12 ((mI M l0 12) + (1 : Int32))) from ⟨rfl, hM.1, hM.2, rfl, h⟩)
    · replace h := h.2 hc
      refine RN_k (callX_det _) 2 _ _ _ _ (show kd M l0 10 ∧ R286 sl sx d M0 P 62 [some (vR (some l0)), some (vI l1)] [vR (mR M l0 2)] M from ⟨h.1, ?_⟩)
      replace h := h.2
      refine RN_k (callX_det _) 3 _ _ _ _ (show kd M l0 10 ∧ R286 sl sx d M0 P 68 [some (vR (some l0)), some (vI l1)] [vI (mI M l0 12), vI (68 : Int32), vR (mR M l0 2)] M from ⟨h.1, ?_⟩)
      replace h := h.2
      refine RN_k (callX_det _) 5 _ _ _ _ (show kd M l0 10 ∧ R286 sl sx d M0 P 75 [some (vR (some l0)), some (vI l1)] [vR (mR M l0 0), vI (((68 : Int32) * (mI M l0 12)) + l1), vR (mR M l0 2)] M from ⟨h.1, ?_⟩)
      replace h := h.2
      obtain ⟨a1, he, h⟩ := h
      refine RN_k (callX_det _) 1 _ _ _ _ (show R286 sl sx d M0 P 76 [some (vR (some l0)), some (vI l1)] [vI l1, vR (mR M l0 0), vI (((68 : Int32) * (mI M l0 12)) + l1), vR (mR M l0 2)] M from ?_)
      rw [he]
      refine RN_k (callX_det _) 1 _ _ _ _ (show inb M a1 11 l1 ∧ R286 sl sx d M0 P 77 [some (vR (some l0)), some (vI l1)] [vI (mI M a1 l1.toNatClampNeg), vI (((68 : Int32) * (mI M l0 12)) + l1), vR (mR M l0 2)] M from ⟨h.1, ?_⟩)
      replace h := h.2
      obtain ⟨a2, he, h⟩ := h
      rw [he]
      refine RN_k (callX_det _) 1 _ _ _ _ (show inb M a2 11 (((68 : Int32) * (mI M l0 12)) + l1) ∧ R286 sl sx d M0 P 78 [some (vR (some l0)), some (vI l1)] [] (sI M a2 (((68 : Int32) * (mI M l0 12)) + l1).toNatClampNeg (mI M a1 l1.toNatClampNeg)) from ⟨h.1, ?_⟩)
      replace h := h.2
      refine RN_k (callX_det _) 2 _ _ _ _ (show R286 sl sx d M0 P 52 [some (vR (some l0)), some (vI (l1 + (1 : Int32)))] [] (sI M a2 (((68 : Int32) * (mI M l0 12)) + l1).toNatClampNeg (mI M a1 l1.toNatClampNeg)) from ?_)
      exact RN_weak (K := [some (vR (some l0)), some (vI (l1 + (1 : Int32)))]) (callX_det _) (show _ ∧ _ ∧ True from ⟨rfl, rfl, trivial⟩) (ih l0 (l1 + (1 : Int32)) _ hM h)
def w286_50 (l0 : Nat) (M : MM) (P : MM → Prop) : Prop := ∃ n2, w286_52  n2 l0 (0 : Int32) M P
theorem t286_50 {sl : Nat} {sx : Nat → Int32} {d : Nat} {M0 : MM} {P : MM → Prop} (l0 : Nat) (M : MM) (hM : lenO M0 M) (h : w286_50  l0 M P) : R286 sl sx d M0 P 50 [some (vR (some l0)), none] [] M := by
  refine RN_k (callX_det _) 2 _ _ _ _ (show R286 sl sx d M0 P 52 [some (vR (some l0)), some (vI (0 : Int32))] [] M from ?_)
  obtain ⟨n2, h⟩ := h
  exact RN_weak (K := [some (vR (some l0)), some (vI (0 : Int32))]) (callX_det _) (show _ ∧ _ ∧ True from ⟨rfl, rfl, trivial⟩) (t286_52  n2 l0 (0 : Int32) _ hM h)
def w286_12 : Nat → Nat → Int32 → MM → (MM → Prop) → Prop
  | 0 => fun _ _ _ _ => False
  | n + 1 => fun l0 l1 M P => ((680 : Int32) ≤ l1 → (kd M l0 10 ∧ (kd M l0 10 ∧ (w286_50  l0 (sI M l0 12 ((mI M l0 12) - (1 : Int32))) P)))) ∧ (¬ ((680 : Int32) ≤ l1) → (kd M l0 10 ∧ (kd M l0 10 ∧ (∃ a1, mR M l0 2 = some a1 ∧ (inb M a1 11 l1 ∧ (inb M a1 11 (l1 - (68 : Int32)) ∧ (w286_12  n l0 (l1 + (1 : Int32)) (sI M a1 (l1 - (68 : Int32)).toNatClampNeg (mI M a1 l1.toNatClampNeg)) P)))))))
theorem t286_12 {sl : Nat} {sx : Nat → Int32} {d : Nat} {M0 : MM} {P : MM → Prop} (n : Nat) : ∀ (l0 : Nat) (l1 : Int32) (M : MM) (_ : lenO M0 M) (_ : w286_12  n l0 l1 M P), R286 sl sx d M0 P 12 [some (vR (some l0)), some (vI l1)] [] M := by
  induction n with
  | zero => intro l0 l1 M hM h; cases h
  | succ n ih =>
    intro l0 l1 M hM h
    refine RN_k (callX_det _) 3 _ _ _ _ (show ((680 : Int32) ≤ l1 → R286 sl sx d M0 P 40 [some (vR (some l0)), some (vI l1)] [] M) ∧ (¬ ((680 : Int32) ≤ l1) → R286 sl sx d M0 P 19 [some (vR (some l0)), some (vI l1)] [] M) from ⟨fun hc => ?_, fun hc => ?_⟩)
    · replace h := h.1 hc
      refine RN_k (callX_det _) 3 _ _ _ _ (show kd M l0 10 ∧ R286 sl sx d M0 P 45 [some (vR (some l0)), some (vI l1)] [vI (mI M l0 12), vR (some l0)] M from ⟨h.1, ?_⟩)
      replace h := h.2
      refine RN_k (callX_det _) 3 _ _ _ _ (show kd M l0 10 ∧ R286 sl sx d M0 P 50 [some (vR (some l0)), some (vI l1)] [] (sI M l0 12 ((mI M l0 12) - (1 : Int32))) from ⟨h.1, ?_⟩)
      replace h := h.2
      exact RN_weak (K := [some (vR (some l0)), none]) (callX_det _) (show _ ∧ True from ⟨rfl, trivial⟩) (t286_50  l0 _ hM h)
    · replace h := h.2 hc
      refine RN_k (callX_det _) 2 _ _ _ _ (show kd M l0 10 ∧ R286 sl sx d M0 P 23 [some (vR (some l0)), some (vI l1)] [vR (mR M l0 2)] M from ⟨h.1, ?_⟩)
      replace h := h.2
      refine RN_k (callX_det _) 5 _ _ _ _ (show kd M l0 10 ∧ R286 sl sx d M0 P 31 [some (vR (some l0)), some (vI l1)] [vR (mR M l0 2), vI (l1 - (68 : Int32)), vR (mR M l0 2)] M from ⟨h.1, ?_⟩)
      replace h := h.2
      obtain ⟨a1, he, h⟩ := h
      refine RN_k (callX_det _) 1 _ _ _ _ (show R286 sl sx d M0 P 32 [some (vR (some l0)), some (vI l1)] [vI l1, vR (mR M l0 2), vI (l1 - (68 : Int32)), vR (mR M l0 2)] M from ?_)
      rw [he]
      refine RN_k (callX_det _) 1 _ _ _ _ (show inb M a1 11 l1 ∧ R286 sl sx d M0 P 33 [some (vR (some l0)), some (vI l1)] [vI (mI M a1 l1.toNatClampNeg), vI (l1 - (68 : Int32)), vR (some a1)] M from ⟨h.1, ?_⟩)
      replace h := h.2
      refine RN_k (callX_det _) 1 _ _ _ _ (show inb M a1 11 (l1 - (68 : Int32)) ∧ R286 sl sx d M0 P 34 [some (vR (some l0)), some (vI l1)] [] (sI M a1 (l1 - (68 : Int32)).toNatClampNeg (mI M a1 l1.toNatClampNeg)) from ⟨h.1, ?_⟩)
      replace h := h.2
      refine RN_k (callX_det _) 2 _ _ _ _ (show R286 sl sx d M0 P 12 [some (vR (some l0)), some (vI (l1 + (1 : Int32)))] [] (sI M a1 (l1 - (68 : Int32)).toNatClampNeg (mI M a1 l1.toNatClampNeg)) from ?_)
      exact RN_weak (K := [some (vR (some l0)), some (vI (l1 + (1 : Int32)))]) (callX_det _) (show _ ∧ _ ∧ True from ⟨rfl, rfl, trivial⟩) (ih l0 (l1 + (1 : Int32)) _ hM h)
def w286 (l0 : Nat) (M : MM) (P : MM → Prop) : Prop := kd M l0 10 ∧ (((mI M l0 12) ≠ (10 : Int32) → (w286_50  l0 M P)) ∧ (¬ ((mI M l0 12) ≠ (10 : Int32)) → (∃ n2, w286_12  n2 l0 (68 : Int32) M P)))
theorem t286_E {sl : Nat} {sx : Nat → Int32} {d : Nat} {M0 : MM} {P : MM → Prop} (l0 : Nat) (M : MM) (hM : lenO M0 M) (h : w286  l0 M P) : R286 sl sx d M0 P 0 [some (vR (some l0)), none] [] M := by
  refine RN_k (callX_det _) 2 _ _ _ _ (show kd M l0 10 ∧ R286 sl sx d M0 P 4 [some (vR (some l0)), none] [vI (mI M l0 12)] M from ⟨h.1, ?_⟩)
  replace h := h.2
  refine RN_k (callX_det _) 2 _ _ _ _ (show ((mI M l0 12) ≠ (10 : Int32) → R286 sl sx d M0 P 50 [some (vR (some l0)), none] [] M) ∧ (¬ ((mI M l0 12) ≠ (10 : Int32)) → R286 sl sx d M0 P 9 [some (vR (some l0)), none] [] M) from ⟨fun hc => ?_, fun hc => ?_⟩)
  · replace h := h.1 hc
    exact RN_weak (K := [some (vR (some l0)), none]) (callX_det _) (show _ ∧ True from ⟨rfl, trivial⟩) (t286_50  l0 _ hM h)
  · replace h := h.2 hc
    refine RN_k (callX_det _) 2 _ _ _ _ (show R286 sl sx d M0 P 12 [some (vR (some l0)), some (vI (68 : Int32))] [] M from ?_)
    obtain ⟨n2, h⟩ := h
    exact RN_weak (K := [some (vR (some l0)), some (vI (68 : Int32))]) (callX_det _) (show _ ∧ _ ∧ True from ⟨rfl, rfl, trivial⟩) (t286_12  n2 l0 (68 : Int32) _ hM h)
theorem c286 {sl : Nat} {sx : Nat → Int32} {d : Nat} {l0 : Nat} {M : MM} {P : MM → Prop} (h : w286 l0 M P) : callX TBg sl sx (d + 1) 286 [vR (some l0)] M (PV P) :=
  cX (d := d + 0) q286 (false, tb286) rfl rfl rfl (t286_E l0 M lenR h)
-- TwoLeashModel.move(IIII)I
abbrev q283 : MQ7 := (5, 1, 6, 10, 0, 0, 1)
abbrev R283 (sl : Nat) (sx : Nat → Int32) (d : Nat) (M0 : MM) (P : Int32 → MM → Prop) : Nat → LL → List VV → MM → Prop := RN 10 false (mS M0).length (mT M0) 0 0 sl sx (callX TBg sl sx (d + 4)) (rtW q283 M0 (PI P)) (as2 tb283)
def w283_70 (l0 : Nat) (M : MM) (P : Int32 → MM → Prop) : Prop := kd M l0 10 ∧ w167 l0 (4 : Int32) M (fun r2 M1 => P r2 M1)
theorem t283_70 {sl : Nat} {sx : Nat → Int32} {d : Nat} {M0 : MM} {P : Int32 → MM → Prop} (l0 : Nat) (M : MM) (hM : lenO M0 M) (h : w283_70  l0 M P) : R283 sl sx d M0 P 70 [some (vR (some l0)), none, none, none, none, none] [] M := by
  refine RN_k (callX_det _) 3 _ _ _ _ (show kd M l0 10 ∧ callX TBg sl sx (d + 4) 167 [vR (some l0), vI (4 : Int32)] M (fun v M9 => R283 sl sx d M0 P 75 [some (vR (some l0)), none, none, none, none, none] (pushO v []) M9) from ⟨h.1, ?_⟩)
  replace h := h.2
  refine callX_mono (callX_len (d := (d + 4)) rfl rfl rfl (c167 (d := d + 3) h)) ?_
  clear h
  rintro v9 M1 ⟨hl, r2, rfl, h⟩
  replace hM := lenT hM hl
  show R283 sl sx d M0 P 75 [some (vR (some l0)), none, none, none, none, none] [vI r2] M1
  exact RN_k (callX_det _) 1 _ _ _ _ (show rtW q283 M0 (PI P) (some (vI r2)) M1 from ⟨⟨_, rfl⟩, hM.1, hM.2, _, rfl, h⟩)
def w283 (l0 : Nat) (l1 : Int32) (l2 : Int32) (l3 : Int32) (l4 : Int32) (M : MM) (P : Int32 → MM → Prop) : Prop := w284 l3 l4 M (fun r2 M1 => (r2 ≠ 0 → (kd M1 l0 10 ∧ w183 l0 l1 l2 M1 (fun r4 M3 => (r4 ≠ 0 → (kd M3 l0 10 ∧ w285 l0 l1 l2 l3 l4 M3 (fun r6 M5 => (r6 ≠ 0 → (w283_70  l0 M5 P)) ∧ (¬ (r6 ≠ 0) → (kd M5 l0 10 ∧ w285 l0 l1 (l2 - (1 : Int32)) l3 l4 M5 (fun r8 M7 => (r8 ≠ 0 → (w283_70  l0 M7 P)) ∧ (¬ (r8 ≠ 0) → (kd M7 l0 10 ∧ w285 l0 l1 (l2 + (1 : Int32)) l3 l4 M7 (fun r10 M9 => (r10 = 0 → (kd M9 l0 10 ∧ w184 l0 l1 l2 M9 (fun r12 M11 => kd M11 l0 10 ∧ w185 l0 l1 l2 M11 (fun r14 M13 => w187 r12 r14 l3 l4 M13 (fun r16 M15 => kd M15 l0 10 ∧ w286 l0 M15 (fun M17 => kd M17 l0 10 ∧ (w174 l1 M17 (fun r19 M18 => ∃ a20, mR M17 l0 0 = some a20 ∧ (inb M18 a20 11 ((r19 + (1 : Int32)) + ((2 : Int32) * l2)) ∧ (kd (sI M18 a20 ((r19 + (1 : Int32)) + ((2 : Int32) * l2)).toNatClampNeg l3) l0 10 ∧ (w174 l1 (sI M18 a20 ((r19 + (1 : Int32)) + ((2 : Int32) * l2)).toNatClampNeg l3) (fun r22 M21 => ∃ a23, mR (sI M18 a20 ((r19 + (1 : Int32)) + ((2 : Int32) * l2)).toNatClampNeg l3) l0 0 = some a23 ∧ (inb M21 a23 11 ((r22 + (2 : Int32)) + ((2 : Int32) * l2)) ∧ (kd (sI M21 a23 ((r22 + (2 : Int32)) + ((2 : Int32) * l2)).toNatClampNeg l4) l0 10 ∧ w177 l0 r16 (sI M21 a23 ((r22 + (2 : Int32)) + ((2 : Int32) * l2)).toNatClampNeg l4) (fun r25 M24 => P r25 M24))))))))))))))) ∧ (¬ (r10 = 0) → (w283_70  l0 M9 P))))))))))) ∧ (¬ (r4 ≠ 0) → (kd M3 l0 10 ∧ w167 l0 (2 : Int32) M3 (fun r27 M26 => P r27 M26)))))) ∧ (¬ (r2 ≠ 0) → (kd M1 l0 10 ∧ w167 l0 (1 : Int32) M1 (fun r29 M28 => P r29 M28))))
theorem t283_E {sl : Nat} {sx : Nat → Int32} {d : Nat} {M0 : MM} {P : Int32 → MM → Prop} (l0 : Nat) (l1 : Int32) (l2 : Int32) (l3 : Int32) (l4 : Int32) (M : MM) (hM : lenO M0 M) (h : w283  l0 l1 l2 l3 l4 M P) : R283 sl sx d M0 P 0 [some (vR (some l0)), some (vI l1), some (vI l2), some (vI l3), some (vI l4), none] [] M := by
  refine RN_k (callX_det _) 3 _ _ _ _ (show callX TBg sl sx (d + 4) 284 [vI l3, vI l4] M (fun v M9 => R283 sl sx d M0 P 6 [some (vR (some l0)), some (vI l1), some (vI l2), some (vI l3), some (vI l4), none] (pushO v []) M9) from ?_)
  refine callX_mono (callX_len (d := (d + 4)) rfl rfl rfl (c284 (d := d + 2) h)) ?_
  clear h
  rintro v9 M1 ⟨hl, r2, rfl, h⟩
  replace hM := lenT hM hl
  show R283 sl sx d M0 P 6 [some (vR (some l0)), some (vI l1), some (vI l2), some (vI l3), some (vI l4), none] [vI r2] M1
  refine RN_k (callX_det _) 1 _ _ _ _ (show (r2 ≠ 0 → R283 sl sx d M0 P 15 [some (vR (some l0)), some (vI l1), some (vI l2), some (vI l3), some (vI l4), none] [] M1) ∧ (¬ (r2 ≠ 0) → R283 sl sx d M0 P 9 [some (vR (some l0)), some (vI l1), some (vI l2), some (vI l3), some (vI l4), none] [] M1) from ⟨fun hc => ?_, fun hc => ?_⟩)
  · replace h := h.1 hc
    refine RN_k (callX_det _) 4 _ _ _ _ (show kd M1 l0 10 ∧ callX TBg sl sx (d + 4) 183 [vR (some l0), vI l1, vI l2] M1 (fun v M9 => R283 sl sx d M0 P 21 [some (vR (some l0)), some (vI l1), some (vI l2), some (vI l3), some (vI l4), none] (pushO v []) M9) from ⟨h.1, ?_⟩)
    replace h := h.2
    refine callX_mono (callX_len (d := (d + 4)) rfl rfl rfl (c183 (d := d + 1) h)) ?_
    clear h
    rintro v9 M3 ⟨hl, r4, rfl, h⟩
    replace hM := lenT hM hl
    show R283 sl sx d M0 P 21 [some (vR (some l0)), some (vI l1), some (vI l2), some (vI l3), some (vI l4), none] [vI r4] M3
    refine RN_k (callX_det _) 1 _ _ _ _ (show (r4 ≠ 0 → R283 sl sx d M0 P 30 [some (vR (some l0)), some (vI l1), some (vI l2), some (vI l3), some (vI l4), none] [] M3) ∧ (¬ (r4 ≠ 0) → R283 sl sx d M0 P 24 [some (vR (some l0)), some (vI l1), some (vI l2), some (vI l3), some (vI l4), none] [] M3) from ⟨fun hc => ?_, fun hc => ?_⟩)
    · replace h := h.1 hc
      refine RN_k (callX_det _) 6 _ _ _ _ (show kd M3 l0 10 ∧ callX TBg sl sx (d + 4) 285 [vR (some l0), vI l1, vI l2, vI l3, vI l4] M3 (fun v M9 => R283 sl sx d M0 P 39 [some (vR (some l0)), some (vI l1), some (vI l2), some (vI l3), some (vI l4), none] (pushO v []) M9) from ⟨h.1, ?_⟩)
      replace h := h.2
      refine callX_mono (callX_len (d := (d + 4)) rfl rfl rfl (c285 (d := d) h)) ?_
      clear h
      rintro v9 M5 ⟨hl, r6, rfl, h⟩
      replace hM := lenT hM hl
      show R283 sl sx d M0 P 39 [some (vR (some l0)), some (vI l1), some (vI l2), some (vI l3), some (vI l4), none] [vI r6] M5
      refine RN_k (callX_det _) 1 _ _ _ _ (show (r6 ≠ 0 → R283 sl sx d M0 P 70 [some (vR (some l0)), some (vI l1), some (vI l2), some (vI l3), some (vI l4), none] [] M5) ∧ (¬ (r6 ≠ 0) → R283 sl sx d M0 P 42 [some (vR (some l0)), some (vI l1), some (vI l2), some (vI l3), some (vI l4), none] [] M5) from ⟨fun hc => ?_, fun hc => ?_⟩)
      · replace h := h.1 hc
        exact RN_weak (K := [some (vR (some l0)), none, none, none, none, none]) (callX_det _) (show _ ∧ True from ⟨rfl, trivial⟩) (t283_70  l0 _ hM h)
      · replace h := h.2 hc
        refine RN_k (callX_det _) 8 _ _ _ _ (show kd M5 l0 10 ∧ callX TBg sl sx (d + 4) 285 [vR (some l0), vI l1, vI (l2 - (1 : Int32)), vI l3, vI l4] M5 (fun v M9 => R283 sl sx d M0 P 53 [some (vR (some l0)), some (vI l1), some (vI l2), some (vI l3), some (vI l4), none] (pushO v []) M9) from ⟨h.1, ?_⟩)
        replace h := h.2
        refine callX_mono (callX_len (d := (d + 4)) rfl rfl rfl (c285 (d := d) h)) ?_
        clear h
        rintro v9 M7 ⟨hl, r8, rfl, h⟩
        replace hM := lenT hM hl
        show R283 sl sx d M0 P 53 [some (vR (some l0)), some (vI l1), some (vI l2), some (vI l3), some (vI l4), none] [vI r8] M7
        refine RN_k (callX_det _) 1 _ _ _ _ (show (r8 ≠ 0 → R283 sl sx d M0 P 70 [some (vR (some l0)), some (vI l1), some (vI l2), some (vI l3), some (vI l4), none] [] M7) ∧ (¬ (r8 ≠ 0) → R283 sl sx d M0 P 56 [some (vR (some l0)), some (vI l1), some (vI l2), some (vI l3), some (vI l4), none] [] M7) from ⟨fun hc => ?_, fun hc => ?_⟩)
        · replace h := h.1 hc
          exact RN_weak (K := [some (vR (some l0)), none, none, none, none, none]) (callX_det _) (show _ ∧ True from ⟨rfl, trivial⟩) (t283_70  l0 _ hM h)
        · replace h := h.2 hc
          refine RN_k (callX_det _) 8 _ _ _ _ (show kd M7 l0 10 ∧ callX TBg sl sx (d + 4) 285 [vR (some l0), vI l1, vI (l2 + (1 : Int32)), vI l3, vI l4] M7 (fun v M9 => R283 sl sx d M0 P 67 [some (vR (some l0)), some (vI l1), some (vI l2), some (vI l3), some (vI l4), none] (pushO v []) M9) from ⟨h.1, ?_⟩)
          replace h := h.2
          refine callX_mono (callX_len (d := (d + 4)) rfl rfl rfl (c285 (d := d) h)) ?_
          clear h
          rintro v9 M9 ⟨hl, r10, rfl, h⟩
          replace hM := lenT hM hl
          show R283 sl sx d M0 P 67 [some (vR (some l0)), some (vI l1), some (vI l2), some (vI l3), some (vI l4), none] [vI r10] M9
          refine RN_k (callX_det _) 1 _ _ _ _ (show (r10 = 0 → R283 sl sx d M0 P 76 [some (vR (some l0)), some (vI l1), some (vI l2), some (vI l3), some (vI l4), none] [] M9) ∧ (¬ (r10 = 0) → R283 sl sx d M0 P 70 [some (vR (some l0)), some (vI l1), some (vI l2), some (vI l3), some (vI l4), none] [] M9) from ⟨fun hc => ?_, fun hc => ?_⟩)
          · replace h := h.1 hc
            refine RN_k (callX_det _) 4 _ _ _ _ (show kd M9 l0 10 ∧ callX TBg sl sx (d + 4) 184 [vR (some l0), vI l1, vI l2] M9 (fun v M9 => R283 sl sx d M0 P 82 [some (vR (some l0)), some (vI l1), some (vI l2), some (vI l3), some (vI l4), none] (pushO v []) M9) from ⟨h.1, ?_⟩)
            replace h := h.2
            refine callX_mono (callX_len (d := (d + 4)) rfl rfl rfl (c184 (d := d + 2) h)) ?_
            clear h
            rintro v9 M11 ⟨hl, r12, rfl, h⟩
            replace hM := lenT hM hl
            show R283 sl sx d M0 P 82 [some (vR (some l0)), some (vI l1), some (vI l2), some (vI l3), some (vI l4), none] [vI r12] M11
            refine RN_k (callX_det _) 4 _ _ _ _ (show kd M11 l0 10 ∧ callX TBg sl sx (d + 4) 185 [vR (some l0), vI l1, vI l2] M11 (fun v M9 => R283 sl sx d M0 P 88 [some (vR (some l0)), some (vI l1), some (vI l2), some (vI l3), some (vI l4), none] (pushO v [vI r12]) M9) from ⟨h.1, ?_⟩)
            replace h := h.2
            refine callX_mono (callX_len (d := (d + 4)) rfl rfl rfl (c185 (d := d + 2) h)) ?_
            clear h
            rintro v9 M13 ⟨hl, r14, rfl, h⟩
            replace hM := lenT hM hl
            show R283 sl sx d M0 P 88 [some (vR (some l0)), some (vI l1), some (vI l2), some (vI l3), some (vI l4), none] [vI r14, vI r12] M13
            refine RN_k (callX_det _) 3 _ _ _ _ (show callX TBg sl sx (d + 4) 187 [vI r12, vI r14, vI l3, vI l4] M13 (fun v M9 => R283 sl sx d M0 P 94 [some (vR (some l0)), some (vI l1), some (vI l2), some (vI l3), some (vI l4), none] (pushO v []) M9) from ?_)
            refine callX_mono (callX_len (d := (d + 4)) rfl rfl rfl (c187 (d := d + 3) h)) ?_
            clear h
            rintro v9 M15 ⟨hl, r16, rfl, h⟩
            replace hM := lenT hM hl
            show R283 sl sx d M0 P 94 [some (vR (some l0)), some (vI l1), some (vI l2), some (vI l3), some (vI l4), none] [vI r16] M15
            refine RN_k (callX_det _) 3 _ _ _ _ (show kd M15 l0 10 ∧ callX TBg sl sx (d + 4) 286 [vR (some l0)] M15 (fun v M9 => R283 sl sx d M0 P 100 [some (vR (some l0)), some (vI l1), some (vI l2), some (vI l3), some (vI l4), some (vI r16)] (pushO v []) M9) from ⟨h.1, ?_⟩)
            replace h := h.2
            refine callX_mono (callX_len (d := (d + 4)) rfl rfl rfl (c286 (d := d + 3) h)) ?_
            clear h
            rintro v9 M17 ⟨hl, rfl, h⟩
            replace hM := lenT hM hl
            show R283 sl sx d M0 P 100 [some (vR (some l0)), some (vI l1), some (vI l2), some (vI l3), some (vI l4), some (vI r16)] [] M17
            refine RN_k (callX_det _) 2 _ _ _ _ (show kd M17 l0 10 ∧ R283 sl sx d M0 P 104 [some (vR (some l0)), some (vI l1), some (vI l2), some (vI l3), some (vI l4), some (vI r16)] [vR (mR M17 l0 0)] M17 from ⟨h.1, ?_⟩)
            replace h := h.2
            refine RN_k (callX_det _) 2 _ _ _ _ (show callX TBg sl sx (d + 4) 174 [vI l1] M17 (fun v M9 => R283 sl sx d M0 P 108 [some (vR (some l0)), some (vI l1), some (vI l2), some (vI l3), some (vI l4), some (vI r16)] (pushO v [vR (mR M17 l0 0)]) M9) from ?_)
            refine callX_mono (callX_len (d := (d + 4)) rfl rfl rfl (c174 (d := d + 3) h)) ?_
            clear h
            rintro v9 M18 ⟨hl, r19, rfl, h⟩
            replace hM := lenT hM hl
            show R283 sl sx d M0 P 108 [some (vR (some l0)), some (vI l1), some (vI l2), some (vI l3), some (vI l4), some (vI r16)] [vI r19, vR (mR M17 l0 0)] M18
            obtain ⟨a20, he, h⟩ := h
            refine RN_k (callX_det _) 7 _ _ _ _ (show R283 sl sx d M0 P 115 [some (vR (some l0)), some (vI l1), some (vI l2), some (vI l3), some (vI l4), some (vI r16)] [vI l3, vI ((r19 + (1 : Int32)) + ((2 : Int32) * l2)), vR (mR M17 l0 0)] M18 from ?_)
            rw [he]
            refine RN_k (callX_det _) 1 _ _ _ _ (show inb M18 a20 11 ((r19 + (1 : Int32)) + ((2 : Int32) * l2)) ∧ R283 sl sx d M0 P 116 [some (vR (some l0)), some (vI l1), some (vI l2), some (vI l3), some (vI l4), some (vI r16)] [] (sI M18 a20 ((r19 + (1 : Int32)) + ((2 : Int32) * l2)).toNatClampNeg l3) from ⟨h.1, ?_⟩)
            replace h := h.2
            refine RN_k (callX_det _) 2 _ _ _ _ (show kd (sI M18 a20 ((r19 + (1 : Int32)) + ((2 : Int32) * l2)).toNatClampNeg l3) l0 10 ∧ R283 sl sx d M0 P 120 [some (vR (some l0)), some (vI l1), some (vI l2), some (vI l3), some (vI l4), some (vI r16)] [vR (mR (sI M18 a20 ((r19 + (1 : Int32)) + ((2 : Int32) * l2)).toNatClampNeg l3) l0 0)] (sI M18 a20 ((r19 + (1 : Int32)) + ((2 : Int32) * l2)).toNatClampNeg l3) from ⟨h.1, ?_⟩)
            replace h := h.2
            refine RN_k (callX_det _) 2 _ _ _ _ (show callX TBg sl sx (d + 4) 174 [vI l1] (sI M18 a20 ((r19 + (1 : Int32)) + ((2 : Int32) * l2)).toNatClampNeg l3) (fun v M9 => R283 sl sx d M0 P 124 [some (vR (some l0)), some (vI l1), some (vI l2), some (vI l3), some (vI l4), some (vI r16)] (pushO v [vR (mR (sI M18 a20 ((r19 + (1 : Int32)) + ((2 : Int32) * l2)).toNatClampNeg l3) l0 0)]) M9) from ?_)
            refine callX_mono (callX_len (d := (d + 4)) rfl rfl rfl (c174 (d := d + 3) h)) ?_
            clear h
            rintro v9 M21 ⟨hl, r22, rfl, h⟩
            replace hM := lenT hM hl
            show R283 sl sx d M0 P 124 [some (vR (some l0)), some (vI l1), some (vI l2), some (vI l3), some (vI l4), some (vI r16)] [vI r22, vR (mR (sI M18 a20 ((r19 + (1 : Int32)) + ((2 : Int32) * l2)).toNatClampNeg l3) l0 0)] M21
            obtain ⟨a23, he, h⟩ := h
            refine RN_k (callX_det _) 7 _ _ _ _ (show R283 sl sx d M0 P 132 [some (vR (some l0)), some (vI l1), some (vI l2), some (vI l3), some (vI l4), some (vI r16)] [vI l4, vI ((r22 + (2 : Int32)) + ((2 : Int32) * l2)), vR (mR (sI M18 a20 ((r19 + (1 : Int32)) + ((2 : Int32) * l2)).toNatClampNeg l3) l0 0)] M21 from ?_)
            rw [he]
            refine RN_k (callX_det _) 1 _ _ _ _ (show inb M21 a23 11 ((r22 + (2 : Int32)) + ((2 : Int32) * l2)) ∧ R283 sl sx d M0 P 133 [some (vR (some l0)), some (vI l1), some (vI l2), some (vI l3), some (vI l4), some (vI r16)] [] (sI M21 a23 ((r22 + (2 : Int32)) + ((2 : Int32) * l2)).toNatClampNeg l4) from ⟨h.1, ?_⟩)
            replace h := h.2
            refine RN_k (callX_det _) 3 _ _ _ _ (show kd (sI M21 a23 ((r22 + (2 : Int32)) + ((2 : Int32) * l2)).toNatClampNeg l4) l0 10 ∧ callX TBg sl sx (d + 4) 177 [vR (some l0), vI r16] (sI M21 a23 ((r22 + (2 : Int32)) + ((2 : Int32) * l2)).toNatClampNeg l4) (fun v M9 => R283 sl sx d M0 P 139 [some (vR (some l0)), some (vI l1), some (vI l2), some (vI l3), some (vI l4), some (vI r16)] (pushO v []) M9) from ⟨h.1, ?_⟩)
            replace h := h.2
            refine callX_mono (callX_len (d := (d + 4)) rfl rfl rfl (c177 (d := d + 3) h)) ?_
            clear h
            rintro v9 M24 ⟨hl, r25, rfl, h⟩
            replace hM := lenT hM hl
            show R283 sl sx d M0 P 139 [some (vR (some l0)), some (vI l1), some (vI l2), some (vI l3), some (vI l4), some (vI r16)] [vI r25] M24
            exact RN_k (callX_det _) 1 _ _ _ _ (show rtW q283 M0 (PI P) (some (vI r25)) M24 from ⟨⟨_, rfl⟩, hM.1, hM.2, _, rfl, h⟩)
          · replace h := h.2 hc
            exact RN_weak (K := [some (vR (some l0)), none, none, none, none, none]) (callX_det _) (show _ ∧ True from ⟨rfl, trivial⟩) (t283_70  l0 _ hM h)
    · replace h := h.2 hc
      refine RN_k (callX_det _) 3 _ _ _ _ (show kd M3 l0 10 ∧ callX TBg sl sx (d + 4) 167 [vR (some l0), vI (2 : Int32)] M3 (fun v M9 => R283 sl sx d M0 P 29 [some (vR (some l0)), some (vI l1), some (vI l2), some (vI l3), some (vI l4), none] (pushO v []) M9) from ⟨h.1, ?_⟩)
      replace h := h.2
      refine callX_mono (callX_len (d := (d + 4)) rfl rfl rfl (c167 (d := d + 3) h)) ?_
      clear h
      rintro v9 M26 ⟨hl, r27, rfl, h⟩
      replace hM := lenT hM hl
      show R283 sl sx d M0 P 29 [some (vR (some l0)), some (vI l1), some (vI l2), some (vI l3), some (vI l4), none] [vI r27] M26
      exact RN_k (callX_det _) 1 _ _ _ _ (show rtW q283 M0 (PI P) (some (vI r27)) M26 from ⟨⟨_, rfl⟩, hM.1, hM.2, _, rfl, h⟩)
  · replace h := h.2 hc
    refine RN_k (callX_det _) 3 _ _ _ _ (show kd M1 l0 10 ∧ callX TBg sl sx (d + 4) 167 [vR (some l0), vI (1 : Int32)] M1 (fun v M9 => R283 sl sx d M0 P 14 [some (vR (some l0)), some (vI l1), some (vI l2), some (vI l3), some (vI l4), none] (pushO v []) M9) from ⟨h.1, ?_⟩)
    replace h := h.2
    refine callX_mono (callX_len (d := (d + 4)) rfl rfl rfl (c167 (d := d + 3) h)) ?_
    clear h
    rintro v9 M28 ⟨hl, r29, rfl, h⟩
    replace hM := lenT hM hl
    show R283 sl sx d M0 P 14 [some (vR (some l0)), some (vI l1), some (vI l2), some (vI l3), some (vI l4), none] [vI r29] M28
    exact RN_k (callX_det _) 1 _ _ _ _ (show rtW q283 M0 (PI P) (some (vI r29)) M28 from ⟨⟨_, rfl⟩, hM.1, hM.2, _, rfl, h⟩)
theorem c283 {sl : Nat} {sx : Nat → Int32} {d : Nat} {l0 : Nat} {l1 : Int32} {l2 : Int32} {l3 : Int32} {l4 : Int32} {M : MM} {P : Int32 → MM → Prop} (h : w283 l0 l1 l2 l3 l4 M P) : callX TBg sl sx (d + 5) 283 [vR (some l0), vI l1, vI l2, vI l3, vI l4] M (PI P) :=
  cX (d := d + 4) q283 (false, tb283) rfl rfl rfl (t283_E l0 l1 l2 l3 l4 M lenR h)
-- TwoLeashModel.add(IIII)I
abbrev q287 : MQ7 := (5, 1, 7, 10, 0, 0, 1)
abbrev R287 (sl : Nat) (sx : Nat → Int32) (d : Nat) (M0 : MM) (P : Int32 → MM → Prop) : Nat → LL → List VV → MM → Prop := RN 10 false (mS M0).length (mT M0) 0 0 sl sx (callX TBg sl sx (d + 4)) (rtW q287 M0 (PI P)) (as2 tb287)
def w287_36 (l0 : Nat) (M : MM) (P : Int32 → MM → Prop) : Prop := kd M l0 10 ∧ w167 l0 (2 : Int32) M (fun r2 M1 => P r2 M1)
theorem t287_36 {sl : Nat} {sx : Nat → Int32} {d : Nat} {M0 : MM} {P : Int32 → MM → Prop} (l0 : Nat) (M : MM) (hM : lenO M0 M) (h : w287_36  l0 M P) : R287 sl sx d M0 P 36 [some (vR (some l0)), none, none, none, none, none, none] [] M := by
  refine RN_k (callX_det _) 3 _ _ _ _ (show kd M l0 10 ∧ callX TBg sl sx (d + 4) 167 [vR (some l0), vI (2 : Int32)] M (fun v M9 => R287 sl sx d M0 P 41 [some (vR (some l0)), none, none, none, none, none, none] (pushO v []) M9) from ⟨h.1, ?_⟩)
  replace h := h.2
  refine callX_mono (callX_len (d := (d + 4)) rfl rfl rfl (c167 (d := d + 3) h)) ?_
  clear h
  rintro v9 M1 ⟨hl, r2, rfl, h⟩
  replace hM := lenT hM hl
  show R287 sl sx d M0 P 41 [some (vR (some l0)), none, none, none, none, none, none] [vI r2] M1
  exact RN_k (callX_det _) 1 _ _ _ _ (show rtW q287 M0 (PI P) (some (vI r2)) M1 from ⟨⟨_, rfl⟩, hM.1, hM.2, _, rfl, h⟩)
def w287_187 (l0 : Nat) (l5 : Int32) (M : MM) (P : Int32 → MM → Prop) : Prop := kd M l0 10 ∧ (∃ a1, mR M l0 0 = some a1 ∧ (inb M a1 11 l5 ∧ (kd M l0 10 ∧ w177 l0 (mI M a1 l5.toNatClampNeg) M (fun r3 M2 => P r3 M2))))
theorem t287_187 {sl : Nat} {sx : Nat → Int32} {d : Nat} {M0 : MM} {P : Int32 → MM → Prop} (l0 : Nat) (l5 : Int32) (M : MM) (hM : lenO M0 M) (h : w287_187  l0 l5 M P) : R287 sl sx d M0 P 187 [some (vR (some l0)), none, none, none, none, some (vI l5), none] [] M := by
  refine RN_k (callX_det _) 3 _ _ _ _ (show kd M l0 10 ∧ R287 sl sx d M0 P 192 [some (vR (some l0)), none, none, none, none, some (vI l5), none] [vR (mR M l0 0), vR (some l0)] M from ⟨h.1, ?_⟩)
  replace h := h.2
  obtain ⟨a1, he, h⟩ := h
  refine RN_k (callX_det _) 1 _ _ _ _ (show R287 sl sx d M0 P 194 [some (vR (some l0)), none, none, none, none, some (vI l5), none] [vI l5, vR (mR M l0 0), vR (some l0)] M from ?_)
  rw [he]
  refine RN_k (callX_det _) 1 _ _ _ _ (show inb M a1 11 l5 ∧ R287 sl sx d M0 P 195 [some (vR (some l0)), none, none, none, none, some (vI l5), none] [vI (mI M a1 l5.toNatClampNeg), vR (some l0)] M from ⟨h.1, ?_⟩)
  replace h := h.2
  refine RN_k (callX_det _) 1 _ _ _ _ (show kd M l0 10 ∧ callX TBg sl sx (d + 4) 177 [vR (some l0), vI (mI M a1 l5.toNatClampNeg)] M (fun v M9 => R287 sl sx d M0 P 198 [some (vR (some l0)), none, none, none, none, some (vI l5), none] (pushO v []) M9) from ⟨h.1, ?_⟩)
  replace h := h.2
  refine callX_mono (callX_len (d := (d + 4)) rfl rfl rfl (c177 (d := d + 3) h)) ?_
  clear h
  rintro v9 M2 ⟨hl, r3, rfl, h⟩
  replace hM := lenT hM hl
  show R287 sl sx d M0 P 198 [some (vR (some l0)), none, none, none, none, some (vI l5), none] [vI r3] M2
  exact RN_k (callX_det _) 1 _ _ _ _ (show rtW q287 M0 (PI P) (some (vI r3)) M2 from ⟨⟨_, rfl⟩, hM.1, hM.2, _, rfl, h⟩)
def w287_111 : Nat → Nat → Int32 → Int32 → Int32 → Int32 → Int32 → MM → (Int32 → MM → Prop) → Prop
  | 0 => fun _ _ _ _ _ _ _ _ => False
  | n + 1 => fun l0 l2 l3 l4 l5 l6 M P => (l6 ≤ ((2 : Int32) * l2) → (kd M l0 10 ∧ (∃ a1, mR M l0 0 = some a1 ∧ (inb M a1 11 ((l5 + (1 : Int32)) + ((2 : Int32) * l2)) ∧ (kd (sI M a1 ((l5 + (1 : Int32)) + ((2 : Int32) * l2)).toNatClampNeg l3) l0 10 ∧ (∃ a2, mR (sI M a1 ((l5 + (1 : Int32)) + ((2 : Int32) * l2)).toNatClampNeg l3) l0 0 = some a2 ∧ (inb (sI M a1 ((l5 + (1 : Int32)) + ((2 : Int32) * l2)).toNatClampNeg l3) a2 11 ((l5 + (2 : Int32)) + ((2 : Int32) * l2)) ∧ (kd (sI (sI M a1 ((l5 + (1 : Int32)) + ((2 : Int32) * l2)).toNatClampNeg l3) a2 ((l5 + (2 : Int32)) + ((2 : Int32) * l2)).toNatClampNeg l4) l0 10 ∧ (∃ a3, mR (sI (sI M a1 ((l5 + (1 : Int32)) + ((2 : Int32) * l2)).toNatClampNeg l3) a2 ((l5 + (2 : Int32)) + ((2 : Int32) * l2)).toNatClampNeg l4) l0 0 = some a3 ∧ (inb (sI (sI M a1 ((l5 + (1 : Int32)) + ((2 : Int32) * l2)).toNatClampNeg l3) a2 ((l5 + (2 : Int32)) + ((2 : Int32) * l2)).toNatClampNeg l4) a3 11 l5 ∧ (inb (sI (sI M a1 ((l5 + (1 : Int32)) + ((2 : Int32) * l2)).toNatClampNeg l3) a2 ((l5 + (2 : Int32)) + ((2 : Int32) * l2)).toNatClampNeg l4) a3 11 l5 ∧ (w287_187  l0 l5 (sI (sI (sI M a1 ((l5 + (1 : Int32)) + ((2 : Int32) * l2)).toNatClampNeg l3) a2 ((l5 + (2 : Int32)) + ((2 : Int32) * l2)).toNatClampNeg l4) a3 l5.toNatClampNeg ((mI (sI (sI M a1 ((l5 + (1 : Int32)) + ((2 : Int32) * l2)).toNatClampNeg l3) a2 ((l5 + (2 : Int32)) + ((2 : Int32) * l2)).toNatClampNeg l4) a3 l5.toNatClampNeg) + (1 : Int32))) P)))))))))))) ∧ (¬ (l6 ≤ ((2 : Int32) * l2)) → (kd M l0 10 ∧ (kd M l0 10 ∧ (∃ a4, mR M l0 0 = some a4 ∧ (inb M a4 11 (l5 + l6) ∧ (inb M a4 11 ((l5 + (2 : Int32)) + l6) ∧ (w287_111  n l0 l2 l3 l4 l5 (l6 + (-1 : Int32)) (sI M a4 ((l5 + (2 : Int32)) + l6).toNatClampNeg (mI M a4 (l5 + l6).toNatClampNeg)) P)))))))
theorem t287_111 {sl : Nat} {sx : Nat → Int32} {d : Nat} {M0 : MM} {P : Int32 → MM → Prop} (n : Nat) : ∀ (l0 : Nat) (l2 : Int32) (l3 : Int32) (l4 : Int32) (l5 : Int32) (l6 : Int32) (M : MM) (_ : lenO M0 M) (_ : w287_111  n l0 l2 l3 l4 l5 l6 M P), R287 sl sx d M0 P 111 [some (vR (some l0)), none, some (vI l2), some (vI l3), some (vI l4), some (vI l5), some (vI l6)] [] M := by
  induction n with
  | zero => intro l0 l2 l3 l4 l5 l6 M hM h; cases h
  | succ n ih =>
    intro l0 l2 l3 l4 l5 l6 M hM h
    refine RN_k (callX_det _) 5 _ _ _ _ (show (l6 ≤ ((2 : Int32) * l2) → R287 sl sx d M0 P 147 [some (vR (some l0)), none, some (vI l2), some (vI l3), some (vI l4), some (vI l5), some (vI l6)] [] M) ∧ (¬ (l6 ≤ ((2 : Int32) * l2)) → R287 sl sx d M0 P 119 [some (vR (some l0)), none, some (vI l2), some (vI l3), some (vI l4), some (vI l5), some (vI l6)] [] M) from ⟨fun hc => ?_, fun hc => ?_⟩)
    · replace h := h.1 hc
      refine RN_k (callX_det _) 2 _ _ _ _ (show kd M l0 10 ∧ R287 sl sx d M0 P 151 [some (vR (some l0)), none, some (vI l2), some (vI l3), some (vI l4), some (vI l5), some (vI l6)] [vR (mR M l0 0)] M from ⟨h.1, ?_⟩)
      replace h := h.2
      obtain ⟨a1, he, h⟩ := h
      refine RN_k (callX_det _) 8 _ _ _ _ (show R287 sl sx d M0 P 160 [some (vR (some l0)), none, some (vI l2), some (vI l3), some (vI l4), some (vI l5), some (vI l6)] [vI l3, vI ((l5 + (1 : Int32)) + ((2 : Int32) * l2)), vR (mR M l0 0)] M from ?_)
      rw [he]
      refine RN_k (callX_det _) 1 _ _ _ _ (show inb M a1 11 ((l5 + (1 : Int32)) + ((2 : Int32) * l2)) ∧ R287 sl sx d M0 P 161 [some (vR (some l0)), none, some (vI l2), some (vI l3), some (vI l4), some (vI l5), some (vI l6)] [] (sI M a1 ((l5 + (1 : Int32)) + ((2 : Int32) * l2)).toNatClampNeg l3) from ⟨h.1, ?_⟩)
      replace h := h.2
      refine RN_k (callX_det _) 2 _ _ _ _ (show kd (sI M a1 ((l5 + (1 : Int32)) + ((2 : Int32) * l2)).toNatClampNeg l3) l0 10 ∧ R287 sl sx d M0 P 165 [some (vR (some l0)), none, some (vI l2), some (vI l3), some (vI l4), some (vI l5), some (vI l6)] [vR (mR (sI M a1 ((l5 + (1 : Int32)) + ((2 : Int32) * l2)).toNatClampNeg l3) l0 0)] (sI M a1 ((l5 + (1 : Int32)) + ((2 : Int32) * l2)).toNatClampNeg l3) from ⟨h.1, ?_⟩)
      replace h := h.2
      obtain ⟨a2, he, h⟩ := h
      refine RN_k (callX_det _) 8 _ _ _ _ (show R287 sl sx d M0 P 175 [some (vR (some l0)), none, some (vI l2), some (vI l3), some (vI l4), some (vI l5), some (vI l6)] [vI l4, vI ((l5 + (2 : Int32)) + ((2 : Int32) * l2)), vR (mR (sI M a1 ((l5 + (1 : Int32)) + ((2 : Int32) * l2)).toNatClampNeg l3) l0 0)] (sI M a1 ((l5 + (1 : Int32)) + ((2 : Int32) * l2)).toNatClampNeg l3) from ?_)
      rw [he]
      refine RN_k (callX_det _) 1 _ _ _ _ (show inb (sI M a1 ((l5 + (1 : Int32)) + ((2 : Int32) * l2)).toNatClampNeg l3) a2 11 ((l5 + (2 : Int32)) + ((2 : Int32) * l2)) ∧ R287 sl sx d M0 P 176 [some (vR (some l0)), none, some (vI l2), some (vI l3), some (vI l4), some (vI l5), some (vI l6)] [] (sI (sI M a1 ((l5 + (1 : Int32)) + ((2 : Int32) * l2)).toNatClampNeg l3) a2 ((l5 + (2 : Int32)) + ((2 : Int32) * l2)).toNatClampNeg l4) from ⟨h.1, ?_⟩)
      replace h := h.2
      refine RN_k (callX_det _) 2 _ _ _ _ (show kd (sI (sI M a1 ((l5 + (1 : Int32)) + ((2 : Int32) * l2)).toNatClampNeg l3) a2 ((l5 + (2 : Int32)) + ((2 : Int32) * l2)).toNatClampNeg l4) l0 10 ∧ R287 sl sx d M0 P 180 [some (vR (some l0)), none, some (vI l2), some (vI l3), some (vI l4), some (vI l5), some (vI l6)] [vR (mR (sI (sI M a1 ((l5 + (1 : Int32)) + ((2 : Int32) * l2)).toNatClampNeg l3) a2 ((l5 + (2 : Int32)) + ((2 : Int32) * l2)).toNatClampNeg l4) l0 0)] (sI (sI M a1 ((l5 + (1 : Int32)) + ((2 : Int32) * l2)).toNatClampNeg l3) a2 ((l5 + (2 : Int32)) + ((2 : Int32) * l2)).toNatClampNeg l4) from ⟨h.1, ?_⟩)
      replace h := h.2
      obtain ⟨a3, he, h⟩ := h
      refine RN_k (callX_det _) 2 _ _ _ _ (show R287 sl sx d M0 P 183 [some (vR (some l0)), none, some (vI l2), some (vI l3), some (vI l4), some (vI l5), some (vI l6)] [vI l5, vR (mR (sI (sI M a1 ((l5 + (1 : Int32)) + ((2 : Int32) * l2)).toNatClampNeg l3) a2 ((l5 + (2 : Int32)) + ((2 : Int32) * l2)).toNatClampNeg l4) l0 0), vI l5, vR (mR (sI (sI M a1 ((l5 + (1 : Int32)) + ((2 : Int32) * l2)).toNatClampNeg l3) a2 ((l5 + (2 : Int32)) + ((2 : Int32) * l2)).toNatClampNeg l4) l0 0)] (sI (sI M a1 ((l5 + (1 : Int32)) + ((2 : Int32) * l2)).toNatClampNeg l3) a2 ((l5 + (2 : Int32)) + ((2 : Int32) * l2)).toNatClampNeg l4) from ?_)
      rw [he]
      refine RN_k (callX_det _) 1 _ _ _ _ (show inb (sI (sI M a1 ((l5 + (1 : Int32)) + ((2 : Int32) * l2)).toNatClampNeg l3) a2 ((l5 + (2 : Int32)) + ((2 : Int32) * l2)).toNatClampNeg l4) a3 11 l5 ∧ R287 sl sx d M0 P 184 [some (vR (some l0)), none, some (vI l2), some (vI l3), some (vI l4), some (vI l5), some (vI l6)] [vI (mI (sI (sI M a1 ((l5 + (1 : Int32)) + ((2 : Int32) * l2)).toNatClampNeg l3) a2 ((l5 + (2 : Int32)) + ((2 : Int32) * l2)).toNatClampNeg l4) a3 l5.toNatClampNeg), vI l5, vR (some a3)] (sI (sI M a1 ((l5 + (1 : Int32)) + ((2 : Int32) * l2)).toNatClampNeg l3) a2 ((l5 + (2 : Int32)) + ((2 : Int32) * l2)).toNatClampNeg l4) from ⟨h.1, ?_⟩)
      replace h := h.2
      refine RN_k (callX_det _) 3 _ _ _ _ (show inb (sI (sI M a1 ((l5 + (1 : Int32)) + ((2 : Int32) * l2)).toNatClampNeg l3) a2 ((l5 + (2 : Int32)) + ((2 : Int32) * l2)).toNatClampNeg l4) a3 11 l5 ∧ R287 sl sx d M0 P 187 [some (vR (some l0)), none, some (vI l2), some (vI l3), some (vI l4), some (vI l5), some (vI l6)] [] (sI (sI (sI M a1 ((l5 + (1 : Int32)) + ((2 : Int32) * l2)).toNatClampNeg l3) a2 ((l5 + (2 : Int32)) + ((2 : Int32) * l2)).toNatClampNeg l4) a3 l5.toNatClampNeg ((mI (sI (sI M a1 ((l5 + (1 : Int32)) + ((2 : Int32) * l2)).toNatClampNeg l3) a2 ((l5 + (2 : Int32)) + ((2 : Int32) * l2)).toNatClampNeg l4) a3 l5.toNatClampNeg) + (1 : Int32))) from ⟨h.1, ?_⟩)
      replace h := h.2
      exact RN_weak (K := [some (vR (some l0)), none, none, none, none, some (vI l5), none]) (callX_det _) (show _ ∧ _ ∧ True from ⟨rfl, rfl, trivial⟩) (t287_187  l0 l5 _ hM h)
    · replace h := h.2 hc
      refine RN_k (callX_det _) 2 _ _ _ _ (show kd M l0 10 ∧ R287 sl sx d M0 P 123 [some (vR (some l0)), none, some (vI l2), some (vI l3), some (vI l4), some (vI l5), some (vI l6)] [vR (mR M l0 0)] M from ⟨h.1, ?_⟩)
      replace h := h.2
      refine RN_k (callX_det _) 7 _ _ _ _ (show kd M l0 10 ∧ R287 sl sx d M0 P 134 [some (vR (some l0)), none, some (vI l2), some (vI l3), some (vI l4), some (vI l5), some (vI l6)] [vR (mR M l0 0), vI ((l5 + (2 : Int32)) + l6), vR (mR M l0 0)] M from ⟨h.1, ?_⟩)
      replace h := h.2
      obtain ⟨a4, he, h⟩ := h
      refine RN_k (callX_det _) 3 _ _ _ _ (show R287 sl sx d M0 P 139 [some (vR (some l0)), none, some (vI l2), some (vI l3), some (vI l4), some (vI l5), some (vI l6)] [vI (l5 + l6), vR (mR M l0 0), vI ((l5 + (2 : Int32)) + l6), vR (mR M l0 0)] M from ?_)
      rw [he]
      refine RN_k (callX_det _) 1 _ _ _ _ (show inb M a4 11 (l5 + l6) ∧ R287 sl sx d M0 P 140 [some (vR (some l0)), none, some (vI l2), some (vI l3), some (vI l4), some (vI l5), some (vI l6)] [vI (mI M a4 (l5 + l6).toNatClampNeg), vI ((l5 + (2 : Int32)) + l6), vR (some a4)] M from ⟨h.1, ?_⟩)
      replace h := h.2
      refine RN_k (callX_det _) 1 _ _ _ _ (show inb M a4 11 ((l5 + (2 : Int32)) + l6) ∧ R287 sl sx d M0 P 141 [some (vR (some l0)), none, some (vI l2), some (vI l3), some (vI l4), some (vI l5), some (vI l6)] [] (sI M a4 ((l5 + (2 : Int32)) + l6).toNatClampNeg (mI M a4 (l5 + l6).toNatClampNeg)) from ⟨h.1, ?_⟩)
      replace h := h.2
      refine RN_k (callX_det _) 2 _ _ _ _ (show R287 sl sx d M0 P 111 [some (vR (some l0)), none, some (vI l2), some (vI l3), some (vI l4), some (vI l5), some (vI (l6 + (-1 : Int32)))] [] (sI M a4 ((l5 + (2 : Int32)) + l6).toNatClampNeg (mI M a4 (l5 + l6).toNatClampNeg)) from ?_)
      exact RN_weak (K := [some (vR (some l0)), none, some (vI l2), some (vI l3), some (vI l4), some (vI l5), some (vI (l6 + (-1 : Int32)))]) (callX_det _) (show _ ∧ _ ∧ _ ∧ _ ∧ _ ∧ _ ∧ True from ⟨rfl, rfl, rfl, rfl, rfl, rfl, trivial⟩) (ih l0 l2 l3 l4 l5 (l6 + (-1 : Int32)) _ hM h)
def w287_84 (l0 : Nat) (M : MM) (P : Int32 → MM → Prop) : Prop := kd M l0 10 ∧ w167 l0 (4 : Int32) M (fun r2 M1 => P r2 M1)
theorem t287_84 {sl : Nat} {sx : Nat → Int32} {d : Nat} {M0 : MM} {P : Int32 → MM → Prop} (l0 : Nat) (M : MM) (hM : lenO M0 M) (h : w287_84  l0 M P) : R287 sl sx d M0 P 84 [some (vR (some l0)), none, none, none, none, none, none] [] M := by
  refine RN_k (callX_det _) 3 _ _ _ _ (show kd M l0 10 ∧ callX TBg sl sx (d + 4) 167 [vR (some l0), vI (4 : Int32)] M (fun v M9 => R287 sl sx d M0 P 89 [some (vR (some l0)), none, none, none, none, none, none] (pushO v []) M9) from ⟨h.1, ?_⟩)
  replace h := h.2
  refine callX_mono (callX_len (d := (d + 4)) rfl rfl rfl (c167 (d := d + 3) h)) ?_
  clear h
  rintro v9 M1 ⟨hl, r2, rfl, h⟩
  replace hM := lenT hM hl
  show R287 sl sx d M0 P 89 [some (vR (some l0)), none, none, none, none, none, none] [vI r2] M1
  exact RN_k (callX_det _) 1 _ _ _ _ (show rtW q287 M0 (PI P) (some (vI r2)) M1 from ⟨⟨_, rfl⟩, hM.1, hM.2, _, rfl, h⟩)
def w287 (l0 : Nat) (l1 : Int32) (l2 : Int32) (l3 : Int32) (l4 : Int32) (M : MM) (P : Int32 → MM → Prop) : Prop := w284 l3 l4 M (fun r2 M1 => (r2 ≠ 0 → (kd M1 l0 10 ∧ w182 l0 l1 M1 (fun r4 M3 => (r4 = 0 → (w287_36  l0 M3 P)) ∧ (¬ (r4 = 0) → (kd M3 l0 10 ∧ w180 l0 l1 M3 (fun r6 M5 => w166 l2 (0 : Int32) r6 M5 (fun r8 M7 => (r8 ≠ 0 → (kd M7 l0 10 ∧ w180 l0 l1 M7 (fun r10 M9 => (r10 ≠ (8 : Int32) → (kd M9 l0 10 ∧ w285 l0 l1 (l2 - (1 : Int32)) l3 l4 M9 (fun r12 M11 => (r12 ≠ 0 → (w287_84  l0 M11 P)) ∧ (¬ (r12 ≠ 0) → (kd M11 l0 10 ∧ w285 l0 l1 l2 l3 l4 M11 (fun r14 M13 => (r14 = 0 → (kd M13 l0 10 ∧ w286 l0 M13 (fun M15 => w174 l1 M15 (fun r17 M16 => kd M16 l0 10 ∧ (∃ a18, mR M16 l0 0 = some a18 ∧ (inb M16 a18 11 r17 ∧ (∃ n2, w287_111  n2 l0 l2 l3 l4 r17 ((2 : Int32) * (mI M16 a18 r17.toNatClampNeg)) M16 P))))))) ∧ (¬ (r14 = 0) → (w287_84  l0 M13 P)))))))) ∧ (¬ (r10 ≠ (8 : Int32)) → (kd M9 l0 10 ∧ w167 l0 (3 : Int32) M9 (fun r20 M19 => P r20 M19)))))) ∧ (¬ (r8 ≠ 0) → (w287_36  l0 M7 P))))))))) ∧ (¬ (r2 ≠ 0) → (kd M1 l0 10 ∧ w167 l0 (1 : Int32) M1 (fun r22 M21 => P r22 M21))))
theorem t287_E {sl : Nat} {sx : Nat → Int32} {d : Nat} {M0 : MM} {P : Int32 → MM → Prop} (l0 : Nat) (l1 : Int32) (l2 : Int32) (l3 : Int32) (l4 : Int32) (M : MM) (hM : lenO M0 M) (h : w287  l0 l1 l2 l3 l4 M P) : R287 sl sx d M0 P 0 [some (vR (some l0)), some (vI l1), some (vI l2), some (vI l3), some (vI l4), none, none] [] M := by
  refine RN_k (callX_det _) 3 _ _ _ _ (show callX TBg sl sx (d + 4) 284 [vI l3, vI l4] M (fun v M9 => R287 sl sx d M0 P 6 [some (vR (some l0)), some (vI l1), some (vI l2), some (vI l3), some (vI l4), none, none] (pushO v []) M9) from ?_)
  refine callX_mono (callX_len (d := (d + 4)) rfl rfl rfl (c284 (d := d + 2) h)) ?_
  clear h
  rintro v9 M1 ⟨hl, r2, rfl, h⟩
  replace hM := lenT hM hl
  show R287 sl sx d M0 P 6 [some (vR (some l0)), some (vI l1), some (vI l2), some (vI l3), some (vI l4), none, none] [vI r2] M1
  refine RN_k (callX_det _) 1 _ _ _ _ (show (r2 ≠ 0 → R287 sl sx d M0 P 15 [some (vR (some l0)), some (vI l1), some (vI l2), some (vI l3), some (vI l4), none, none] [] M1) ∧ (¬ (r2 ≠ 0) → R287 sl sx d M0 P 9 [some (vR (some l0)), some (vI l1), some (vI l2), some (vI l3), some (vI l4), none, none] [] M1) from ⟨fun hc => ?_, fun hc => ?_⟩)
  · replace h := h.1 hc
    refine RN_k (callX_det _) 3 _ _ _ _ (show kd M1 l0 10 ∧ callX TBg sl sx (d + 4) 182 [vR (some l0), vI l1] M1 (fun v M9 => R287 sl sx d M0 P 20 [some (vR (some l0)), some (vI l1), some (vI l2), some (vI l3), some (vI l4), none, none] (pushO v []) M9) from ⟨h.1, ?_⟩)
    replace h := h.2
    refine callX_mono (callX_len (d := (d + 4)) rfl rfl rfl (c182 (d := d + 2) h)) ?_
    clear h
    rintro v9 M3 ⟨hl, r4, rfl, h⟩
    replace hM := lenT hM hl
    show R287 sl sx d M0 P 20 [some (vR (some l0)), some (vI l1), some (vI l2), some (vI l3), some (vI l4), none, none] [vI r4] M3
    refine RN_k (callX_det _) 1 _ _ _ _ (show (r4 = 0 → R287 sl sx d M0 P 36 [some (vR (some l0)), some (vI l1), some (vI l2), some (vI l3), some (vI l4), none, none] [] M3) ∧ (¬ (r4 = 0) → R287 sl sx d M0 P 23 [some (vR (some l0)), some (vI l1), some (vI l2), some (vI l3), some (vI l4), none, none] [] M3) from ⟨fun hc => ?_, fun hc => ?_⟩)
    · replace h := h.1 hc
      exact RN_weak (K := [some (vR (some l0)), none, none, none, none, none, none]) (callX_det _) (show _ ∧ True from ⟨rfl, trivial⟩) (t287_36  l0 _ hM h)
    · replace h := h.2 hc
      refine RN_k (callX_det _) 5 _ _ _ _ (show kd M3 l0 10 ∧ callX TBg sl sx (d + 4) 180 [vR (some l0), vI l1] M3 (fun v M9 => R287 sl sx d M0 P 30 [some (vR (some l0)), some (vI l1), some (vI l2), some (vI l3), some (vI l4), none, none] (pushO v [vI (0 : Int32), vI l2]) M9) from ⟨h.1, ?_⟩)
      replace h := h.2
      refine callX_mono (callX_len (d := (d + 4)) rfl rfl rfl (c180 (d := d + 2) h)) ?_
      clear h
      rintro v9 M5 ⟨hl, r6, rfl, h⟩
      replace hM := lenT hM hl
      show R287 sl sx d M0 P 30 [some (vR (some l0)), some (vI l1), some (vI l2), some (vI l3), some (vI l4), none, none] [vI r6, vI (0 : Int32), vI l2] M5
      refine RN_k (callX_det _) 1 _ _ _ _ (show callX TBg sl sx (d + 4) 166 [vI l2, vI (0 : Int32), vI r6] M5 (fun v M9 => R287 sl sx d M0 P 33 [some (vR (some l0)), some (vI l1), some (vI l2), some (vI l3), some (vI l4), none, none] (pushO v []) M9) from ?_)
      refine callX_mono (callX_len (d := (d + 4)) rfl rfl rfl (c166 (d := d + 3) h)) ?_
      clear h
      rintro v9 M7 ⟨hl, r8, rfl, h⟩
      replace hM := lenT hM hl
      show R287 sl sx d M0 P 33 [some (vR (some l0)), some (vI l1), some (vI l2), some (vI l3), some (vI l4), none, none] [vI r8] M7
      refine RN_k (callX_det _) 1 _ _ _ _ (show (r8 ≠ 0 → R287 sl sx d M0 P 42 [some (vR (some l0)), some (vI l1), some (vI l2), some (vI l3), some (vI l4), none, none] [] M7) ∧ (¬ (r8 ≠ 0) → R287 sl sx d M0 P 36 [some (vR (some l0)), some (vI l1), some (vI l2), some (vI l3), some (vI l4), none, none] [] M7) from ⟨fun hc => ?_, fun hc => ?_⟩)
      · replace h := h.1 hc
        refine RN_k (callX_det _) 3 _ _ _ _ (show kd M7 l0 10 ∧ callX TBg sl sx (d + 4) 180 [vR (some l0), vI l1] M7 (fun v M9 => R287 sl sx d M0 P 47 [some (vR (some l0)), some (vI l1), some (vI l2), some (vI l3), some (vI l4), none, none] (pushO v []) M9) from ⟨h.1, ?_⟩)
        replace h := h.2
        refine callX_mono (callX_len (d := (d + 4)) rfl rfl rfl (c180 (d := d + 2) h)) ?_
        clear h
        rintro v9 M9 ⟨hl, r10, rfl, h⟩
        replace hM := lenT hM hl
        show R287 sl sx d M0 P 47 [some (vR (some l0)), some (vI l1), some (vI l2), some (vI l3), some (vI l4), none, none] [vI r10] M9
        refine RN_k (callX_det _) 2 _ _ _ _ (show (r10 ≠ (8 : Int32) → R287 sl sx d M0 P 58 [some (vR (some l0)), some (vI l1), some (vI l2), some (vI l3), some (vI l4), none, none] [] M9) ∧ (¬ (r10 ≠ (8 : Int32)) → R287 sl sx d M0 P 52 [some (vR (some l0)), some (vI l1), some (vI l2), some (vI l3), some (vI l4), none, none] [] M9) from ⟨fun hc => ?_, fun hc => ?_⟩)
        · replace h := h.1 hc
          refine RN_k (callX_det _) 8 _ _ _ _ (show kd M9 l0 10 ∧ callX TBg sl sx (d + 4) 285 [vR (some l0), vI l1, vI (l2 - (1 : Int32)), vI l3, vI l4] M9 (fun v M9 => R287 sl sx d M0 P 69 [some (vR (some l0)), some (vI l1), some (vI l2), some (vI l3), some (vI l4), none, none] (pushO v []) M9) from ⟨h.1, ?_⟩)
          replace h := h.2
          refine callX_mono (callX_len (d := (d + 4)) rfl rfl rfl (c285 (d := d) h)) ?_
          clear h
          rintro v9 M11 ⟨hl, r12, rfl, h⟩
          replace hM := lenT hM hl
          show R287 sl sx d M0 P 69 [some (vR (some l0)), some (vI l1), some (vI l2), some (vI l3), some (vI l4), none, none] [vI r12] M11
          refine RN_k (callX_det _) 1 _ _ _ _ (show (r12 ≠ 0 → R287 sl sx d M0 P 84 [some (vR (some l0)), some (vI l1), some (vI l2), some (vI l3), some (vI l4), none, none] [] M11) ∧ (¬ (r12 ≠ 0) → R287 sl sx d M0 P 72 [some (vR (some l0)), some (vI l1), some (vI l2), some (vI l3), some (vI l4), none, none] [] M11) from ⟨fun hc => ?_, fun hc => ?_⟩)
          · replace h := h.1 hc
            exact RN_weak (K := [some (vR (some l0)), none, none, none, none, none, none]) (callX_det _) (show _ ∧ True from ⟨rfl, trivial⟩) (t287_84  l0 _ hM h)
          · replace h := h.2 hc
            refine RN_k (callX_det _) 6 _ _ _ _ (show kd M11 l0 10 ∧ callX TBg sl sx (d + 4) 285 [vR (some l0), vI l1, vI l2, vI l3, vI l4] M11 (fun v M9 => R287 sl sx d M0 P 81 [some (vR (some l0)), some (vI l1), some (vI l2), some (vI l3), some (vI l4), none, none] (pushO v []) M9) from ⟨h.1, ?_⟩)
            replace h := h.2
            refine callX_mono (callX_len (d := (d + 4)) rfl rfl rfl (c285 (d := d) h)) ?_
            clear h
            rintro v9 M13 ⟨hl, r14, rfl, h⟩
            replace hM := lenT hM hl
            show R287 sl sx d M0 P 81 [some (vR (some l0)), some (vI l1), some (vI l2), some (vI l3), some (vI l4), none, none] [vI r14] M13
            refine RN_k (callX_det _) 1 _ _ _ _ (show (r14 = 0 → R287 sl sx d M0 P 90 [some (vR (some l0)), some (vI l1), some (vI l2), some (vI l3), some (vI l4), none, none] [] M13) ∧ (¬ (r14 = 0) → R287 sl sx d M0 P 84 [some (vR (some l0)), some (vI l1), some (vI l2), some (vI l3), some (vI l4), none, none] [] M13) from ⟨fun hc => ?_, fun hc => ?_⟩)
            · replace h := h.1 hc
              refine RN_k (callX_det _) 2 _ _ _ _ (show kd M13 l0 10 ∧ callX TBg sl sx (d + 4) 286 [vR (some l0)] M13 (fun v M9 => R287 sl sx d M0 P 94 [some (vR (some l0)), some (vI l1), some (vI l2), some (vI l3), some (vI l4), none, none] (pushO v []) M9) from ⟨h.1, ?_⟩)
              replace h := h.2
              refine callX_mono (callX_len (d := (d + 4)) rfl rfl rfl (c286 (d := d + 3) h)) ?_
              clear h
              rintro v9 M15 ⟨hl, rfl, h⟩
              replace hM := lenT hM hl
              show R287 sl sx d M0 P 94 [some (vR (some l0)), some (vI l1), some (vI l2), some (vI l3), some (vI l4), none, none] [] M15
              refine RN_k (callX_det _) 2 _ _ _ _ (show callX TBg sl sx (d + 4) 174 [vI l1] M15 (fun v M9 => R287 sl sx d M0 P 98 [some (vR (some l0)), some (vI l1), some (vI l2), some (vI l3), some (vI l4), none, none] (pushO v []) M9) from ?_)
              refine callX_mono (callX_len (d := (d + 4)) rfl rfl rfl (c174 (d := d + 3) h)) ?_
              clear h
              rintro v9 M16 ⟨hl, r17, rfl, h⟩
              replace hM := lenT hM hl
              show R287 sl sx d M0 P 98 [some (vR (some l0)), some (vI l1), some (vI l2), some (vI l3), some (vI l4), none, none] [vI r17] M16
              refine RN_k (callX_det _) 4 _ _ _ _ (show kd M16 l0 10 ∧ R287 sl sx d M0 P 105 [some (vR (some l0)), some (vI l1), some (vI l2), some (vI l3), some (vI l4), some (vI r17), none] [vR (mR M16 l0 0), vI (2 : Int32)] M16 from ⟨h.1, ?_⟩)
              replace h := h.2
              obtain ⟨a18, he, h⟩ := h
              refine RN_k (callX_det _) 1 _ _ _ _ (show R287 sl sx d M0 P 107 [some (vR (some l0)), some (vI l1), some (vI l2), some (vI l3), some (vI l4), some (vI r17), none] [vI r17, vR (mR M16 l0 0), vI (2 : Int32)] M16 from ?_)
              rw [he]
              refine RN_k (callX_det _) 1 _ _ _ _ (show inb M16 a18 11 r17 ∧ R287 sl sx d M0 P 108 [some (vR (some l0)), some (vI l1), some (vI l2), some (vI l3), some (vI l4), some (vI r17), none] [vI (mI M16 a18 r17.toNatClampNeg), vI (2 : Int32)] M16 from ⟨h.1, ?_⟩)
              replace h := h.2
              refine RN_k (callX_det _) 2 _ _ _ _ (show R287 sl sx d M0 P 111 [some (vR (some l0)), some (vI l1), some (vI l2), some (vI l3), some (vI l4), some (vI r17), some (vI ((2 : Int32) * (mI M16 a18 r17.toNatClampNeg)))] [] M16 from ?_)
              obtain ⟨n2, h⟩ := h
              exact RN_weak (K := [some (vR (some l0)), none, some (vI l2), some (vI l3), some (vI l4), some (vI r17), some (vI ((2 : Int32) * (mI M16 a18 r17.toNatClampNeg)))]) (callX_det _) (show _ ∧ _ ∧ _ ∧ _ ∧ _ ∧ _ ∧ True from ⟨rfl, rfl, rfl, rfl, rfl, rfl, trivial⟩) (t287_111  n2 l0 l2 l3 l4 r17 ((2 : Int32) * (mI M16 a18 r17.toNatClampNeg)) _ hM h)
            · replace h := h.2 hc
              exact RN_weak (K := [some (vR (some l0)), none, none, none, none, none, none]) (callX_det _) (show _ ∧ True from ⟨rfl, trivial⟩) (t287_84  l0 _ hM h)
        · replace h := h.2 hc
          refine RN_k (callX_det _) 3 _ _ _ _ (show kd M9 l0 10 ∧ callX TBg sl sx (d + 4) 167 [vR (some l0), vI (3 : Int32)] M9 (fun v M9 => R287 sl sx d M0 P 57 [some (vR (some l0)), some (vI l1), some (vI l2), some (vI l3), some (vI l4), none, none] (pushO v []) M9) from ⟨h.1, ?_⟩)
          replace h := h.2
          refine callX_mono (callX_len (d := (d + 4)) rfl rfl rfl (c167 (d := d + 3) h)) ?_
          clear h
          rintro v9 M19 ⟨hl, r20, rfl, h⟩
          replace hM := lenT hM hl
          show R287 sl sx d M0 P 57 [some (vR (some l0)), some (vI l1), some (vI l2), some (vI l3), some (vI l4), none, none] [vI r20] M19
          exact RN_k (callX_det _) 1 _ _ _ _ (show rtW q287 M0 (PI P) (some (vI r20)) M19 from ⟨⟨_, rfl⟩, hM.1, hM.2, _, rfl, h⟩)
      · replace h := h.2 hc
        exact RN_weak (K := [some (vR (some l0)), none, none, none, none, none, none]) (callX_det _) (show _ ∧ True from ⟨rfl, trivial⟩) (t287_36  l0 _ hM h)
  · replace h := h.2 hc
    refine RN_k (callX_det _) 3 _ _ _ _ (show kd M1 l0 10 ∧ callX TBg sl sx (d + 4) 167 [vR (some l0), vI (1 : Int32)] M1 (fun v M9 => R287 sl sx d M0 P 14 [some (vR (some l0)), some (vI l1), some (vI l2), some (vI l3), some (vI l4), none, none] (pushO v []) M9) from ⟨h.1, ?_⟩)
    replace h := h.2
    refine callX_mono (callX_len (d := (d + 4)) rfl rfl rfl (c167 (d := d + 3) h)) ?_
    clear h
    rintro v9 M21 ⟨hl, r22, rfl, h⟩
    replace hM := lenT hM hl
    show R287 sl sx d M0 P 14 [some (vR (some l0)), some (vI l1), some (vI l2), some (vI l3), some (vI l4), none, none] [vI r22] M21
    exact RN_k (callX_det _) 1 _ _ _ _ (show rtW q287 M0 (PI P) (some (vI r22)) M21 from ⟨⟨_, rfl⟩, hM.1, hM.2, _, rfl, h⟩)
theorem c287 {sl : Nat} {sx : Nat → Int32} {d : Nat} {l0 : Nat} {l1 : Int32} {l2 : Int32} {l3 : Int32} {l4 : Int32} {M : MM} {P : Int32 → MM → Prop} (h : w287 l0 l1 l2 l3 l4 M P) : callX TBg sl sx (d + 5) 287 [vR (some l0), vI l1, vI l2, vI l3, vI l4] M (PI P) :=
  cX (d := d + 4) q287 (false, tb287) rfl rfl rfl (t287_E l0 l1 l2 l3 l4 M lenR h)
-- TwoLeashModel.drop(II)I
abbrev q288 : MQ7 := (3, 1, 5, 10, 0, 0, 1)
abbrev R288 (sl : Nat) (sx : Nat → Int32) (d : Nat) (M0 : MM) (P : Int32 → MM → Prop) : Nat → LL → List VV → MM → Prop := RN 10 false (mS M0).length (mT M0) 0 0 sl sx (callX TBg sl sx (d + 3)) (rtW q288 M0 (PI P)) (as2 tb288)
def w288_61 : Nat → Nat → Int32 → Int32 → MM → (Int32 → MM → Prop) → Prop
  | 0 => fun _ _ _ _ _ => False
  | n + 1 => fun l0 l3 l4 M P => kd M l0 10 ∧ (∃ a1, mR M l0 0 = some a1 ∧ (inb M a1 11 l3 ∧ ((((2 : Int32) * (mI M a1 l3.toNatClampNeg)) < (l4 + (2 : Int32)) → (kd M l0 10 ∧ (∃ a2, mR M l0 0 = some a2 ∧ (inb M a2 11 l3 ∧ (inb M a2 11 l3 ∧ (kd (sI M a2 l3.toNatClampNeg ((mI M a2 l3.toNatClampNeg) - (1 : Int32))) l0 10 ∧ (∃ a3, mR (sI M a2 l3.toNatClampNeg ((mI M a2 l3.toNatClampNeg) - (1 : Int32))) l0 0 = some a3 ∧ (inb (sI M a2 l3.toNatClampNeg ((mI M a2 l3.toNatClampNeg) - (1 : Int32))) a3 11 l3 ∧ (kd (sI M a2 l3.toNatClampNeg ((mI M a2 l3.toNatClampNeg) - (1 : Int32))) l0 10 ∧ w177 l0 (mI (sI M a2 l3.toNatClampNeg ((mI M a2 l3.toNatClampNeg) - (1 : Int32))) a3 l3.toNatClampNeg) (sI M a2 l3.toNatClampNeg ((mI M a2 l3.toNatClampNeg) - (1 : Int32))) (fun r5 M4 => P r5 M4)))))))))) ∧ (¬ (((2 : Int32) * (mI M a1 l3.toNatClampNeg)) < (l4 + (2 : Int32))) → (kd M l0 10 ∧ (kd M l0 10 ∧ (∃ a6, mR M l0 0 = some a6 ∧ (inb M a6 11 ((l3 + l4) + (2 : Int32)) ∧ (inb M a6 11 (l3 + l4) ∧ (w288_61  n l0 l3 (l4 + (1 : Int32)) (sI M a6 (l3 + l4).toNatClampNeg (mI M a6 ((l3 + l4) + (2 : Int32)).toNatClampNeg)) P))))))))))
theorem t288_61 {sl : Nat} {sx : Nat → Int32} {d : Nat} {M0 : MM} {P : Int32 → MM → Prop} (n : Nat) : ∀ (l0 : Nat) (l3 : Int32) (l4 : Int32) (M : MM) (_ : lenO M0 M) (_ : w288_61  n l0 l3 l4 M P), R288 sl sx d M0 P 61 [some (vR (some l0)), none, none, some (vI l3), some (vI l4)] [] M := by
  induction n with
  | zero => intro l0 l3 l4 M hM h; cases h
  | succ n ih =>
    intro l0 l3 l4 M hM h
    refine RN_k (callX_det _) 6 _ _ _ _ (show kd M l0 10 ∧ R288 sl sx d M0 P 70 [some (vR (some l0)), none, none, some (vI l3), some (vI l4)] [vR (mR M l0 0), vI (2 : Int32), vI (l4 + (2 : Int32))] M from ⟨h.1, ?_⟩)
    replace h := h.2
    obtain ⟨a1, he, h⟩ := h
    refine RN_k (callX_det _) 1 _ _ _ _ (show R288 sl sx d M0 P 71 [some (vR (some l0)), none, none, some (vI l3), some (vI l4)] [vI l3, vR (mR M l0 0), vI (2 : Int32), vI (l4 + (2 : Int32))] M from ?_)
    rw [he]
    refine RN_k (callX_det _) 1 _ _ _ _ (show inb M a1 11 l3 ∧ R288 sl sx d M0 P 72 [some (vR (some l0)), none, none, some (vI l3), some (vI l4)] [vI (mI M a1 l3.toNatClampNeg), vI (2 : Int32), vI (l4 + (2 : Int32))] M from ⟨h.1, ?_⟩)
    replace h := h.2
    refine RN_k (callX_det _) 2 _ _ _ _ (show (((2 : Int32) * (mI M a1 l3.toNatClampNeg)) < (l4 + (2 : Int32)) → R288 sl sx d M0 P 102 [some (vR (some l0)), none, none, some (vI l3), some (vI l4)] [] M) ∧ (¬ (((2 : Int32) * (mI M a1 l3.toNatClampNeg)) < (l4 + (2 : Int32))) → R288 sl sx d M0 P 76 [some (vR (some l0)), none, none, some (vI l3), some (vI l4)] [] M) from ⟨fun hc => ?_, fun hc => ?_⟩)
    · replace h := h.1 hc
      refine RN_k (callX_det _) 2 _ _ _ _ (show kd M l0 10 ∧ R288 sl sx d M0 P 106 [some (vR (some l0)), none, none, some (vI l3), some (vI l4)] [vR (mR M l0 0)] M from ⟨h.1, ?_⟩)
      replace h := h.2
      obtain ⟨a2, he, h⟩ := h
      refine RN_k (callX_det _) 2 _ _ _ _ (show R288 sl sx d M0 P 108 [some (vR (some l0)), none, none, some (vI l3), some (vI l4)] [vI l3, vR (mR M l0 0), vI l3, vR (mR M l0 0)] M from ?_)
      rw [he]
      refine RN_k (callX_det _) 1 _ _ _ _ (show inb M a2 11 l3 ∧ R288 sl sx d M0 P 109 [some (vR (some l0)), none, none, some (vI l3), some (vI l4)] [vI (mI M a2 l3.toNatClampNeg), vI l3, vR (some a2)] M from ⟨h.1, ?_⟩)
      replace h := h.2
      refine RN_k (callX_det _) 3 _ _ _ _ (show inb M a2 11 l3 ∧ R288 sl sx d M0 P 112 [some (vR (some l0)), none, none, some (vI l3), some (vI l4)] [] (sI M a2 l3.toNatClampNeg ((mI M a2 l3.toNatClampNeg) - (1 : Int32))) from ⟨h.1, ?_⟩)
      replace h := h.2
      refine RN_k (callX_det _) 3 _ _ _ _ (show kd (sI M a2 l3.toNatClampNeg ((mI M a2 l3.toNatClampNeg) - (1 : Int32))) l0 10 ∧ R288 sl sx d M0 P 117 [some (vR (some l0)), none, none, some (vI l3), some (vI l4)] [vR (mR (sI M a2 l3.toNatClampNeg ((mI M a2 l3.toNatClampNeg) - (1 : Int32))) l0 0), vR (some l0)] (sI M a2 l3.toNatClampNeg ((mI M a2 l3.toNatClampNeg) - (1 : Int32))) from ⟨h.1, ?_⟩)
      replace h := h.2
      obtain ⟨a3, he, h⟩ := h
      refine RN_k (callX_det _) 1 _ _ _ _ (show R288 sl sx d M0 P 118 [some (vR (some l0)), none, none, some (vI l3), some (vI l4)] [vI l3, vR (mR (sI M a2 l3.toNatClampNeg ((mI M a2 l3.toNatClampNeg) - (1 : Int32))) l0 0), vR (some l0)] (sI M a2 l3.toNatClampNeg ((mI M a2 l3.toNatClampNeg) - (1 : Int32))) from ?_)
      rw [he]
      refine RN_k (callX_det _) 1 _ _ _ _ (show inb (sI M a2 l3.toNatClampNeg ((mI M a2 l3.toNatClampNeg) - (1 : Int32))) a3 11 l3 ∧ R288 sl sx d M0 P 119 [some (vR (some l0)), none, none, some (vI l3), some (vI l4)] [vI (mI (sI M a2 l3.toNatClampNeg ((mI M a2 l3.toNatClampNeg) - (1 : Int32))) a3 l3.toNatClampNeg), vR (some l0)] (sI M a2 l3.toNatClampNeg ((mI M a2 l3.toNatClampNeg) - (1 : Int32))) from ⟨h.1, ?_⟩)
      replace h := h.2
      refine RN_k (callX_det _) 1 _ _ _ _ (show kd (sI M a2 l3.toNatClampNeg ((mI M a2 l3.toNatClampNeg) - (1 : Int32))) l0 10 ∧ callX TBg sl sx (d + 3) 177 [vR (some l0), vI (mI (sI M a2 l3.toNatClampNeg ((mI M a2 l3.toNatClampNeg) - (1 : Int32))) a3 l3.toNatClampNeg)] (sI M a2 l3.toNatClampNeg ((mI M a2 l3.toNatClampNeg) - (1 : Int32))) (fun v M9 => R288 sl sx d M0 P 122 [some (vR (some l0)), none, none, some (vI l3), some (vI l4)] (pushO v []) M9) from ⟨h.1, ?_⟩)
      replace h := h.2
      refine callX_mono (callX_len (d := (d + 3)) rfl rfl rfl (c177 (d := d + 2) h)) ?_
      clear h
      rintro v9 M4 ⟨hl, r5, rfl, h⟩
      replace hM := lenT hM hl
      show R288 sl sx d M0 P 122 [some (vR (some l0)), none, none, some (vI l3), some (vI l4)] [vI r5] M4
      exact RN_k (callX_det _) 1 _ _ _ _ (show rtW q288 M0 (PI P) (some (vI r5)) M4 from ⟨⟨_, rfl⟩, hM.1, hM.2, _, rfl, h⟩)
    · replace h := h.2 hc
      refine RN_k (callX_det _) 2 _ _ _ _ (show kd M l0 10 ∧ R288 sl sx d M0 P 80 [some (vR (some l0)), none, none, some (vI l3), some (vI l4)] [vR (mR M l0 0)] M from ⟨h.1, ?_⟩)
      replace h := h.2
      refine RN_k (callX_det _) 5 _ _ _ _ (show kd M l0 10 ∧ R288 sl sx d M0 P 88 [some (vR (some l0)), none, none, some (vI l3), some (vI l4)] [vR (mR M l0 0), vI (l3 + l4), vR (mR M l0 0)] M from ⟨h.1, ?_⟩)
      replace h := h.2
      obtain ⟨a6, he, h⟩ := h
      refine RN_k (callX_det _) 5 _ _ _ _ (show R288 sl sx d M0 P 94 [some (vR (some l0)), none, none, some (vI l3), some (vI l4)] [vI ((l3 + l4) + (2 : Int32)), vR (mR M l0 0), vI (l3 + l4), vR (mR M l0 0)] M from ?_)
      rw [he]
      refine RN_k (callX_det _) 1 _ _ _ _ (show inb M a6 11 ((l3 + l4) + (2 : Int32)) ∧ R288 sl sx d M0 P 95 [some (vR (some l0)), none, none, some (vI l3), some (vI l4)] [vI (mI M a6 ((l3 + l4) + (2 : Int32)).toNatClampNeg), vI (l3 + l4), vR (some a6)] M from ⟨h.1, ?_⟩)
      replace h := h.2
      refine RN_k (callX_det _) 1 _ _ _ _ (show inb M a6 11 (l3 + l4) ∧ R288 sl sx d M0 P 96 [some (vR (some l0)), none, none, some (vI l3), some (vI l4)] [] (sI M a6 (l3 + l4).toNatClampNeg (mI M a6 ((l3 + l4) + (2 : Int32)).toNatClampNeg)) from ⟨h.1, ?_⟩)
      replace h := h.2
      refine RN_k (callX_det _) 2 _ _ _ _ (show R288 sl sx d M0 P 61 [some (vR (some l0)), none, none, some (vI l3), some (vI (l4 + (1 : Int32)))] [] (sI M a6 (l3 + l4).toNatClampNeg (mI M a6 ((l3 + l4) + (2 : Int32)).toNatClampNeg)) from ?_)
      exact RN_weak (K := [some (vR (some l0)), none, none, some (vI l3), some (vI (l4 + (1 : Int32)))]) (callX_det _) (show _ ∧ _ ∧ _ ∧ True from ⟨rfl, rfl, rfl, trivial⟩) (ih l0 l3 (l4 + (1 : Int32)) _ hM h)
def w288 (l0 : Nat) (l1 : Int32) (l2 : Int32) (M : MM) (P : Int32 → MM → Prop) : Prop := kd M l0 10 ∧ w183 l0 l1 l2 M (fun r2 M1 => (r2 ≠ 0 → (kd M1 l0 10 ∧ w180 l0 l1 M1 (fun r4 M3 => (r4 ≠ (2 : Int32) → (kd M3 l0 10 ∧ w275 l0 l1 l2 M3 (fun r6 M5 => (r6 ≠ 0 → (kd M5 l0 10 ∧ w286 l0 M5 (fun M7 => w174 l1 M7 (fun r9 M8 => ∃ n2, w288_61  n2 l0 r9 ((1 : Int32) + ((2 : Int32) * l2)) M8 P)))) ∧ (¬ (r6 ≠ 0) → (kd M5 l0 10 ∧ w167 l0 (4 : Int32) M5 (fun r11 M10 => P r11 M10)))))) ∧ (¬ (r4 ≠ (2 : Int32)) → (kd M3 l0 10 ∧ w167 l0 (5 : Int32) M3 (fun r13 M12 => P r13 M12)))))) ∧ (¬ (r2 ≠ 0) → (kd M1 l0 10 ∧ w167 l0 (2 : Int32) M1 (fun r15 M14 => P r15 M14))))
theorem t288_E {sl : Nat} {sx : Nat → Int32} {d : Nat} {M0 : MM} {P : Int32 → MM → Prop} (l0 : Nat) (l1 : Int32) (l2 : Int32) (M : MM) (hM : lenO M0 M) (h : w288  l0 l1 l2 M P) : R288 sl sx d M0 P 0 [some (vR (some l0)), some (vI l1), some (vI l2), none, none] [] M := by
  refine RN_k (callX_det _) 4 _ _ _ _ (show kd M l0 10 ∧ callX TBg sl sx (d + 3) 183 [vR (some l0), vI l1, vI l2] M (fun v M9 => R288 sl sx d M0 P 6 [some (vR (some l0)), some (vI l1), some (vI l2), none, none] (pushO v []) M9) from ⟨h.1, ?_⟩)
  replace h := h.2
  refine callX_mono (callX_len (d := (d + 3)) rfl rfl rfl (c183 (d := d) h)) ?_
  clear h
  rintro v9 M1 ⟨hl, r2, rfl, h⟩
  replace hM := lenT hM hl
  show R288 sl sx d M0 P 6 [some (vR (some l0)), some (vI l1), some (vI l2), none, none] [vI r2] M1
  refine RN_k (callX_det _) 1 _ _ _ _ (show (r2 ≠ 0 → R288 sl sx d M0 P 15 [some (vR (some l0)), some (vI l1), some (vI l2), none, none] [] M1) ∧ (¬ (r2 ≠ 0) → R288 sl sx d M0 P 9 [some (vR (some l0)), some (vI l1), some (vI l2), none, none] [] M1) from ⟨fun hc => ?_, fun hc => ?_⟩)
  · replace h := h.1 hc
    refine RN_k (callX_det _) 3 _ _ _ _ (show kd M1 l0 10 ∧ callX TBg sl sx (d + 3) 180 [vR (some l0), vI l1] M1 (fun v M9 => R288 sl sx d M0 P 20 [some (vR (some l0)), some (vI l1), some (vI l2), none, none] (pushO v []) M9) from ⟨h.1, ?_⟩)
    replace h := h.2
    refine callX_mono (callX_len (d := (d + 3)) rfl rfl rfl (c180 (d := d + 1) h)) ?_
    clear h
    rintro v9 M3 ⟨hl, r4, rfl, h⟩
    replace hM := lenT hM hl
    show R288 sl sx d M0 P 20 [some (vR (some l0)), some (vI l1), some (vI l2), none, none] [vI r4] M3
    refine RN_k (callX_det _) 2 _ _ _ _ (show (r4 ≠ (2 : Int32) → R288 sl sx d M0 P 30 [some (vR (some l0)), some (vI l1), some (vI l2), none, none] [] M3) ∧ (¬ (r4 ≠ (2 : Int32)) → R288 sl sx d M0 P 24 [some (vR (some l0)), some (vI l1), some (vI l2), none, none] [] M3) from ⟨fun hc => ?_, fun hc => ?_⟩)
    · replace h := h.1 hc
      refine RN_k (callX_det _) 4 _ _ _ _ (show kd M3 l0 10 ∧ callX TBg sl sx (d + 3) 275 [vR (some l0), vI l1, vI l2] M3 (fun v M9 => R288 sl sx d M0 P 36 [some (vR (some l0)), some (vI l1), some (vI l2), none, none] (pushO v []) M9) from ⟨h.1, ?_⟩)
      replace h := h.2
      refine callX_mono (callX_len (d := (d + 3)) rfl rfl rfl (c275 (d := d) h)) ?_
      clear h
      rintro v9 M5 ⟨hl, r6, rfl, h⟩
      replace hM := lenT hM hl
      show R288 sl sx d M0 P 36 [some (vR (some l0)), some (vI l1), some (vI l2), none, none] [vI r6] M5
      refine RN_k (callX_det _) 1 _ _ _ _ (show (r6 ≠ 0 → R288 sl sx d M0 P 45 [some (vR (some l0)), some (vI l1), some (vI l2), none, none] [] M5) ∧ (¬ (r6 ≠ 0) → R288 sl sx d M0 P 39 [some (vR (some l0)), some (vI l1), some (vI l2), none, none] [] M5) from ⟨fun hc => ?_, fun hc => ?_⟩)
      · replace h := h.1 hc
        refine RN_k (callX_det _) 2 _ _ _ _ (show kd M5 l0 10 ∧ callX TBg sl sx (d + 3) 286 [vR (some l0)] M5 (fun v M9 => R288 sl sx d M0 P 49 [some (vR (some l0)), some (vI l1), some (vI l2), none, none] (pushO v []) M9) from ⟨h.1, ?_⟩)
        replace h := h.2
        refine callX_mono (callX_len (d := (d + 3)) rfl rfl rfl (c286 (d := d + 2) h)) ?_
        clear h
        rintro v9 M7 ⟨hl, rfl, h⟩
        replace hM := lenT hM hl
        show R288 sl sx d M0 P 49 [some (vR (some l0)), some (vI l1), some (vI l2), none, none] [] M7
        refine RN_k (callX_det _) 2 _ _ _ _ (show callX TBg sl sx (d + 3) 174 [vI l1] M7 (fun v M9 => R288 sl sx d M0 P 53 [some (vR (some l0)), some (vI l1), some (vI l2), none, none] (pushO v []) M9) from ?_)
        refine callX_mono (callX_len (d := (d + 3)) rfl rfl rfl (c174 (d := d + 2) h)) ?_
        clear h
        rintro v9 M8 ⟨hl, r9, rfl, h⟩
        replace hM := lenT hM hl
        show R288 sl sx d M0 P 53 [some (vR (some l0)), some (vI l1), some (vI l2), none, none] [vI r9] M8
        refine RN_k (callX_det _) 7 _ _ _ _ (show R288 sl sx d M0 P 61 [some (vR (some l0)), some (vI l1), some (vI l2), some (vI r9), some (vI ((1 : Int32) + ((2 : Int32) * l2)))] [] M8 from ?_)
        obtain ⟨n2, h⟩ := h
        exact RN_weak (K := [some (vR (some l0)), none, none, some (vI r9), some (vI ((1 : Int32) + ((2 : Int32) * l2)))]) (callX_det _) (show _ ∧ _ ∧ _ ∧ True from ⟨rfl, rfl, rfl, trivial⟩) (t288_61  n2 l0 r9 ((1 : Int32) + ((2 : Int32) * l2)) _ hM h)
      · replace h := h.2 hc
        refine RN_k (callX_det _) 3 _ _ _ _ (show kd M5 l0 10 ∧ callX TBg sl sx (d + 3) 167 [vR (some l0), vI (4 : Int32)] M5 (fun v M9 => R288 sl sx d M0 P 44 [some (vR (some l0)), some (vI l1), some (vI l2), none, none] (pushO v []) M9) from ⟨h.1, ?_⟩)
        replace h := h.2
        refine callX_mono (callX_len (d := (d + 3)) rfl rfl rfl (c167 (d := d + 2) h)) ?_
        clear h
        rintro v9 M10 ⟨hl, r11, rfl, h⟩
        replace hM := lenT hM hl
        show R288 sl sx d M0 P 44 [some (vR (some l0)), some (vI l1), some (vI l2), none, none] [vI r11] M10
        exact RN_k (callX_det _) 1 _ _ _ _ (show rtW q288 M0 (PI P) (some (vI r11)) M10 from ⟨⟨_, rfl⟩, hM.1, hM.2, _, rfl, h⟩)
    · replace h := h.2 hc
      refine RN_k (callX_det _) 3 _ _ _ _ (show kd M3 l0 10 ∧ callX TBg sl sx (d + 3) 167 [vR (some l0), vI (5 : Int32)] M3 (fun v M9 => R288 sl sx d M0 P 29 [some (vR (some l0)), some (vI l1), some (vI l2), none, none] (pushO v []) M9) from ⟨h.1, ?_⟩)
      replace h := h.2
      refine callX_mono (callX_len (d := (d + 3)) rfl rfl rfl (c167 (d := d + 2) h)) ?_
      clear h
      rintro v9 M12 ⟨hl, r13, rfl, h⟩
      replace hM := lenT hM hl
      show R288 sl sx d M0 P 29 [some (vR (some l0)), some (vI l1), some (vI l2), none, none] [vI r13] M12
      exact RN_k (callX_det _) 1 _ _ _ _ (show rtW q288 M0 (PI P) (some (vI r13)) M12 from ⟨⟨_, rfl⟩, hM.1, hM.2, _, rfl, h⟩)
  · replace h := h.2 hc
    refine RN_k (callX_det _) 3 _ _ _ _ (show kd M1 l0 10 ∧ callX TBg sl sx (d + 3) 167 [vR (some l0), vI (2 : Int32)] M1 (fun v M9 => R288 sl sx d M0 P 14 [some (vR (some l0)), some (vI l1), some (vI l2), none, none] (pushO v []) M9) from ⟨h.1, ?_⟩)
    replace h := h.2
    refine callX_mono (callX_len (d := (d + 3)) rfl rfl rfl (c167 (d := d + 2) h)) ?_
    clear h
    rintro v9 M14 ⟨hl, r15, rfl, h⟩
    replace hM := lenT hM hl
    show R288 sl sx d M0 P 14 [some (vR (some l0)), some (vI l1), some (vI l2), none, none] [vI r15] M14
    exact RN_k (callX_det _) 1 _ _ _ _ (show rtW q288 M0 (PI P) (some (vI r15)) M14 from ⟨⟨_, rfl⟩, hM.1, hM.2, _, rfl, h⟩)
theorem c288 {sl : Nat} {sx : Nat → Int32} {d : Nat} {l0 : Nat} {l1 : Int32} {l2 : Int32} {M : MM} {P : Int32 → MM → Prop} (h : w288 l0 l1 l2 M P) : callX TBg sl sx (d + 4) 288 [vR (some l0), vI l1, vI l2] M (PI P) :=
  cX (d := d + 3) q288 (false, tb288) rfl rfl rfl (t288_E l0 l1 l2 M lenR h)
