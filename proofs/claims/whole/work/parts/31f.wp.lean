/-! ===== printed by program: what must hold that a call ends with what is asked ===== -/
-- TwoLeashModel.isPoint(II)Z
abbrev q183 : MQ7 := (3, 1, 3, 10, 0, 0, 4)
abbrev R183 (sl : Nat) (sx : Nat → Int32) (d : Nat) (M0 : MM) (P : Int32 → MM → Prop) : Nat → LL → List VV → MM → Prop := RN 10 false (mS M0).length (mT M0) 0 0 sl sx (callX TBg sl sx (d + 2)) (rtW q183 M0 (PI P)) (as2 tb183)
def w183_28 (s0 : Int32) (M : MM) (P : Int32 → MM → Prop) : Prop := (s0 = 0 ∨ s0 = 1) ∧ P s0 M
theorem t183_28 {sl : Nat} {sx : Nat → Int32} {d : Nat} {M0 : MM} {P : Int32 → MM → Prop} (s0 : Int32) (M : MM) (hM : lenO M0 M) (h : w183_28  s0 M P) : R183 sl sx d M0 P 28 [none, none, none] [vI s0] M := by
  exact RN_k (callX_det _) 1 _ _ _ _ (show rtW q183 M0 (PI P) (some (vI s0)) M from ⟨⟨_, rfl, h.1⟩, hM.1, hM.2, _, rfl, h.2⟩)
def w183_27 (M : MM) (P : Int32 → MM → Prop) : Prop := w183_28  (0 : Int32) M P
theorem t183_27 {sl : Nat} {sx : Nat → Int32} {d : Nat} {M0 : MM} {P : Int32 → MM → Prop}  (M : MM) (hM : lenO M0 M) (h : w183_27   M P) : R183 sl sx d M0 P 27 [none, none, none] [] M := by
  refine RN_k (callX_det _) 1 _ _ _ _ (show R183 sl sx d M0 P 28 [none, none, none] [vI (0 : Int32)] M from ?_)
  exact RN_weak (K := [none, none, none]) (callX_det _) (show True from trivial) (t183_28  (0 : Int32) _ hM h)
def w183 (l0 : Nat) (l1 : Int32) (l2 : Int32) (M : MM) (P : Int32 → MM → Prop) : Prop := kd M l0 10 ∧ w182 l0 l1 M (fun r2 M1 => (r2 = 0 → (w183_27  M1 P)) ∧ (¬ (r2 = 0) → (kd M1 l0 10 ∧ w180 l0 l1 M1 (fun r4 M3 => w166 l2 (0 : Int32) (r4 - (1 : Int32)) M3 (fun r6 M5 => (r6 = 0 → (w183_27  M5 P)) ∧ (¬ (r6 = 0) → (w183_28  (1 : Int32) M5 P)))))))
theorem t183_E {sl : Nat} {sx : Nat → Int32} {d : Nat} {M0 : MM} {P : Int32 → MM → Prop} (l0 : Nat) (l1 : Int32) (l2 : Int32) (M : MM) (hM : lenO M0 M) (h : w183  l0 l1 l2 M P) : R183 sl sx d M0 P 0 [some (vR (some l0)), some (vI l1), some (vI l2)] [] M := by
  refine RN_k (callX_det _) 3 _ _ _ _ (show kd M l0 10 ∧ callX TBg sl sx (d + 2) 182 [vR (some l0), vI l1] M (fun v M9 => R183 sl sx d M0 P 5 [some (vR (some l0)), some (vI l1), some (vI l2)] (pushO v []) M9) from ⟨h.1, ?_⟩)
  replace h := h.2
  refine callX_mono (callX_len (d := (d + 2)) rfl rfl rfl (c182 (d := d) h)) ?_
  clear h
  rintro v9 M1 ⟨hl, r2, rfl, h⟩
  replace hM := lenT hM hl
  show R183 sl sx d M0 P 5 [some (vR (some l0)), some (vI l1), some (vI l2)] [vI r2] M1
  refine RN_k (callX_det _) 1 _ _ _ _ (show (r2 = 0 → R183 sl sx d M0 P 27 [some (vR (some l0)), some (vI l1), some (vI l2)] [] M1) ∧ (¬ (r2 = 0) → R183 sl sx d M0 P 8 [some (vR (some l0)), some (vI l1), some (vI l2)] [] M1) from ⟨fun hc => ?_, fun hc => ?_⟩)
  · replace h := h.1 hc
    exact RN_weak (K := [none, none, none]) (callX_det _) (show True from trivial) (t183_27   _ hM h)
  · replace h := h.2 hc
    refine RN_k (callX_det _) 5 _ _ _ _ (show kd M1 l0 10 ∧ callX TBg sl sx (d + 2) 180 [vR (some l0), vI l1] M1 (fun v M9 => R183 sl sx d M0 P 15 [some (vR (some l0)), some (vI l1), some (vI l2)] (pushO v [vI (0 : Int32), vI l2]) M9) from ⟨h.1, ?_⟩)
    replace h := h.2
    refine callX_mono (callX_len (d := (d + 2)) rfl rfl rfl (c180 (d := d) h)) ?_
    clear h
    rintro v9 M3 ⟨hl, r4, rfl, h⟩
    replace hM := lenT hM hl
    show R183 sl sx d M0 P 15 [some (vR (some l0)), some (vI l1), some (vI l2)] [vI r4, vI (0 : Int32), vI l2] M3
    refine RN_k (callX_det _) 3 _ _ _ _ (show callX TBg sl sx (d + 2) 166 [vI l2, vI (0 : Int32), vI (r4 - (1 : Int32))] M3 (fun v M9 => R183 sl sx d M0 P 20 [some (vR (some l0)), some (vI l1), some (vI l2)] (pushO v []) M9) from ?_)
    refine callX_mono (callX_len (d := (d + 2)) rfl rfl rfl (c166 (d := d + 1) h)) ?_
    clear h
    rintro v9 M5 ⟨hl, r6, rfl, h⟩
    replace hM := lenT hM hl
    show R183 sl sx d M0 P 20 [some (vR (some l0)), some (vI l1), some (vI l2)] [vI r6] M5
    refine RN_k (callX_det _) 1 _ _ _ _ (show (r6 = 0 → R183 sl sx d M0 P 27 [some (vR (some l0)), some (vI l1), some (vI l2)] [] M5) ∧ (¬ (r6 = 0) → R183 sl sx d M0 P 23 [some (vR (some l0)), some (vI l1), some (vI l2)] [] M5) from ⟨fun hc => ?_, fun hc => ?_⟩)
    · replace h := h.1 hc
      exact RN_weak (K := [none, none, none]) (callX_det _) (show True from trivial) (t183_27   _ hM h)
    · replace h := h.2 hc
      refine RN_k (callX_det _) 2 _ _ _ _ (show R183 sl sx d M0 P 28 [some (vR (some l0)), some (vI l1), some (vI l2)] [vI (1 : Int32)] M5 from ?_)
      exact RN_weak (K := [none, none, none]) (callX_det _) (show True from trivial) (t183_28  (1 : Int32) _ hM h)
theorem c183 {sl : Nat} {sx : Nat → Int32} {d : Nat} {l0 : Nat} {l1 : Int32} {l2 : Int32} {M : MM} {P : Int32 → MM → Prop} (h : w183 l0 l1 l2 M P) : callX TBg sl sx (d + 3) 183 [vR (some l0), vI l1, vI l2] M (PI P) :=
  cX (d := d + 2) q183 (false, tb183) rfl rfl rfl (t183_E l0 l1 l2 M lenR h)
-- TwoLeashModel.x(II)I
abbrev q184 : MQ7 := (3, 1, 3, 10, 0, 0, 1)
abbrev R184 (sl : Nat) (sx : Nat → Int32) (d : Nat) (M0 : MM) (P : Int32 → MM → Prop) : Nat → LL → List VV → MM → Prop := RN 10 false (mS M0).length (mT M0) 0 0 sl sx (callX TBg sl sx (d + 1)) (rtW q184 M0 (PI P)) (as2 tb184)
def w184 (l0 : Nat) (l1 : Int32) (l2 : Int32) (M : MM) (P : Int32 → MM → Prop) : Prop := kd M l0 10 ∧ (w174 l1 M (fun r2 M1 => ∃ a3, mR M l0 0 = some a3 ∧ (inb M1 a3 11 ((r2 + (1 : Int32)) + ((2 : Int32) * l2)) ∧ (P (mI M1 a3 ((r2 + (1 : Int32)) + ((2 : Int32) * l2)).toNatClampNeg) M1))))
theorem t184_E {sl : Nat} {sx : Nat → Int32} {d : Nat} {M0 : MM} {P : Int32 → MM → Prop} (l0 : Nat) (l1 : Int32) (l2 : Int32) (M : MM) (hM : lenO M0 M) (h : w184  l0 l1 l2 M P) : R184 sl sx d M0 P 0 [some (vR (some l0)), some (vI l1), some (vI l2)] [] M := by
  refine RN_k (callX_det _) 2 _ _ _ _ (show kd M l0 10 ∧ R184 sl sx d M0 P 4 [some (vR (some l0)), some (vI l1), some (vI l2)] [vR (mR M l0 0)] M from ⟨h.1, ?_⟩)
  replace h := h.2
  refine RN_k (callX_det _) 2 _ _ _ _ (show callX TBg sl sx (d + 1) 174 [vI l1] M (fun v M9 => R184 sl sx d M0 P 8 [some (vR (some l0)), some (vI l1), some (vI l2)] (pushO v [vR (mR M l0 0)]) M9) from ?_)
  refine callX_mono (callX_len (d := (d + 1)) rfl rfl rfl (c174 (d := d) h)) ?_
  clear h
  rintro v9 M1 ⟨hl, r2, rfl, h⟩
  replace hM := lenT hM hl
  show R184 sl sx d M0 P 8 [some (vR (some l0)), some (vI l1), some (vI l2)] [vI r2, vR (mR M l0 0)] M1
  obtain ⟨a3, he, h⟩ := h
  refine RN_k (callX_det _) 6 _ _ _ _ (show R184 sl sx d M0 P 14 [some (vR (some l0)), some (vI l1), some (vI l2)] [vI ((r2 + (1 : Int32)) + ((2 : Int32) * l2)), vR (mR M l0 0)] M1 from ?_)
  rw [he]
  refine RN_k (callX_det _) 1 _ _ _ _ (show inb M1 a3 11 ((r2 + (1 : Int32)) + ((2 : Int32) * l2)) ∧ R184 sl sx d M0 P 15 [some (vR (some l0)), some (vI l1), some (vI l2)] [vI (mI M1 a3 ((r2 + (1 : Int32)) + ((2 : Int32) * l2)).toNatClampNeg)] M1 from ⟨h.1, ?_⟩)
  replace h := h.2
  exact RN_k (callX_det _) 1 _ _ _ _ (show rtW q184 M0 (PI P) (some (vI (mI M1 a3 ((r2 + (1 : Int32)) + ((2 : Int32) * l2)).toNatClampNeg))) M1 from ⟨⟨_, rfl⟩, hM.1, hM.2, _, rfl, h⟩)
theorem c184 {sl : Nat} {sx : Nat → Int32} {d : Nat} {l0 : Nat} {l1 : Int32} {l2 : Int32} {M : MM} {P : Int32 → MM → Prop} (h : w184 l0 l1 l2 M P) : callX TBg sl sx (d + 2) 184 [vR (some l0), vI l1, vI l2] M (PI P) :=
  cX (d := d + 1) q184 (false, tb184) rfl rfl rfl (t184_E l0 l1 l2 M lenR h)
-- TwoLeashModel.y(II)I
abbrev q185 : MQ7 := (3, 1, 3, 10, 0, 0, 1)
abbrev R185 (sl : Nat) (sx : Nat → Int32) (d : Nat) (M0 : MM) (P : Int32 → MM → Prop) : Nat → LL → List VV → MM → Prop := RN 10 false (mS M0).length (mT M0) 0 0 sl sx (callX TBg sl sx (d + 1)) (rtW q185 M0 (PI P)) (as2 tb185)
def w185 (l0 : Nat) (l1 : Int32) (l2 : Int32) (M : MM) (P : Int32 → MM → Prop) : Prop := kd M l0 10 ∧ (w174 l1 M (fun r2 M1 => ∃ a3, mR M l0 0 = some a3 ∧ (inb M1 a3 11 ((r2 + (2 : Int32)) + ((2 : Int32) * l2)) ∧ (P (mI M1 a3 ((r2 + (2 : Int32)) + ((2 : Int32) * l2)).toNatClampNeg) M1))))
theorem t185_E {sl : Nat} {sx : Nat → Int32} {d : Nat} {M0 : MM} {P : Int32 → MM → Prop} (l0 : Nat) (l1 : Int32) (l2 : Int32) (M : MM) (hM : lenO M0 M) (h : w185  l0 l1 l2 M P) : R185 sl sx d M0 P 0 [some (vR (some l0)), some (vI l1), some (vI l2)] [] M := by
  refine RN_k (callX_det _) 2 _ _ _ _ (show kd M l0 10 ∧ R185 sl sx d M0 P 4 [some (vR (some l0)), some (vI l1), some (vI l2)] [vR (mR M l0 0)] M from ⟨h.1, ?_⟩)
  replace h := h.2
  refine RN_k (callX_det _) 2 _ _ _ _ (show callX TBg sl sx (d + 1) 174 [vI l1] M (fun v M9 => R185 sl sx d M0 P 8 [some (vR (some l0)), some (vI l1), some (vI l2)] (pushO v [vR (mR M l0 0)]) M9) from ?_)
  refine callX_mono (callX_len (d := (d + 1)) rfl rfl rfl (c174 (d := d) h)) ?_
  clear h
  rintro v9 M1 ⟨hl, r2, rfl, h⟩
  replace hM := lenT hM hl
  show R185 sl sx d M0 P 8 [some (vR (some l0)), some (vI l1), some (vI l2)] [vI r2, vR (mR M l0 0)] M1
  obtain ⟨a3, he, h⟩ := h
  refine RN_k (callX_det _) 6 _ _ _ _ (show R185 sl sx d M0 P 14 [some (vR (some l0)), some (vI l1), some (vI l2)] [vI ((r2 + (2 : Int32)) + ((2 : Int32) * l2)), vR (mR M l0 0)] M1 from ?_)
  rw [he]
  refine RN_k (callX_det _) 1 _ _ _ _ (show inb M1 a3 11 ((r2 + (2 : Int32)) + ((2 : Int32) * l2)) ∧ R185 sl sx d M0 P 15 [some (vR (some l0)), some (vI l1), some (vI l2)] [vI (mI M1 a3 ((r2 + (2 : Int32)) + ((2 : Int32) * l2)).toNatClampNeg)] M1 from ⟨h.1, ?_⟩)
  replace h := h.2
  exact RN_k (callX_det _) 1 _ _ _ _ (show rtW q185 M0 (PI P) (some (vI (mI M1 a3 ((r2 + (2 : Int32)) + ((2 : Int32) * l2)).toNatClampNeg))) M1 from ⟨⟨_, rfl⟩, hM.1, hM.2, _, rfl, h⟩)
theorem c185 {sl : Nat} {sx : Nat → Int32} {d : Nat} {l0 : Nat} {l1 : Int32} {l2 : Int32} {M : MM} {P : Int32 → MM → Prop} (h : w185 l0 l1 l2 M P) : callX TBg sl sx (d + 2) 185 [vR (some l0), vI l1, vI l2] M (PI P) :=
  cX (d := d + 1) q185 (false, tb185) rfl rfl rfl (t185_E l0 l1 l2 M lenR h)
-- TwoLeashModel.squareOf(IIII)I
abbrev q187 : MQ7 := (4, 0, 4, 10, 0, 0, 1)
abbrev R187 (sl : Nat) (sx : Nat → Int32) (d : Nat) (M0 : MM) (P : Int32 → MM → Prop) : Nat → LL → List VV → MM → Prop := RN 10 false (mS M0).length (mT M0) 0 0 sl sx (callX TBg sl sx (d + 0)) (rtW q187 M0 (PI P)) (as2 tb187)
def w187 (l0 : Int32) (l1 : Int32) (l2 : Int32) (l3 : Int32) (M : MM) (P : Int32 → MM → Prop) : Prop := P (((l0 - l2) * (l0 - l2)) + ((l1 - l3) * (l1 - l3))) M
theorem t187_E {sl : Nat} {sx : Nat → Int32} {d : Nat} {M0 : MM} {P : Int32 → MM → Prop} (l0 : Int32) (l1 : Int32) (l2 : Int32) (l3 : Int32) (M : MM) (hM : lenO M0 M) (h : w187  l0 l1 l2 l3 M P) : R187 sl sx d M0 P 0 [some (vI l0), some (vI l1), some (vI l2), some (vI l3)] [] M := by
  exact RN_k (callX_det _) 16 _ _ _ _ (show rtW q187 M0 (PI P) (some (vI (((l0 - l2) * (l0 - l2)) + ((l1 - l3) * (l1 - l3))))) M from ⟨⟨_, rfl⟩, hM.1, hM.2, _, rfl, h⟩)
theorem c187 {sl : Nat} {sx : Nat → Int32} {d : Nat} {l0 : Int32} {l1 : Int32} {l2 : Int32} {l3 : Int32} {M : MM} {P : Int32 → MM → Prop} (h : w187 l0 l1 l2 l3 M P) : callX TBg sl sx (d + 1) 187 [vI l0, vI l1, vI l2, vI l3] M (PI P) :=
  cX (d := d + 0) q187 (false, tb187) rfl rfl rfl (t187_E l0 l1 l2 l3 M lenR h)
-- TwoLeashModel.edge(II)I
abbrev q186 : MQ7 := (3, 1, 3, 10, 0, 0, 1)
abbrev R186 (sl : Nat) (sx : Nat → Int32) (d : Nat) (M0 : MM) (P : Int32 → MM → Prop) : Nat → LL → List VV → MM → Prop := RN 10 false (mS M0).length (mT M0) 0 0 sl sx (callX TBg sl sx (d + 2)) (rtW q186 M0 (PI P)) (as2 tb186)
def w186 (l0 : Nat) (l1 : Int32) (l2 : Int32) (M : MM) (P : Int32 → MM → Prop) : Prop := kd M l0 10 ∧ w184 l0 l1 l2 M (fun r2 M1 => kd M1 l0 10 ∧ w185 l0 l1 l2 M1 (fun r4 M3 => kd M3 l0 10 ∧ w184 l0 l1 (l2 + (1 : Int32)) M3 (fun r6 M5 => kd M5 l0 10 ∧ w185 l0 l1 (l2 + (1 : Int32)) M5 (fun r8 M7 => w187 r2 r4 r6 r8 M7 (fun r10 M9 => P r10 M9)))))
theorem t186_E {sl : Nat} {sx : Nat → Int32} {d : Nat} {M0 : MM} {P : Int32 → MM → Prop} (l0 : Nat) (l1 : Int32) (l2 : Int32) (M : MM) (hM : lenO M0 M) (h : w186  l0 l1 l2 M P) : R186 sl sx d M0 P 0 [some (vR (some l0)), some (vI l1), some (vI l2)] [] M := by
  refine RN_k (callX_det _) 4 _ _ _ _ (show kd M l0 10 ∧ callX TBg sl sx (d + 2) 184 [vR (some l0), vI l1, vI l2] M (fun v M9 => R186 sl sx d M0 P 6 [some (vR (some l0)), some (vI l1), some (vI l2)] (pushO v []) M9) from ⟨h.1, ?_⟩)
  replace h := h.2
  refine callX_mono (callX_len (d := (d + 2)) rfl rfl rfl (c184 (d := d) h)) ?_
  clear h
  rintro v9 M1 ⟨hl, r2, rfl, h⟩
  replace hM := lenT hM hl
  show R186 sl sx d M0 P 6 [some (vR (some l0)), some (vI l1), some (vI l2)] [vI r2] M1
  refine RN_k (callX_det _) 4 _ _ _ _ (show kd M1 l0 10 ∧ callX TBg sl sx (d + 2) 185 [vR (some l0), vI l1, vI l2] M1 (fun v M9 => R186 sl sx d M0 P 12 [some (vR (some l0)), some (vI l1), some (vI l2)] (pushO v [vI r2]) M9) from ⟨h.1, ?_⟩)
  replace h := h.2
  refine callX_mono (callX_len (d := (d + 2)) rfl rfl rfl (c185 (d := d) h)) ?_
  clear h
  rintro v9 M3 ⟨hl, r4, rfl, h⟩
  replace hM := lenT hM hl
  show R186 sl sx d M0 P 12 [some (vR (some l0)), some (vI l1), some (vI l2)] [vI r4, vI r2] M3
  refine RN_k (callX_det _) 6 _ _ _ _ (show kd M3 l0 10 ∧ callX TBg sl sx (d + 2) 184 [vR (some l0), vI l1, vI (l2 + (1 : Int32))] M3 (fun v M9 => R186 sl sx d M0 P 20 [some (vR (some l0)), some (vI l1), some (vI l2)] (pushO v [vI r4, vI r2]) M9) from ⟨h.1, ?_⟩)
  replace h := h.2
  refine callX_mono (callX_len (d := (d + 2)) rfl rfl rfl (c184 (d := d) h)) ?_
  clear h
  rintro v9 M5 ⟨hl, r6, rfl, h⟩
  replace hM := lenT hM hl
  show R186 sl sx d M0 P 20 [some (vR (some l0)), some (vI l1), some (vI l2)] [vI r6, vI r4, vI r2] M5
  refine RN_k (callX_det _) 6 _ _ _ _ (show kd M5 l0 10 ∧ callX TBg sl sx (d + 2) 185 [vR (some l0), vI l1, vI (l2 + (1 : Int32))] M5 (fun v M9 => R186 sl sx d M0 P 28 [some (vR (some l0)), some (vI l1), some (vI l2)] (pushO v [vI r6, vI r4, vI r2]) M9) from ⟨h.1, ?_⟩)
  replace h := h.2
  refine callX_mono (callX_len (d := (d + 2)) rfl rfl rfl (c185 (d := d) h)) ?_
  clear h
  rintro v9 M7 ⟨hl, r8, rfl, h⟩
  replace hM := lenT hM hl
  show R186 sl sx d M0 P 28 [some (vR (some l0)), some (vI l1), some (vI l2)] [vI r8, vI r6, vI r4, vI r2] M7
  refine RN_k (callX_det _) 1 _ _ _ _ (show callX TBg sl sx (d + 2) 187 [vI r2, vI r4, vI r6, vI r8] M7 (fun v M9 => R186 sl sx d M0 P 31 [some (vR (some l0)), some (vI l1), some (vI l2)] (pushO v []) M9) from ?_)
  refine callX_mono (callX_len (d := (d + 2)) rfl rfl rfl (c187 (d := d + 1) h)) ?_
  clear h
  rintro v9 M9 ⟨hl, r10, rfl, h⟩
  replace hM := lenT hM hl
  show R186 sl sx d M0 P 31 [some (vR (some l0)), some (vI l1), some (vI l2)] [vI r10] M9
  exact RN_k (callX_det _) 1 _ _ _ _ (show rtW q186 M0 (PI P) (some (vI r10)) M9 from ⟨⟨_, rfl⟩, hM.1, hM.2, _, rfl, h⟩)
theorem c186 {sl : Nat} {sx : Nat → Int32} {d : Nat} {l0 : Nat} {l1 : Int32} {l2 : Int32} {M : MM} {P : Int32 → MM → Prop} (h : w186 l0 l1 l2 M P) : callX TBg sl sx (d + 3) 186 [vR (some l0), vI l1, vI l2] M (PI P) :=
  cX (d := d + 2) q186 (false, tb186) rfl rfl rfl (t186_E l0 l1 l2 M lenR h)
-- TwoLeashModel.way(II)I
abbrev q181 : MQ7 := (3, 1, 6, 10, 0, 0, 1)
abbrev R181 (sl : Nat) (sx : Nat → Int32) (d : Nat) (M0 : MM) (P : Int32 → MM → Prop) : Nat → LL → List VV → MM → Prop := RN 10 false (mS M0).length (mT M0) 0 0 sl sx (callX TBg sl sx (d + 3)) (rtW q181 M0 (PI P)) (as2 tb181)
def w181_193 (s0 : Option Nat) (s1 : Int32) (M : MM) (P : Int32 → MM → Prop) : Prop := ∃ a1, s0 = some a1 ∧ (kd M a1 10 ∧ w177 a1 s1 M (fun r3 M2 => P r3 M2))
theorem t181_193 {sl : Nat} {sx : Nat → Int32} {d : Nat} {M0 : MM} {P : Int32 → MM → Prop} (s0 : Option Nat) (s1 : Int32) (M : MM) (hM : lenO M0 M) (h : w181_193  s0 s1 M P) : R181 sl sx d M0 P 193 [none, none, none, none, none, none] [vI s1, vR s0] M := by
  obtain ⟨a1, he, h⟩ := h
  subst he
  refine RN_k (callX_det _) 1 _ _ _ _ (show kd M a1 10 ∧ callX TBg sl sx (d + 3) 177 [vR (some a1), vI s1] M (fun v M9 => R181 sl sx d M0 P 196 [none, none, none, none, none, none] (pushO v []) M9) from ⟨h.1, ?_⟩)
  replace h := h.2
  refine callX_mono (callX_len (d := (d + 3)) rfl rfl rfl (c177 (d := d + 2) h)) ?_
  clear h
  rintro v9 M2 ⟨hl, r3, rfl, h⟩
  replace hM := lenT hM hl
  show R181 sl sx d M0 P 196 [none, none, none, none, none, none] [vI r3] M2
  exact RN_k (callX_det _) 1 _ _ _ _ (show rtW q181 M0 (PI P) (some (vI r3)) M2 from ⟨⟨_, rfl⟩, hM.1, hM.2, _, rfl, h⟩)
def w181_161 (k115 : Nat → Int32 → Int32 → Int32 → Int32 → Int32 → MM → Prop) (l0 : Nat) (l1 : Int32) (l2 : Int32) (l3 : Int32) (l5 : Int32) (s0 : Int32) (M : MM) (P : Int32 → MM → Prop) : Prop := k115 l0 l1 l2 l3 s0 (l5 + (1 : Int32)) M
theorem t181_161 {sl : Nat} {sx : Nat → Int32} {d : Nat} {M0 : MM} {P : Int32 → MM → Prop} {k115 : Nat → Int32 → Int32 → Int32 → Int32 → Int32 → MM → Prop} (hk115 : ∀ (l0 : Nat) (l1 : Int32) (l2 : Int32) (l3 : Int32) (l4 : Int32) (l5 : Int32) (M : MM), lenO M0 M → k115 l0 l1 l2 l3 l4 l5 M → R181 sl sx d M0 P 115 [some (vR (some l0)), some (vI l1), some (vI l2), some (vI l3), some (vI l4), some (vI l5)] [] M) (l0 : Nat) (l1 : Int32) (l2 : Int32) (l3 : Int32) (l5 : Int32) (s0 : Int32) (M : MM) (hM : lenO M0 M) (h : w181_161 k115 l0 l1 l2 l3 l5 s0 M P) : R181 sl sx d M0 P 161 [some (vR (some l0)), some (vI l1), some (vI l2), some (vI l3), none, some (vI l5)] [vI s0] M := by
  refine RN_k (callX_det _) 3 _ _ _ _ (show R181 sl sx d M0 P 115 [some (vR (some l0)), some (vI l1), some (vI l2), some (vI l3), some (vI s0), some (vI (l5 + (1 : Int32)))] [] M from ?_)
  exact RN_weak (K := [some (vR (some l0)), some (vI l1), some (vI l2), some (vI l3), some (vI s0), some (vI (l5 + (1 : Int32)))]) (callX_det _) (show _ ∧ _ ∧ _ ∧ _ ∧ _ ∧ _ ∧ True from ⟨rfl, rfl, rfl, rfl, rfl, rfl, trivial⟩) (hk115 l0 l1 l2 l3 s0 (l5 + (1 : Int32)) _ hM h)
def w181_115 : Nat → Nat → Int32 → Int32 → Int32 → Int32 → Int32 → MM → (Int32 → MM → Prop) → Prop
  | 0 => fun _ _ _ _ _ _ _ _ => False
  | n + 1 => fun l0 l1 l2 l3 l4 l5 M P => kd M l0 10 ∧ w180 l0 l1 M (fun r2 M1 => (r2 ≤ (l5 + (1 : Int32)) → ((l2 ≠ 0 → ((l2 ≠ (1 : Int32) → (w181_193  (some l0) l4 M1 P)) ∧ (¬ (l2 ≠ (1 : Int32)) → (w181_193  (some l0) l3 M1 P)))) ∧ (¬ (l2 ≠ 0) → (kd M1 l0 10 ∧ w180 l0 l1 M1 (fun r4 M3 => w181_193  (some l0) r4 M3 P))))) ∧ (¬ (r2 ≤ (l5 + (1 : Int32))) → (kd M1 l0 10 ∧ w186 l0 l1 l5 M1 (fun r6 M5 => kd M5 l0 10 ∧ w186 l0 l1 l5 M5 (fun r8 M7 => kd M7 l0 10 ∧ w186 l0 l1 l4 M7 (fun r10 M9 => (r8 ≤ r10 → (w181_161 (fun z0 z1 z2 z3 z4 z5 z6 => w181_115  n z0 z1 z2 z3 z4 z5 z6 P) l0 l1 l2 (l3 + r6) l5 l4 M9 P)) ∧ (¬ (r8 ≤ r10) → (w181_161 (fun z0 z1 z2 z3 z4 z5 z6 => w181_115  n z0 z1 z2 z3 z4 z5 z6 P) l0 l1 l2 (l3 + r6) l5 l5 M9 P))))))))
theorem t181_115 {sl : Nat} {sx : Nat → Int32} {d : Nat} {M0 : MM} {P : Int32 → MM → Prop} (n : Nat) : ∀ (l0 : Nat) (l1 : Int32) (l2 : Int32) (l3 : Int32) (l4 : Int32) (l5 : Int32) (M : MM) (_ : lenO M0 M) (_ : w181_115  n l0 l1 l2 l3 l4 l5 M P), R181 sl sx d M0 P 115 [some (vR (some l0)), some (vI l1), some (vI l2), some (vI l3), some (vI l4), some (vI l5)] [] M := by
  induction n with
  | zero => intro l0 l1 l2 l3 l4 l5 M hM h; cases h
  | succ n ih =>
    intro l0 l1 l2 l3 l4 l5 M hM h
    refine RN_k (callX_det _) 6 _ _ _ _ (show kd M l0 10 ∧ callX TBg sl sx (d + 3) 180 [vR (some l0), vI l1] M (fun v M9 => R181 sl sx d M0 P 124 [some (vR (some l0)), some (vI l1), some (vI l2), some (vI l3), some (vI l4), some (vI l5)] (pushO v [vI (l5 + (1 : Int32))]) M9) from ⟨h.1, ?_⟩)
    replace h := h.2
    refine callX_mono (callX_len (d := (d + 3)) rfl rfl rfl (c180 (d := d + 1) h)) ?_
    clear h
    rintro v9 M1 ⟨hl, r2, rfl, h⟩
    replace hM := lenT hM hl
    show R181 sl sx d M0 P 124 [some (vR (some l0)), some (vI l1), some (vI l2), some (vI l3), some (vI l4), some (vI l5)] [vI r2, vI (l5 + (1 : Int32))] M1
    refine RN_k (callX_det _) 1 _ _ _ _ (show (r2 ≤ (l5 + (1 : Int32)) → R181 sl sx d M0 P 169 [some (vR (some l0)), some (vI l1), some (vI l2), some (vI l3), some (vI l4), some (vI l5)] [] M1) ∧ (¬ (r2 ≤ (l5 + (1 : Int32))) → R181 sl sx d M0 P 127 [some (vR (some l0)), some (vI l1), some (vI l2), some (vI l3), some (vI l4), some (vI l5)] [] M1) from ⟨fun hc => ?_, fun hc => ?_⟩)
    · replace h := h.1 hc
      refine RN_k (callX_det _) 3 _ _ _ _ (show (l2 ≠ 0 → R181 sl sx d M0 P 182 [some (vR (some l0)), some (vI l1), some (vI l2), some (vI l3), some (vI l4), some (vI l5)] [vR (some l0)] M1) ∧ (¬ (l2 ≠ 0) → R181 sl sx d M0 P 174 [some (vR (some l0)), some (vI l1), some (vI l2), some (vI l3), some (vI l4), some (vI l5)] [vR (some l0)] M1) from ⟨fun hc => ?_, fun hc => ?_⟩)
      · replace h := h.1 hc
        refine RN_k (callX_det _) 3 _ _ _ _ (show (l2 ≠ (1 : Int32) → R181 sl sx d M0 P 191 [some (vR (some l0)), some (vI l1), some (vI l2), some (vI l3), some (vI l4), some (vI l5)] [vR (some l0)] M1) ∧ (¬ (l2 ≠ (1 : Int32)) → R181 sl sx d M0 P 187 [some (vR (some l0)), some (vI l1), some (vI l2), some (vI l3), some (vI l4), some (vI l5)] [vR (some l0)] M1) from ⟨fun hc => ?_, fun hc => ?_⟩)
        · replace h := h.1 hc
          refine RN_k (callX_det _) 1 _ _ _ _ (show R181 sl sx d M0 P 193 [some (vR (some l0)), some (vI l1), some (vI l2), some (vI l3), some (vI l4), some (vI l5)] [vI l4, vR (some l0)] M1 from ?_)
          exact RN_weak (K := [none, none, none, none, none, none]) (callX_det _) (show True from trivial) (t181_193  (some l0) l4 _ hM h)
        · replace h := h.2 hc
          refine RN_k (callX_det _) 2 _ _ _ _ (show R181 sl sx d M0 P 193 [some (vR (some l0)), some (vI l1), some (vI l2), some (vI l3), some (vI l4), some (vI l5)] [vI l3, vR (some l0)] M1 from ?_)
          exact RN_weak (K := [none, none, none, none, none, none]) (callX_det _) (show True from trivial) (t181_193  (some l0) l3 _ hM h)
      · replace h := h.2 hc
        refine RN_k (callX_det _) 3 _ _ _ _ (show kd M1 l0 10 ∧ callX TBg sl sx (d + 3) 180 [vR (some l0), vI l1] M1 (fun v M9 => R181 sl sx d M0 P 179 [some (vR (some l0)), some (vI l1), some (vI l2), some (vI l3), some (vI l4), some (vI l5)] (pushO v [vR (some l0)]) M9) from ⟨h.1, ?_⟩)
        replace h := h.2
        refine callX_mono (callX_len (d := (d + 3)) rfl rfl rfl (c180 (d := d + 1) h)) ?_
        clear h
        rintro v9 M3 ⟨hl, r4, rfl, h⟩
        replace hM := lenT hM hl
        show R181 sl sx d M0 P 179 [some (vR (some l0)), some (vI l1), some (vI l2), some (vI l3), some (vI l4), some (vI l5)] [vI r4, vR (some l0)] M3
        refine RN_k (callX_det _) 1 _ _ _ _ (show R181 sl sx d M0 P 193 [some (vR (some l0)), some (vI l1), some (vI l2), some (vI l3), some (vI l4), some (vI l5)] [vI r4, vR (some l0)] M3 from ?_)
        exact RN_weak (K := [none, none, none, none, none, none]) (callX_det _) (show True from trivial) (t181_193  (some l0) r4 _ hM h)
    · replace h := h.2 hc
      refine RN_k (callX_det _) 5 _ _ _ _ (show kd M1 l0 10 ∧ callX TBg sl sx (d + 3) 186 [vR (some l0), vI l1, vI l5] M1 (fun v M9 => R181 sl sx d M0 P 135 [some (vR (some l0)), some (vI l1), some (vI l2), some (vI l3), some (vI l4), some (vI l5)] (pushO v [vI l3]) M9) from ⟨h.1, ?_⟩)
      replace h := h.2
      refine callX_mono (callX_len (d := (d + 3)) rfl rfl rfl (c186 (d := d) h)) ?_
      clear h
      rintro v9 M5 ⟨hl, r6, rfl, h⟩
      replace hM := lenT hM hl
      show R181 sl sx d M0 P 135 [some (vR (some l0)), some (vI l1), some (vI l2), some (vI l3), some (vI l4), some (vI l5)] [vI r6, vI l3] M5
      refine RN_k (callX_det _) 6 _ _ _ _ (show kd M5 l0 10 ∧ callX TBg sl sx (d + 3) 186 [vR (some l0), vI l1, vI l5] M5 (fun v M9 => R181 sl sx d M0 P 144 [some (vR (some l0)), some (vI l1), some (vI l2), some (vI (l3 + r6)), some (vI l4), some (vI l5)] (pushO v []) M9) from ⟨h.1, ?_⟩)
      replace h := h.2
      refine callX_mono (callX_len (d := (d + 3)) rfl rfl rfl (c186 (d := d) h)) ?_
      clear h
      rintro v9 M7 ⟨hl, r8, rfl, h⟩
      replace hM := lenT hM hl
      show R181 sl sx d M0 P 144 [some (vR (some l0)), some (vI l1), some (vI l2), some (vI (l3 + r6)), some (vI l4), some (vI l5)] [vI r8] M7
      refine RN_k (callX_det _) 4 _ _ _ _ (show kd M7 l0 10 ∧ callX TBg sl sx (d + 3) 186 [vR (some l0), vI l1, vI l4] M7 (fun v M9 => R181 sl sx d M0 P 151 [some (vR (some l0)), some (vI l1), some (vI l2), some (vI (l3 + r6)), some (vI l4), some (vI l5)] (pushO v [vI r8]) M9) from ⟨h.1, ?_⟩)
      replace h := h.2
      refine callX_mono (callX_len (d := (d + 3)) rfl rfl rfl (c186 (d := d) h)) ?_
      clear h
      rintro v9 M9 ⟨hl, r10, rfl, h⟩
      replace hM := lenT hM hl
      show R181 sl sx d M0 P 151 [some (vR (some l0)), some (vI l1), some (vI l2), some (vI (l3 + r6)), some (vI l4), some (vI l5)] [vI r10, vI r8] M9
      refine RN_k (callX_det _) 1 _ _ _ _ (show (r8 ≤ r10 → R181 sl sx d M0 P 159 [some (vR (some l0)), some (vI l1), some (vI l2), some (vI (l3 + r6)), some (vI l4), some (vI l5)] [] M9) ∧ (¬ (r8 ≤ r10) → R181 sl sx d M0 P 154 [some (vR (some l0)), some (vI l1), some (vI l2), some (vI (l3 + r6)), some (vI l4), some (vI l5)] [] M9) from ⟨fun hc => ?_, fun hc => ?_⟩)
      · replace h := h.1 hc
        refine RN_k (callX_det _) 1 _ _ _ _ (show R181 sl sx d M0 P 161 [some (vR (some l0)), some (vI l1), some (vI l2), some (vI (l3 + r6)), some (vI l4), some (vI l5)] [vI l4] M9 from ?_)
        exact RN_weak (K := [some (vR (some l0)), some (vI l1), some (vI l2), some (vI (l3 + r6)), none, some (vI l5)]) (callX_det _) (show _ ∧ _ ∧ _ ∧ _ ∧ _ ∧ True from ⟨rfl, rfl, rfl, rfl, rfl, trivial⟩) (t181_161 ih l0 l1 l2 (l3 + r6) l5 l4 _ hM h)
      · replace h := h.2 hc
        refine RN_k (callX_det _) 2 _ _ _ _ (show R181 sl sx d M0 P 161 [some (vR (some l0)), some (vI l1), some (vI l2), some (vI (l3 + r6)), some (vI l4), some (vI l5)] [vI l5] M9 from ?_)
        exact RN_weak (K := [some (vR (some l0)), some (vI l1), some (vI l2), some (vI (l3 + r6)), none, some (vI l5)]) (callX_det _) (show _ ∧ _ ∧ _ ∧ _ ∧ _ ∧ True from ⟨rfl, rfl, rfl, rfl, rfl, trivial⟩) (t181_161 ih l0 l1 l2 (l3 + r6) l5 l5 _ hM h)
def w181_103 (s0 : Option Nat) (s1 : Int32) (M : MM) (P : Int32 → MM → Prop) : Prop := ∃ a1, s0 = some a1 ∧ (kd M a1 10 ∧ w177 a1 s1 M (fun r3 M2 => P r3 M2))
theorem t181_103 {sl : Nat} {sx : Nat → Int32} {d : Nat} {M0 : MM} {P : Int32 → MM → Prop} (s0 : Option Nat) (s1 : Int32) (M : MM) (hM : lenO M0 M) (h : w181_103  s0 s1 M P) : R181 sl sx d M0 P 103 [none, none, none, none, none, none] [vI s1, vR s0] M := by
  obtain ⟨a1, he, h⟩ := h
  subst he
  refine RN_k (callX_det _) 1 _ _ _ _ (show kd M a1 10 ∧ callX TBg sl sx (d + 3) 177 [vR (some a1), vI s1] M (fun v M9 => R181 sl sx d M0 P 106 [none, none, none, none, none, none] (pushO v []) M9) from ⟨h.1, ?_⟩)
  replace h := h.2
  refine callX_mono (callX_len (d := (d + 3)) rfl rfl rfl (c177 (d := d + 2) h)) ?_
  clear h
  rintro v9 M2 ⟨hl, r3, rfl, h⟩
  replace hM := lenT hM hl
  show R181 sl sx d M0 P 106 [none, none, none, none, none, none] [vI r3] M2
  exact RN_k (callX_det _) 1 _ _ _ _ (show rtW q181 M0 (PI P) (some (vI r3)) M2 from ⟨⟨_, rfl⟩, hM.1, hM.2, _, rfl, h⟩)
def w181_37 (l0 : Nat) (l1 : Int32) (l2 : Int32) (M : MM) (P : Int32 → MM → Prop) : Prop := kd M l0 10 ∧ w182 l0 l1 M (fun r2 M1 => (r2 ≠ 0 → ((l2 < (10 : Int32) → (∃ n2, w181_115  n2 l0 l1 l2 (0 : Int32) (0 : Int32) (0 : Int32) M1 P)) ∧ (¬ (l2 < (10 : Int32)) → (¬ (10 : Int32) = 0 ∧ (kd M1 l0 10 ∧ w183 l0 l1 (l2 - l2 / (10 : Int32) * (10 : Int32)) M1 (fun r4 M3 => (r4 ≠ 0 → (((20 : Int32) ≤ l2 → (kd M3 l0 10 ∧ w185 l0 l1 (l2 - (20 : Int32)) M3 (fun r6 M5 => w181_103  (some l0) r6 M5 P))) ∧ (¬ ((20 : Int32) ≤ l2) → (kd M3 l0 10 ∧ w184 l0 l1 (l2 - (10 : Int32)) M3 (fun r8 M7 => w181_103  (some l0) r8 M7 P))))) ∧ (¬ (r4 ≠ 0) → (kd M3 l0 10 ∧ w167 l0 (2 : Int32) M3 (fun r10 M9 => P r10 M9))))))))) ∧ (¬ (r2 ≠ 0) → (kd M1 l0 10 ∧ w167 l0 (2 : Int32) M1 (fun r12 M11 => P r12 M11))))
theorem t181_37 {sl : Nat} {sx : Nat → Int32} {d : Nat} {M0 : MM} {P : Int32 → MM → Prop} (l0 : Nat) (l1 : Int32) (l2 : Int32) (M : MM) (hM : lenO M0 M) (h : w181_37  l0 l1 l2 M P) : R181 sl sx d M0 P 37 [some (vR (some l0)), some (vI l1), some (vI l2), none, none, none] [] M := by
  refine RN_k (callX_det _) 3 _ _ _ _ (show kd M l0 10 ∧ callX TBg sl sx (d + 3) 182 [vR (some l0), vI l1] M (fun v M9 => R181 sl sx d M0 P 42 [some (vR (some l0)), some (vI l1), some (vI l2), none, none, none] (pushO v []) M9) from ⟨h.1, ?_⟩)
  replace h := h.2
  refine callX_mono (callX_len (d := (d + 3)) rfl rfl rfl (c182 (d := d + 1) h)) ?_
  clear h
  rintro v9 M1 ⟨hl, r2, rfl, h⟩
  replace hM := lenT hM hl
  show R181 sl sx d M0 P 42 [some (vR (some l0)), some (vI l1), some (vI l2), none, none, none] [vI r2] M1
  refine RN_k (callX_det _) 1 _ _ _ _ (show (r2 ≠ 0 → R181 sl sx d M0 P 51 [some (vR (some l0)), some (vI l1), some (vI l2), none, none, none] [] M1) ∧ (¬ (r2 ≠ 0) → R181 sl sx d M0 P 45 [some (vR (some l0)), some (vI l1), some (vI l2), none, none, none] [] M1) from ⟨fun hc => ?_, fun hc => ?_⟩)
  · replace h := h.1 hc
    refine RN_k (callX_det _) 3 _ _ _ _ (show (l2 < (10 : Int32) → R181 sl sx d M0 P 107 [some (vR (some l0)), some (vI l1), some (vI l2), none, none, none] [] M1) ∧ (¬ (l2 < (10 : Int32)) → R181 sl sx d M0 P 57 [some (vR (some l0)), some (vI l1), some (vI l2), none, none, none] [] M1) from ⟨fun hc => ?_, fun hc => ?_⟩)
    · replace h := h.1 hc
      refine RN_k (callX_det _) 6 _ _ _ _ (show R181 sl sx d M0 P 115 [some (vR (some l0)), some (vI l1), some (vI l2), some (vI (0 : Int32)), some (vI (0 : Int32)), some (vI (0 : Int32))] [] M1 from ?_)
      obtain ⟨n2, h⟩ := h
      exact RN_weak (K := [some (vR (some l0)), some (vI l1), some (vI l2), some (vI (0 : Int32)), some (vI (0 : Int32)), some (vI (0 : Int32))]) (callX_det _) (show _ ∧ _ ∧ _ ∧ _ ∧ _ ∧ _ ∧ True from ⟨rfl, rfl, rfl, rfl, rfl, rfl, trivial⟩) (t181_115  n2 l0 l1 l2 (0 : Int32) (0 : Int32) (0 : Int32) _ hM h)
    · replace h := h.2 hc
      refine RN_k (callX_det _) 5 _ _ _ _ (show ¬ (10 : Int32) = 0 ∧ R181 sl sx d M0 P 63 [some (vR (some l0)), some (vI l1), some (vI l2), none, none, none] [vI (l2 - l2 / (10 : Int32) * (10 : Int32)), vI l1, vR (some l0)] M1 from ⟨h.1, ?_⟩)
      replace h := h.2
      refine RN_k (callX_det _) 1 _ _ _ _ (show kd M1 l0 10 ∧ callX TBg sl sx (d + 3) 183 [vR (some l0), vI l1, vI (l2 - l2 / (10 : Int32) * (10 : Int32))] M1 (fun v M9 => R181 sl sx d M0 P 66 [some (vR (some l0)), some (vI l1), some (vI l2), none, none, none] (pushO v []) M9) from ⟨h.1, ?_⟩)
      replace h := h.2
      refine callX_mono (callX_len (d := (d + 3)) rfl rfl rfl (c183 (d := d) h)) ?_
      clear h
      rintro v9 M3 ⟨hl, r4, rfl, h⟩
      replace hM := lenT hM hl
      show R181 sl sx d M0 P 66 [some (vR (some l0)), some (vI l1), some (vI l2), none, none, none] [vI r4] M3
      refine RN_k (callX_det _) 1 _ _ _ _ (show (r4 ≠ 0 → R181 sl sx d M0 P 75 [some (vR (some l0)), some (vI l1), some (vI l2), none, none, none] [] M3) ∧ (¬ (r4 ≠ 0) → R181 sl sx d M0 P 69 [some (vR (some l0)), some (vI l1), some (vI l2), none, none, none] [] M3) from ⟨fun hc => ?_, fun hc => ?_⟩)
      · replace h := h.1 hc
        refine RN_k (callX_det _) 4 _ _ _ _ (show ((20 : Int32) ≤ l2 → R181 sl sx d M0 P 94 [some (vR (some l0)), some (vI l1), some (vI l2), none, none, none] [vR (some l0)] M3) ∧ (¬ ((20 : Int32) ≤ l2) → R181 sl sx d M0 P 82 [some (vR (some l0)), some (vI l1), some (vI l2), none, none, none] [vR (some l0)] M3) from ⟨fun hc => ?_, fun hc => ?_⟩)
        · replace h := h.1 hc
          refine RN_k (callX_det _) 6 _ _ _ _ (show kd M3 l0 10 ∧ callX TBg sl sx (d + 3) 185 [vR (some l0), vI l1, vI (l2 - (20 : Int32))] M3 (fun v M9 => R181 sl sx d M0 P 103 [some (vR (some l0)), some (vI l1), some (vI l2), none, none, none] (pushO v [vR (some l0)]) M9) from ⟨h.1, ?_⟩)
          replace h := h.2
          refine callX_mono (callX_len (d := (d + 3)) rfl rfl rfl (c185 (d := d + 1) h)) ?_
          clear h
          rintro v9 M5 ⟨hl, r6, rfl, h⟩
          replace hM := lenT hM hl
          show R181 sl sx d M0 P 103 [some (vR (some l0)), some (vI l1), some (vI l2), none, none, none] [vI r6, vR (some l0)] M5
          exact RN_weak (K := [none, none, none, none, none, none]) (callX_det _) (show True from trivial) (t181_103  (some l0) r6 _ hM h)
        · replace h := h.2 hc
          refine RN_k (callX_det _) 6 _ _ _ _ (show kd M3 l0 10 ∧ callX TBg sl sx (d + 3) 184 [vR (some l0), vI l1, vI (l2 - (10 : Int32))] M3 (fun v M9 => R181 sl sx d M0 P 91 [some (vR (some l0)), some (vI l1), some (vI l2), none, none, none] (pushO v [vR (some l0)]) M9) from ⟨h.1, ?_⟩)
          replace h := h.2
          refine callX_mono (callX_len (d := (d + 3)) rfl rfl rfl (c184 (d := d + 1) h)) ?_
          clear h
          rintro v9 M7 ⟨hl, r8, rfl, h⟩
          replace hM := lenT hM hl
          show R181 sl sx d M0 P 91 [some (vR (some l0)), some (vI l1), some (vI l2), none, none, none] [vI r8, vR (some l0)] M7
          refine RN_k (callX_det _) 1 _ _ _ _ (show R181 sl sx d M0 P 103 [some (vR (some l0)), some (vI l1), some (vI l2), none, none, none] [vI r8, vR (some l0)] M7 from ?_)
          exact RN_weak (K := [none, none, none, none, none, none]) (callX_det _) (show True from trivial) (t181_103  (some l0) r8 _ hM h)
      · replace h := h.2 hc
        refine RN_k (callX_det _) 3 _ _ _ _ (show kd M3 l0 10 ∧ callX TBg sl sx (d + 3) 167 [vR (some l0), vI (2 : Int32)] M3 (fun v M9 => R181 sl sx d M0 P 74 [some (vR (some l0)), some (vI l1), some (vI l2), none, none, none] (pushO v []) M9) from ⟨h.1, ?_⟩)
        replace h := h.2
        refine callX_mono (callX_len (d := (d + 3)) rfl rfl rfl (c167 (d := d + 2) h)) ?_
        clear h
        rintro v9 M9 ⟨hl, r10, rfl, h⟩
        replace hM := lenT hM hl
        show R181 sl sx d M0 P 74 [some (vR (some l0)), some (vI l1), some (vI l2), none, none, none] [vI r10] M9
        exact RN_k (callX_det _) 1 _ _ _ _ (show rtW q181 M0 (PI P) (some (vI r10)) M9 from ⟨⟨_, rfl⟩, hM.1, hM.2, _, rfl, h⟩)
  · replace h := h.2 hc
    refine RN_k (callX_det _) 3 _ _ _ _ (show kd M1 l0 10 ∧ callX TBg sl sx (d + 3) 167 [vR (some l0), vI (2 : Int32)] M1 (fun v M9 => R181 sl sx d M0 P 50 [some (vR (some l0)), some (vI l1), some (vI l2), none, none, none] (pushO v []) M9) from ⟨h.1, ?_⟩)
    replace h := h.2
    refine callX_mono (callX_len (d := (d + 3)) rfl rfl rfl (c167 (d := d + 2) h)) ?_
    clear h
    rintro v9 M11 ⟨hl, r12, rfl, h⟩
    replace hM := lenT hM hl
    show R181 sl sx d M0 P 50 [some (vR (some l0)), some (vI l1), some (vI l2), none, none, none] [vI r12] M11
    exact RN_k (callX_det _) 1 _ _ _ _ (show rtW q181 M0 (PI P) (some (vI r12)) M11 from ⟨⟨_, rfl⟩, hM.1, hM.2, _, rfl, h⟩)
def w181 (l0 : Nat) (l1 : Int32) (l2 : Int32) (M : MM) (P : Int32 → MM → Prop) : Prop := w166 l2 (0 : Int32) (2 : Int32) M (fun r2 M1 => (r2 ≠ 0 → (w181_37  l0 l1 l2 M1 P)) ∧ (¬ (r2 ≠ 0) → (w166 l2 (10 : Int32) (17 : Int32) M1 (fun r4 M3 => (r4 ≠ 0 → (w181_37  l0 l1 l2 M3 P)) ∧ (¬ (r4 ≠ 0) → (w166 l2 (20 : Int32) (27 : Int32) M3 (fun r6 M5 => (r6 ≠ 0 → (w181_37  l0 l1 l2 M5 P)) ∧ (¬ (r6 ≠ 0) → (kd M5 l0 10 ∧ w167 l0 (1 : Int32) M5 (fun r8 M7 => P r8 M7))))))))))
theorem t181_E {sl : Nat} {sx : Nat → Int32} {d : Nat} {M0 : MM} {P : Int32 → MM → Prop} (l0 : Nat) (l1 : Int32) (l2 : Int32) (M : MM) (hM : lenO M0 M) (h : w181  l0 l1 l2 M P) : R181 sl sx d M0 P 0 [some (vR (some l0)), some (vI l1), some (vI l2), none, none, none] [] M := by
  refine RN_k (callX_det _) 4 _ _ _ _ (show callX TBg sl sx (d + 3) 166 [vI l2, vI (0 : Int32), vI (2 : Int32)] M (fun v M9 => R181 sl sx d M0 P 6 [some (vR (some l0)), some (vI l1), some (vI l2), none, none, none] (pushO v []) M9) from ?_)
  refine callX_mono (callX_len (d := (d + 3)) rfl rfl rfl (c166 (d := d + 2) h)) ?_
  clear h
  rintro v9 M1 ⟨hl, r2, rfl, h⟩
  replace hM := lenT hM hl
  show R181 sl sx d M0 P 6 [some (vR (some l0)), some (vI l1), some (vI l2), none, none, none] [vI r2] M1
  refine RN_k (callX_det _) 1 _ _ _ _ (show (r2 ≠ 0 → R181 sl sx d M0 P 37 [some (vR (some l0)), some (vI l1), some (vI l2), none, none, none] [] M1) ∧ (¬ (r2 ≠ 0) → R181 sl sx d M0 P 9 [some (vR (some l0)), some (vI l1), some (vI l2), none, none, none] [] M1) from ⟨fun hc => ?_, fun hc => ?_⟩)
  · replace h := h.1 hc
    exact RN_weak (K := [some (vR (some l0)), some (vI l1), some (vI l2), none, none, none]) (callX_det _) (show _ ∧ _ ∧ _ ∧ True from ⟨rfl, rfl, rfl, trivial⟩) (t181_37  l0 l1 l2 _ hM h)
  · replace h := h.2 hc
    refine RN_k (callX_det _) 4 _ _ _ _ (show callX TBg sl sx (d + 3) 166 [vI l2, vI (10 : Int32), vI (17 : Int32)] M1 (fun v M9 => R181 sl sx d M0 P 17 [some (vR (some l0)), some (vI l1), some (vI l2), none, none, none] (pushO v []) M9) from ?_)
    refine callX_mono (callX_len (d := (d + 3)) rfl rfl rfl (c166 (d := d + 2) h)) ?_
    clear h
    rintro v9 M3 ⟨hl, r4, rfl, h⟩
    replace hM := lenT hM hl
    show R181 sl sx d M0 P 17 [some (vR (some l0)), some (vI l1), some (vI l2), none, none, none] [vI r4] M3
    refine RN_k (callX_det _) 1 _ _ _ _ (show (r4 ≠ 0 → R181 sl sx d M0 P 37 [some (vR (some l0)), some (vI l1), some (vI l2), none, none, none] [] M3) ∧ (¬ (r4 ≠ 0) → R181 sl sx d M0 P 20 [some (vR (some l0)), some (vI l1), some (vI l2), none, none, none] [] M3) from ⟨fun hc => ?_, fun hc => ?_⟩)
    · replace h := h.1 hc
      exact RN_weak (K := [some (vR (some l0)), some (vI l1), some (vI l2), none, none, none]) (callX_det _) (show _ ∧ _ ∧ _ ∧ True from ⟨rfl, rfl, rfl, trivial⟩) (t181_37  l0 l1 l2 _ hM h)
    · replace h := h.2 hc
      refine RN_k (callX_det _) 4 _ _ _ _ (show callX TBg sl sx (d + 3) 166 [vI l2, vI (20 : Int32), vI (27 : Int32)] M3 (fun v M9 => R181 sl sx d M0 P 28 [some (vR (some l0)), some (vI l1), some (vI l2), none, none, none] (pushO v []) M9) from ?_)
      refine callX_mono (callX_len (d := (d + 3)) rfl rfl rfl (c166 (d := d + 2) h)) ?_
      clear h
      rintro v9 M5 ⟨hl, r6, rfl, h⟩
      replace hM := lenT hM hl
      show R181 sl sx d M0 P 28 [some (vR (some l0)), some (vI l1), some (vI l2), none, none, none] [vI r6] M5
      refine RN_k (callX_det _) 1 _ _ _ _ (show (r6 ≠ 0 → R181 sl sx d M0 P 37 [some (vR (some l0)), some (vI l1), some (vI l2), none, none, none] [] M5) ∧ (¬ (r6 ≠ 0) → R181 sl sx d M0 P 31 [some (vR (some l0)), some (vI l1), some (vI l2), none, none, none] [] M5) from ⟨fun hc => ?_, fun hc => ?_⟩)
      · replace h := h.1 hc
        exact RN_weak (K := [some (vR (some l0)), some (vI l1), some (vI l2), none, none, none]) (callX_det _) (show _ ∧ _ ∧ _ ∧ True from ⟨rfl, rfl, rfl, trivial⟩) (t181_37  l0 l1 l2 _ hM h)
      · replace h := h.2 hc
        refine RN_k (callX_det _) 3 _ _ _ _ (show kd M5 l0 10 ∧ callX TBg sl sx (d + 3) 167 [vR (some l0), vI (1 : Int32)] M5 (fun v M9 => R181 sl sx d M0 P 36 [some (vR (some l0)), some (vI l1), some (vI l2), none, none, none] (pushO v []) M9) from ⟨h.1, ?_⟩)
        replace h := h.2
        refine callX_mono (callX_len (d := (d + 3)) rfl rfl rfl (c167 (d := d + 2) h)) ?_
        clear h
        rintro v9 M7 ⟨hl, r8, rfl, h⟩
        replace hM := lenT hM hl
        show R181 sl sx d M0 P 36 [some (vR (some l0)), some (vI l1), some (vI l2), none, none, none] [vI r8] M7
        exact RN_k (callX_det _) 1 _ _ _ _ (show rtW q181 M0 (PI P) (some (vI r8)) M7 from ⟨⟨_, rfl⟩, hM.1, hM.2, _, rfl, h⟩)
theorem c181 {sl : Nat} {sx : Nat → Int32} {d : Nat} {l0 : Nat} {l1 : Int32} {l2 : Int32} {M : MM} {P : Int32 → MM → Prop} (h : w181 l0 l1 l2 M P) : callX TBg sl sx (d + 4) 181 [vR (some l0), vI l1, vI l2] M (PI P) :=
  cX (d := d + 3) q181 (false, tb181) rfl rfl rfl (t181_E l0 l1 l2 M lenR h)
-- TwoLeashModel.square(IIII)I
abbrev q188 : MQ7 := (5, 1, 5, 10, 0, 0, 1)
abbrev R188 (sl : Nat) (sx : Nat → Int32) (d : Nat) (M0 : MM) (P : Int32 → MM → Prop) : Nat → LL → List VV → MM → Prop := RN 10 false (mS M0).length (mT M0) 0 0 sl sx (callX TBg sl sx (d + 3)) (rtW q188 M0 (PI P)) (as2 tb188)
def w188_19 (l0 : Nat) (M : MM) (P : Int32 → MM → Prop) : Prop := kd M l0 10 ∧ w167 l0 (2 : Int32) M (fun r2 M1 => P r2 M1)
theorem t188_19 {sl : Nat} {sx : Nat → Int32} {d : Nat} {M0 : MM} {P : Int32 → MM → Prop} (l0 : Nat) (M : MM) (hM : lenO M0 M) (h : w188_19  l0 M P) : R188 sl sx d M0 P 19 [some (vR (some l0)), none, none, none, none] [] M := by
  refine RN_k (callX_det _) 3 _ _ _ _ (show kd M l0 10 ∧ callX TBg sl sx (d + 3) 167 [vR (some l0), vI (2 : Int32)] M (fun v M9 => R188 sl sx d M0 P 24 [some (vR (some l0)), none, none, none, none] (pushO v []) M9) from ⟨h.1, ?_⟩)
  replace h := h.2
  refine callX_mono (callX_len (d := (d + 3)) rfl rfl rfl (c167 (d := d + 2) h)) ?_
  clear h
  rintro v9 M1 ⟨hl, r2, rfl, h⟩
  replace hM := lenT hM hl
  show R188 sl sx d M0 P 24 [some (vR (some l0)), none, none, none, none] [vI r2] M1
  exact RN_k (callX_det _) 1 _ _ _ _ (show rtW q188 M0 (PI P) (some (vI r2)) M1 from ⟨⟨_, rfl⟩, hM.1, hM.2, _, rfl, h⟩)
def w188 (l0 : Nat) (l1 : Int32) (l2 : Int32) (l3 : Int32) (l4 : Int32) (M : MM) (P : Int32 → MM → Prop) : Prop := kd M l0 10 ∧ w183 l0 l1 l2 M (fun r2 M1 => (r2 = 0 → (w188_19  l0 M1 P)) ∧ (¬ (r2 = 0) → (kd M1 l0 10 ∧ w183 l0 l3 l4 M1 (fun r4 M3 => (r4 ≠ 0 → (kd M3 l0 10 ∧ w184 l0 l1 l2 M3 (fun r6 M5 => kd M5 l0 10 ∧ w185 l0 l1 l2 M5 (fun r8 M7 => kd M7 l0 10 ∧ w184 l0 l3 l4 M7 (fun r10 M9 => kd M9 l0 10 ∧ w185 l0 l3 l4 M9 (fun r12 M11 => w187 r6 r8 r10 r12 M11 (fun r14 M13 => kd M13 l0 10 ∧ w177 l0 r14 M13 (fun r16 M15 => P r16 M15)))))))) ∧ (¬ (r4 ≠ 0) → (w188_19  l0 M3 P))))))
theorem t188_E {sl : Nat} {sx : Nat → Int32} {d : Nat} {M0 : MM} {P : Int32 → MM → Prop} (l0 : Nat) (l1 : Int32) (l2 : Int32) (l3 : Int32) (l4 : Int32) (M : MM) (hM : lenO M0 M) (h : w188  l0 l1 l2 l3 l4 M P) : R188 sl sx d M0 P 0 [some (vR (some l0)), some (vI l1), some (vI l2), some (vI l3), some (vI l4)] [] M := by
  refine RN_k (callX_det _) 4 _ _ _ _ (show kd M l0 10 ∧ callX TBg sl sx (d + 3) 183 [vR (some l0), vI l1, vI l2] M (fun v M9 => R188 sl sx d M0 P 6 [some (vR (some l0)), some (vI l1), some (vI l2), some (vI l3), some (vI l4)] (pushO v []) M9) from ⟨h.1, ?_⟩)
  replace h := h.2
  refine callX_mono (callX_len (d := (d + 3)) rfl rfl rfl (c183 (d := d) h)) ?_
  clear h
  rintro v9 M1 ⟨hl, r2, rfl, h⟩
  replace hM := lenT hM hl
  show R188 sl sx d M0 P 6 [some (vR (some l0)), some (vI l1), some (vI l2), some (vI l3), some (vI l4)] [vI r2] M1
  refine RN_k (callX_det _) 1 _ _ _ _ (show (r2 = 0 → R188 sl sx d M0 P 19 [some (vR (some l0)), some (vI l1), some (vI l2), some (vI l3), some (vI l4)] [] M1) ∧ (¬ (r2 = 0) → R188 sl sx d M0 P 9 [some (vR (some l0)), some (vI l1), some (vI l2), some (vI l3), some (vI l4)] [] M1) from ⟨fun hc => ?_, fun hc => ?_⟩)
  · replace h := h.1 hc
    exact RN_weak (K := [some (vR (some l0)), none, none, none, none]) (callX_det _) (show _ ∧ True from ⟨rfl, trivial⟩) (t188_19  l0 _ hM h)
  · replace h := h.2 hc
    refine RN_k (callX_det _) 4 _ _ _ _ (show kd M1 l0 10 ∧ callX TBg sl sx (d + 3) 183 [vR (some l0), vI l3, vI l4] M1 (fun v M9 => R188 sl sx d M0 P 16 [some (vR (some l0)), some (vI l1), some (vI l2), some (vI l3), some (vI l4)] (pushO v []) M9) from ⟨h.1, ?_⟩)
    replace h := h.2
    refine callX_mono (callX_len (d := (d + 3)) rfl rfl rfl (c183 (d := d) h)) ?_
    clear h
    rintro v9 M3 ⟨hl, r4, rfl, h⟩
    replace hM := lenT hM hl
    show R188 sl sx d M0 P 16 [some (vR (some l0)), some (vI l1), some (vI l2), some (vI l3), some (vI l4)] [vI r4] M3
    refine RN_k (callX_det _) 1 _ _ _ _ (show (r4 ≠ 0 → R188 sl sx d M0 P 25 [some (vR (some l0)), some (vI l1), some (vI l2), some (vI l3), some (vI l4)] [] M3) ∧ (¬ (r4 ≠ 0) → R188 sl sx d M0 P 19 [some (vR (some l0)), some (vI l1), some (vI l2), some (vI l3), some (vI l4)] [] M3) from ⟨fun hc => ?_, fun hc => ?_⟩)
    · replace h := h.1 hc
      refine RN_k (callX_det _) 5 _ _ _ _ (show kd M3 l0 10 ∧ callX TBg sl sx (d + 3) 184 [vR (some l0), vI l1, vI l2] M3 (fun v M9 => R188 sl sx d M0 P 32 [some (vR (some l0)), some (vI l1), some (vI l2), some (vI l3), some (vI l4)] (pushO v [vR (some l0)]) M9) from ⟨h.1, ?_⟩)
      replace h := h.2
      refine callX_mono (callX_len (d := (d + 3)) rfl rfl rfl (c184 (d := d + 1) h)) ?_
      clear h
      rintro v9 M5 ⟨hl, r6, rfl, h⟩
      replace hM := lenT hM hl
      show R188 sl sx d M0 P 32 [some (vR (some l0)), some (vI l1), some (vI l2), some (vI l3), some (vI l4)] [vI r6, vR (some l0)] M5
      refine RN_k (callX_det _) 4 _ _ _ _ (show kd M5 l0 10 ∧ callX TBg sl sx (d + 3) 185 [vR (some l0), vI l1, vI l2] M5 (fun v M9 => R188 sl sx d M0 P 38 [some (vR (some l0)), some (vI l1), some (vI l2), some (vI l3), some (vI l4)] (pushO v [vI r6, vR (some l0)]) M9) from ⟨h.1, ?_⟩)
      replace h := h.2
      refine callX_mono (callX_len (d := (d + 3)) rfl rfl rfl (c185 (d := d + 1) h)) ?_
      clear h
      rintro v9 M7 ⟨hl, r8, rfl, h⟩
      replace hM := lenT hM hl
      show R188 sl sx d M0 P 38 [some (vR (some l0)), some (vI l1), some (vI l2), some (vI l3), some (vI l4)] [vI r8, vI r6, vR (some l0)] M7
      refine RN_k (callX_det _) 4 _ _ _ _ (show kd M7 l0 10 ∧ callX TBg sl sx (d + 3) 184 [vR (some l0), vI l3, vI l4] M7 (fun v M9 => R188 sl sx d M0 P 45 [some (vR (some l0)), some (vI l1), some (vI l2), some (vI l3), some (vI l4)] (pushO v [vI r8, vI r6, vR (some l0)]) M9) from ⟨h.1, ?_⟩)
      replace h := h.2
      refine callX_mono (callX_len (d := (d + 3)) rfl rfl rfl (c184 (d := d + 1) h)) ?_
      clear h
      rintro v9 M9 ⟨hl, r10, rfl, h⟩
      replace hM := lenT hM hl
      show R188 sl sx d M0 P 45 [some (vR (some l0)), some (vI l1), some (vI l2), some (vI l3), some (vI l4)] [vI r10, vI r8, vI r6, vR (some l0)] M9
      refine RN_k (callX_det _) 4 _ _ _ _ (show kd M9 l0 10 ∧ callX TBg sl sx (d + 3) 185 [vR (some l0), vI l3, vI l4] M9 (fun v M9 => R188 sl sx d M0 P 52 [some (vR (some l0)), some (vI l1), some (vI l2), some (vI l3), some (vI l4)] (pushO v [vI r10, vI r8, vI r6, vR (some l0)]) M9) from ⟨h.1, ?_⟩)
      replace h := h.2
      refine callX_mono (callX_len (d := (d + 3)) rfl rfl rfl (c185 (d := d + 1) h)) ?_
      clear h
      rintro v9 M11 ⟨hl, r12, rfl, h⟩
      replace hM := lenT hM hl
      show R188 sl sx d M0 P 52 [some (vR (some l0)), some (vI l1), some (vI l2), some (vI l3), some (vI l4)] [vI r12, vI r10, vI r8, vI r6, vR (some l0)] M11
      refine RN_k (callX_det _) 1 _ _ _ _ (show callX TBg sl sx (d + 3) 187 [vI r6, vI r8, vI r10, vI r12] M11 (fun v M9 => R188 sl sx d M0 P 55 [some (vR (some l0)), some (vI l1), some (vI l2), some (vI l3), some (vI l4)] (pushO v [vR (some l0)]) M9) from ?_)
      refine callX_mono (callX_len (d := (d + 3)) rfl rfl rfl (c187 (d := d + 2) h)) ?_
      clear h
      rintro v9 M13 ⟨hl, r14, rfl, h⟩
      replace hM := lenT hM hl
      show R188 sl sx d M0 P 55 [some (vR (some l0)), some (vI l1), some (vI l2), some (vI l3), some (vI l4)] [vI r14, vR (some l0)] M13
      refine RN_k (callX_det _) 1 _ _ _ _ (show kd M13 l0 10 ∧ callX TBg sl sx (d + 3) 177 [vR (some l0), vI r14] M13 (fun v M9 => R188 sl sx d M0 P 58 [some (vR (some l0)), some (vI l1), some (vI l2), some (vI l3), some (vI l4)] (pushO v []) M9) from ⟨h.1, ?_⟩)
      replace h := h.2
      refine callX_mono (callX_len (d := (d + 3)) rfl rfl rfl (c177 (d := d + 2) h)) ?_
      clear h
      rintro v9 M15 ⟨hl, r16, rfl, h⟩
      replace hM := lenT hM hl
      show R188 sl sx d M0 P 58 [some (vR (some l0)), some (vI l1), some (vI l2), some (vI l3), some (vI l4)] [vI r16] M15
      exact RN_k (callX_det _) 1 _ _ _ _ (show rtW q188 M0 (PI P) (some (vI r16)) M15 from ⟨⟨_, rfl⟩, hM.1, hM.2, _, rfl, h⟩)
    · replace h := h.2 hc
      exact RN_weak (K := [some (vR (some l0)), none, none, none, none]) (callX_det _) (show _ ∧ True from ⟨rfl, trivial⟩) (t188_19  l0 _ hM h)
theorem c188 {sl : Nat} {sx : Nat → Int32} {d : Nat} {l0 : Nat} {l1 : Int32} {l2 : Int32} {l3 : Int32} {l4 : Int32} {M : MM} {P : Int32 → MM → Prop} (h : w188 l0 l1 l2 l3 l4 M P) : callX TBg sl sx (d + 4) 188 [vR (some l0), vI l1, vI l2, vI l3, vI l4] M (PI P) :=
  cX (d := d + 3) q188 (false, tb188) rfl rfl rfl (t188_E l0 l1 l2 l3 l4 M lenR h)
-- TwoLeashModel.is(I)Z
abbrev q190 : MQ7 := (2, 1, 2, 10, 0, 0, 4)
abbrev R190 (sl : Nat) (sx : Nat → Int32) (d : Nat) (M0 : MM) (P : Int32 → MM → Prop) : Nat → LL → List VV → MM → Prop := RN 10 false (mS M0).length (mT M0) 0 0 sl sx (callX TBg sl sx (d + 0)) (rtW q190 M0 (PI P)) (as2 tb190)
def w190 (l0 : Nat) (l1 : Int32) (M : MM) (P : Int32 → MM → Prop) : Prop := kd M l0 10 ∧ (P (0 : Int32) (sI M l0 9 l1))
theorem t190_E {sl : Nat} {sx : Nat → Int32} {d : Nat} {M0 : MM} {P : Int32 → MM → Prop} (l0 : Nat) (l1 : Int32) (M : MM) (hM : lenO M0 M) (h : w190  l0 l1 M P) : R190 sl sx d M0 P 0 [some (vR (some l0)), some (vI l1)] [] M := by
  refine RN_k (callX_det _) 3 _ _ _ _ (show kd M l0 10 ∧ R190 sl sx d M0 P 5 [some (vR (some l0)), some (vI l1)] [] (sI M l0 9 l1) from ⟨h.1, ?_⟩)
  replace h := h.2
  exact RN_k (callX_det _) 2 _ _ _ _ (show rtW q190 M0 (PI P) (some (vI (0 : Int32))) (sI M l0 9 l1) from ⟨⟨_, rfl, Or.inl rfl⟩, hM.1, hM.2, _, rfl, h⟩)
theorem c190 {sl : Nat} {sx : Nat → Int32} {d : Nat} {l0 : Nat} {l1 : Int32} {M : MM} {P : Int32 → MM → Prop} (h : w190 l0 l1 M P) : callX TBg sl sx (d + 1) 190 [vR (some l0), vI l1] M (PI P) :=
  cX (d := d + 0) q190 (false, tb190) rfl rfl rfl (t190_E l0 l1 M lenR h)
-- TwoLeashModel.laysEdge(IIIIII)V
abbrev q193 : MQ7 := (7, 1, 9, 10, 0, 0, 0)
abbrev R193 (sl : Nat) (sx : Nat → Int32) (d : Nat) (M0 : MM) (P : MM → Prop) : Nat → LL → List VV → MM → Prop := RN 10 false (mS M0).length (mT M0) 0 0 sl sx (callX TBg sl sx (d + 0)) (rtW q193 M0 (PV P)) (as2 tb193)
def w193_57 (l0 : Nat) (l7 : Int32) (l8 : Int32) (M : MM) (P : MM → Prop) : Prop := kd M l0 10 ∧ (P (sL M l0 33 ((l7.toInt64 * l7.toInt64) + (l8.toInt64 * l8.toInt64))))
theorem t193_57 {sl : Nat} {sx : Nat → Int32} {d : Nat} {M0 : MM} {P : MM → Prop} (l0 : Nat) (l7 : Int32) (l8 : Int32) (M : MM) (hM : lenO M0 M) (h : w193_57  l0 l7 l8 M P) : R193 sl sx d M0 P 57 [some (vR (some l0)), none, none, none, none, none, none, some (vI l7), some (vI l8)] [] M := by
  refine RN_k (callX_det _) 13 _ _ _ _ (show kd M l0 10 ∧ R193 sl sx d M0 P 76 [some (vR (some l0)), none, none, none, none, none, none, some (vI l7), some (vI l8)] [] (sL M l0 33 ((l7.toInt64 * l7.toInt64) + (l8.toInt64 * l8.toInt64))) from ⟨h.1, ?_⟩)
  replace h := h.2
  exact RN_k (callX_det _) 1 _ _ _ _ (show rtW q193 M0 (PV P) none (sL M l0 33 ((l7.toInt64 * l7.toInt64) + (l8.toInt64 * l8.toInt64))) from ⟨rfl, hM.1, hM.2, rfl, h⟩)
def w193 (l0 : Nat) (l1 : Int32) (l2 : Int32) (l3 : Int32) (l4 : Int32) (l5 : Int32) (l6 : Int32) (M : MM) (P : MM → Prop) : Prop := kd M l0 10 ∧ (kd (sL M l0 31 ((((l1 - l3).toInt64) * ((l5 - l3).toInt64)) + (((l2 - l4).toInt64) * ((l6 - l4).toInt64)))) l0 10 ∧ (w193_57  l0 (l5 - l3) (l6 - l4) (sL (sL M l0 31 ((((l1 - l3).toInt64) * ((l5 - l3).toInt64)) + (((l2 - l4).toInt64) * ((l6 - l4).toInt64)))) l0 32 ((((l1 - l3).toInt64) * ((l6 - l4).toInt64)) - (((l2 - l4).toInt64) * ((l5 - l3).toInt64)))) P))
theorem t193_E {sl : Nat} {sx : Nat → Int32} {d : Nat} {M0 : MM} {P : MM → Prop} (l0 : Nat) (l1 : Int32) (l2 : Int32) (l3 : Int32) (l4 : Int32) (l5 : Int32) (l6 : Int32) (M : MM) (hM : lenO M0 M) (h : w193  l0 l1 l2 l3 l4 l5 l6 M P) : R193 sl sx d M0 P 0 [some (vR (some l0)), some (vI l1), some (vI l2), some (vI l3), some (vI l4), some (vI l5), some (vI l6), none, none] [] M := by
  refine RN_k (callX_det _) 25 _ _ _ _ (show kd M l0 10 ∧ R193 sl sx d M0 P 35 [some (vR (some l0)), some (vI l1), some (vI l2), some (vI l3), some (vI l4), some (vI l5), some (vI l6), some (vI (l5 - l3)), some (vI (l6 - l4))] [] (sL M l0 31 ((((l1 - l3).toInt64) * ((l5 - l3).toInt64)) + (((l2 - l4).toInt64) * ((l6 - l4).toInt64)))) from ⟨h.1, ?_⟩)
  replace h := h.2
  refine RN_k (callX_det _) 17 _ _ _ _ (show kd (sL M l0 31 ((((l1 - l3).toInt64) * ((l5 - l3).toInt64)) + (((l2 - l4).toInt64) * ((l6 - l4).toInt64)))) l0 10 ∧ R193 sl sx d M0 P 57 [some (vR (some l0)), some (vI l1), some (vI l2), some (vI l3), some (vI l4), some (vI l5), some (vI l6), some (vI (l5 - l3)), some (vI (l6 - l4))] [] (sL (sL M l0 31 ((((l1 - l3).toInt64) * ((l5 - l3).toInt64)) + (((l2 - l4).toInt64) * ((l6 - l4).toInt64)))) l0 32 ((((l1 - l3).toInt64) * ((l6 - l4).toInt64)) - (((l2 - l4).toInt64) * ((l5 - l3).toInt64)))) from ⟨h.1, ?_⟩)
  replace h := h.2
  exact RN_weak (K := [some (vR (some l0)), none, none, none, none, none, none, some (vI (l5 - l3)), some (vI (l6 - l4))]) (callX_det _) (show _ ∧ _ ∧ _ ∧ True from ⟨rfl, rfl, rfl, trivial⟩) (t193_57  l0 (l5 - l3) (l6 - l4) _ hM h)
theorem c193 {sl : Nat} {sx : Nat → Int32} {d : Nat} {l0 : Nat} {l1 : Int32} {l2 : Int32} {l3 : Int32} {l4 : Int32} {l5 : Int32} {l6 : Int32} {M : MM} {P : MM → Prop} (h : w193 l0 l1 l2 l3 l4 l5 l6 M P) : callX TBg sl sx (d + 1) 193 [vR (some l0), vI l1, vI l2, vI l3, vI l4, vI l5, vI l6] M (PV P) :=
  cX (d := d + 0) q193 (false, tb193) rfl rfl rfl (t193_E l0 l1 l2 l3 l4 l5 l6 M lenR h)
-- TwoLeashModel.laysLeast(IIIIII)V
abbrev q192 : MQ7 := (7, 1, 8, 10, 0, 0, 0)
abbrev R192 (sl : Nat) (sx : Nat → Int32) (d : Nat) (M0 : MM) (P : MM → Prop) : Nat → LL → List VV → MM → Prop := RN 10 false (mS M0).length (mT M0) 0 0 sl sx (callX TBg sl sx (d + 1)) (rtW q192 M0 (PV P)) (as2 tb192)
def w192_107 (s0 : Option Nat) (s1 : Int64) (M : MM) (P : MM → Prop) : Prop := ∃ a1, s0 = some a1 ∧ (kd M a1 10 ∧ (P (sL M a1 51 s1)))
theorem t192_107 {sl : Nat} {sx : Nat → Int32} {d : Nat} {M0 : MM} {P : MM → Prop} (s0 : Option Nat) (s1 : Int64) (M : MM) (hM : lenO M0 M) (h : w192_107  s0 s1 M P) : R192 sl sx d M0 P 107 [none, none, none, none, none, none, none, none] [vL s1, vR s0] M := by
  obtain ⟨a1, he, h⟩ := h
  subst he
  refine RN_k (callX_det _) 1 _ _ _ _ (show kd M a1 10 ∧ R192 sl sx d M0 P 110 [none, none, none, none, none, none, none, none] [] (sL M a1 51 s1) from ⟨h.1, ?_⟩)
  replace h := h.2
  exact RN_k (callX_det _) 1 _ _ _ _ (show rtW q192 M0 (PV P) none (sL M a1 51 s1) from ⟨rfl, hM.1, hM.2, rfl, h⟩)
def w192_90 (l0 : Nat) (l7 : Int32) (s0 : Option Nat) (s1 : Int64) (M : MM) (P : MM → Prop) : Prop := ∃ a1, s0 = some a1 ∧ (kd M a1 10 ∧ ((l7 = 0 → (w192_107  (some l0) (1 : Int64) (sL M a1 50 s1) P)) ∧ (¬ (l7 = 0) → (kd (sL M a1 50 s1) l0 10 ∧ (w192_107  (some l0) (mL (sL M a1 50 s1) l0 33) (sL M a1 50 s1) P)))))
theorem t192_90 {sl : Nat} {sx : Nat → Int32} {d : Nat} {M0 : MM} {P : MM → Prop} (l0 : Nat) (l7 : Int32) (s0 : Option Nat) (s1 : Int64) (M : MM) (hM : lenO M0 M) (h : w192_90  l0 l7 s0 s1 M P) : R192 sl sx d M0 P 90 [some (vR (some l0)), none, none, none, none, none, none, some (vI l7)] [vL s1, vR s0] M := by
  obtain ⟨a1, he, h⟩ := h
  subst he
  refine RN_k (callX_det _) 1 _ _ _ _ (show kd M a1 10 ∧ R192 sl sx d M0 P 93 [some (vR (some l0)), none, none, none, none, none, none, some (vI l7)] [] (sL M a1 50 s1) from ⟨h.1, ?_⟩)
  replace h := h.2
  refine RN_k (callX_det _) 3 _ _ _ _ (show (l7 = 0 → R192 sl sx d M0 P 106 [some (vR (some l0)), none, none, none, none, none, none, some (vI l7)] [vR (some l0)] (sL M a1 50 s1)) ∧ (¬ (l7 = 0) → R192 sl sx d M0 P 99 [some (vR (some l0)), none, none, none, none, none, none, some (vI l7)] [vR (some l0)] (sL M a1 50 s1)) from ⟨fun hc => ?_, fun hc => ?_⟩)
  · replace h := h.1 hc
    refine RN_k (callX_det _) 1 _ _ _ _ (show R192 sl sx d M0 P 107 [some (vR (some l0)), none, none, none, none, none, none, some (vI l7)] [vL (1 : Int64), vR (some l0)] (sL M a1 50 s1) from ?_)
    exact RN_weak (K := [none, none, none, none, none, none, none, none]) (callX_det _) (show True from trivial) (t192_107  (some l0) (1 : Int64) _ hM h)
  · replace h := h.2 hc
    refine RN_k (callX_det _) 2 _ _ _ _ (show kd (sL M a1 50 s1) l0 10 ∧ R192 sl sx d M0 P 103 [some (vR (some l0)), none, none, none, none, none, none, some (vI l7)] [vL (mL (sL M a1 50 s1) l0 33), vR (some l0)] (sL M a1 50 s1) from ⟨h.1, ?_⟩)
    replace h := h.2
    refine RN_k (callX_det _) 1 _ _ _ _ (show R192 sl sx d M0 P 107 [some (vR (some l0)), none, none, none, none, none, none, some (vI l7)] [vL (mL (sL M a1 50 s1) l0 33), vR (some l0)] (sL M a1 50 s1) from ?_)
    exact RN_weak (K := [none, none, none, none, none, none, none, none]) (callX_det _) (show True from trivial) (t192_107  (some l0) (mL (sL M a1 50 s1) l0 33) _ hM h)
def w192_39 (l0 : Nat) (l1 : Int32) (l2 : Int32) (l3 : Int32) (l4 : Int32) (l5 : Int32) (l6 : Int32) (s0 : Int32) (M : MM) (P : MM → Prop) : Prop := (s0 = 0 → (kd M l0 10 ∧ ((0 ≤ (lg_cmp (mL M l0 31) (0 : Int64)) → (w187 l1 l2 l5 l6 M (fun r2 M1 => w192_90  l0 s0 (some l0) r2.toInt64 M1 P))) ∧ (¬ (0 ≤ (lg_cmp (mL M l0 31) (0 : Int64))) → (w187 l1 l2 l3 l4 M (fun r4 M3 => w192_90  l0 s0 (some l0) r4.toInt64 M3 P)))))) ∧ (¬ (s0 = 0) → (kd M l0 10 ∧ (kd M l0 10 ∧ (w192_90  l0 s0 (some l0) ((mL M l0 32) * (mL M l0 32)) M P))))
theorem t192_39 {sl : Nat} {sx : Nat → Int32} {d : Nat} {M0 : MM} {P : MM → Prop} (l0 : Nat) (l1 : Int32) (l2 : Int32) (l3 : Int32) (l4 : Int32) (l5 : Int32) (l6 : Int32) (s0 : Int32) (M : MM) (hM : lenO M0 M) (h : w192_39  l0 l1 l2 l3 l4 l5 l6 s0 M P) : R192 sl sx d M0 P 39 [some (vR (some l0)), some (vI l1), some (vI l2), some (vI l3), some (vI l4), some (vI l5), some (vI l6), none] [vI s0] M := by
  refine RN_k (callX_det _) 4 _ _ _ _ (show (s0 = 0 → R192 sl sx d M0 P 59 [some (vR (some l0)), some (vI l1), some (vI l2), some (vI l3), some (vI l4), some (vI l5), some (vI l6), some (vI s0)] [vR (some l0)] M) ∧ (¬ (s0 = 0) → R192 sl sx d M0 P 47 [some (vR (some l0)), some (vI l1), some (vI l2), some (vI l3), some (vI l4), some (vI l5), some (vI l6), some (vI s0)] [vR (some l0)] M) from ⟨fun hc => ?_, fun hc => ?_⟩)
  · replace h := h.1 hc
    refine RN_k (callX_det _) 2 _ _ _ _ (show kd M l0 10 ∧ R192 sl sx d M0 P 63 [some (vR (some l0)), some (vI l1), some (vI l2), some (vI l3), some (vI l4), some (vI l5), some (vI l6), some (vI s0)] [vL (mL M l0 31), vR (some l0)] M from ⟨h.1, ?_⟩)
    replace h := h.2
    refine RN_k (callX_det _) 3 _ _ _ _ (show (0 ≤ (lg_cmp (mL M l0 31) (0 : Int64)) → R192 sl sx d M0 P 80 [some (vR (some l0)), some (vI l1), some (vI l2), some (vI l3), some (vI l4), some (vI l5), some (vI l6), some (vI s0)] [vR (some l0)] M) ∧ (¬ (0 ≤ (lg_cmp (mL M l0 31) (0 : Int64))) → R192 sl sx d M0 P 68 [some (vR (some l0)), some (vI l1), some (vI l2), some (vI l3), some (vI l4), some (vI l5), some (vI l6), some (vI s0)] [vR (some l0)] M) from ⟨fun hc => ?_, fun hc => ?_⟩)
    · replace h := h.1 hc
      refine RN_k (callX_det _) 5 _ _ _ _ (show callX TBg sl sx (d + 1) 187 [vI l1, vI l2, vI l5, vI l6] M (fun v M9 => R192 sl sx d M0 P 89 [some (vR (some l0)), some (vI l1), some (vI l2), some (vI l3), some (vI l4), some (vI l5), some (vI l6), some (vI s0)] (pushO v [vR (some l0)]) M9) from ?_)
      refine callX_mono (callX_len (d := (d + 1)) rfl rfl rfl (c187 (d := d) h)) ?_
      clear h
      rintro v9 M1 ⟨hl, r2, rfl, h⟩
      replace hM := lenT hM hl
      show R192 sl sx d M0 P 89 [some (vR (some l0)), some (vI l1), some (vI l2), some (vI l3), some (vI l4), some (vI l5), some (vI l6), some (vI s0)] [vI r2, vR (some l0)] M1
      refine RN_k (callX_det _) 1 _ _ _ _ (show R192 sl sx d M0 P 90 [some (vR (some l0)), some (vI l1), some (vI l2), some (vI l3), some (vI l4), some (vI l5), some (vI l6), some (vI s0)] [vL r2.toInt64, vR (some l0)] M1 from ?_)
      exact RN_weak (K := [some (vR (some l0)), none, none, none, none, none, none, some (vI s0)]) (callX_det _) (show _ ∧ _ ∧ True from ⟨rfl, rfl, trivial⟩) (t192_90  l0 s0 (some l0) r2.toInt64 _ hM h)
    · replace h := h.2 hc
      refine RN_k (callX_det _) 5 _ _ _ _ (show callX TBg sl sx (d + 1) 187 [vI l1, vI l2, vI l3, vI l4] M (fun v M9 => R192 sl sx d M0 P 76 [some (vR (some l0)), some (vI l1), some (vI l2), some (vI l3), some (vI l4), some (vI l5), some (vI l6), some (vI s0)] (pushO v [vR (some l0)]) M9) from ?_)
      refine callX_mono (callX_len (d := (d + 1)) rfl rfl rfl (c187 (d := d) h)) ?_
      clear h
      rintro v9 M3 ⟨hl, r4, rfl, h⟩
      replace hM := lenT hM hl
      show R192 sl sx d M0 P 76 [some (vR (some l0)), some (vI l1), some (vI l2), some (vI l3), some (vI l4), some (vI l5), some (vI l6), some (vI s0)] [vI r4, vR (some l0)] M3
      refine RN_k (callX_det _) 2 _ _ _ _ (show R192 sl sx d M0 P 90 [some (vR (some l0)), some (vI l1), some (vI l2), some (vI l3), some (vI l4), some (vI l5), some (vI l6), some (vI s0)] [vL r4.toInt64, vR (some l0)] M3 from ?_)
      exact RN_weak (K := [some (vR (some l0)), none, none, none, none, none, none, some (vI s0)]) (callX_det _) (show _ ∧ _ ∧ True from ⟨rfl, rfl, trivial⟩) (t192_90  l0 s0 (some l0) r4.toInt64 _ hM h)
  · replace h := h.2 hc
    refine RN_k (callX_det _) 2 _ _ _ _ (show kd M l0 10 ∧ R192 sl sx d M0 P 51 [some (vR (some l0)), some (vI l1), some (vI l2), some (vI l3), some (vI l4), some (vI l5), some (vI l6), some (vI s0)] [vL (mL M l0 32), vR (some l0)] M from ⟨h.1, ?_⟩)
    replace h := h.2
    refine RN_k (callX_det _) 2 _ _ _ _ (show kd M l0 10 ∧ R192 sl sx d M0 P 55 [some (vR (some l0)), some (vI l1), some (vI l2), some (vI l3), some (vI l4), some (vI l5), some (vI l6), some (vI s0)] [vL (mL M l0 32), vL (mL M l0 32), vR (some l0)] M from ⟨h.1, ?_⟩)
    replace h := h.2
    refine RN_k (callX_det _) 2 _ _ _ _ (show R192 sl sx d M0 P 90 [some (vR (some l0)), some (vI l1), some (vI l2), some (vI l3), some (vI l4), some (vI l5), some (vI l6), some (vI s0)] [vL ((mL M l0 32) * (mL M l0 32)), vR (some l0)] M from ?_)
    exact RN_weak (K := [some (vR (some l0)), none, none, none, none, none, none, some (vI s0)]) (callX_det _) (show _ ∧ _ ∧ True from ⟨rfl, rfl, trivial⟩) (t192_90  l0 s0 (some l0) ((mL M l0 32) * (mL M l0 32)) _ hM h)
def w192_38 (l0 : Nat) (l1 : Int32) (l2 : Int32) (l3 : Int32) (l4 : Int32) (l5 : Int32) (l6 : Int32) (M : MM) (P : MM → Prop) : Prop := w192_39  l0 l1 l2 l3 l4 l5 l6 (0 : Int32) M P
theorem t192_38 {sl : Nat} {sx : Nat → Int32} {d : Nat} {M0 : MM} {P : MM → Prop} (l0 : Nat) (l1 : Int32) (l2 : Int32) (l3 : Int32) (l4 : Int32) (l5 : Int32) (l6 : Int32) (M : MM) (hM : lenO M0 M) (h : w192_38  l0 l1 l2 l3 l4 l5 l6 M P) : R192 sl sx d M0 P 38 [some (vR (some l0)), some (vI l1), some (vI l2), some (vI l3), some (vI l4), some (vI l5), some (vI l6), none] [] M := by
  refine RN_k (callX_det _) 1 _ _ _ _ (show R192 sl sx d M0 P 39 [some (vR (some l0)), some (vI l1), some (vI l2), some (vI l3), some (vI l4), some (vI l5), some (vI l6), none] [vI (0 : Int32)] M from ?_)
  exact RN_weak (K := [some (vR (some l0)), some (vI l1), some (vI l2), some (vI l3), some (vI l4), some (vI l5), some (vI l6), none]) (callX_det _) (show _ ∧ _ ∧ _ ∧ _ ∧ _ ∧ _ ∧ _ ∧ True from ⟨rfl, rfl, rfl, rfl, rfl, rfl, rfl, trivial⟩) (t192_39  l0 l1 l2 l3 l4 l5 l6 (0 : Int32) _ hM h)
def w192 (l0 : Nat) (l1 : Int32) (l2 : Int32) (l3 : Int32) (l4 : Int32) (l5 : Int32) (l6 : Int32) (M : MM) (P : MM → Prop) : Prop := kd M l0 10 ∧ w193 l0 l1 l2 l3 l4 l5 l6 M (fun M1 => kd M1 l0 10 ∧ (((lg_cmp (mL M1 l0 31) (0 : Int64)) < 0 → (w192_38  l0 l1 l2 l3 l4 l5 l6 M1 P)) ∧ (¬ ((lg_cmp (mL M1 l0 31) (0 : Int64)) < 0) → (kd M1 l0 10 ∧ (kd M1 l0 10 ∧ ((0 < (lg_cmp (mL M1 l0 31) (mL M1 l0 33)) → (w192_38  l0 l1 l2 l3 l4 l5 l6 M1 P)) ∧ (¬ (0 < (lg_cmp (mL M1 l0 31) (mL M1 l0 33))) → (w192_39  l0 l1 l2 l3 l4 l5 l6 (1 : Int32) M1 P))))))))
theorem t192_E {sl : Nat} {sx : Nat → Int32} {d : Nat} {M0 : MM} {P : MM → Prop} (l0 : Nat) (l1 : Int32) (l2 : Int32) (l3 : Int32) (l4 : Int32) (l5 : Int32) (l6 : Int32) (M : MM) (hM : lenO M0 M) (h : w192  l0 l1 l2 l3 l4 l5 l6 M P) : R192 sl sx d M0 P 0 [some (vR (some l0)), some (vI l1), some (vI l2), some (vI l3), some (vI l4), some (vI l5), some (vI l6), none] [] M := by
  refine RN_k (callX_det _) 8 _ _ _ _ (show kd M l0 10 ∧ callX TBg sl sx (d + 1) 193 [vR (some l0), vI l1, vI l2, vI l3, vI l4, vI l5, vI l6] M (fun v M9 => R192 sl sx d M0 P 13 [some (vR (some l0)), some (vI l1), some (vI l2), some (vI l3), some (vI l4), some (vI l5), some (vI l6), none] (pushO v []) M9) from ⟨h.1, ?_⟩)
  replace h := h.2
  refine callX_mono (callX_len (d := (d + 1)) rfl rfl rfl (c193 (d := d) h)) ?_
  clear h
  rintro v9 M1 ⟨hl, rfl, h⟩
  replace hM := lenT hM hl
  show R192 sl sx d M0 P 13 [some (vR (some l0)), some (vI l1), some (vI l2), some (vI l3), some (vI l4), some (vI l5), some (vI l6), none] [] M1
  refine RN_k (callX_det _) 2 _ _ _ _ (show kd M1 l0 10 ∧ R192 sl sx d M0 P 17 [some (vR (some l0)), some (vI l1), some (vI l2), some (vI l3), some (vI l4), some (vI l5), some (vI l6), none] [vL (mL M1 l0 31)] M1 from ⟨h.1, ?_⟩)
  replace h := h.2
  refine RN_k (callX_det _) 3 _ _ _ _ (show ((lg_cmp (mL M1 l0 31) (0 : Int64)) < 0 → R192 sl sx d M0 P 38 [some (vR (some l0)), some (vI l1), some (vI l2), some (vI l3), some (vI l4), some (vI l5), some (vI l6), none] [] M1) ∧ (¬ ((lg_cmp (mL M1 l0 31) (0 : Int64)) < 0) → R192 sl sx d M0 P 22 [some (vR (some l0)), some (vI l1), some (vI l2), some (vI l3), some (vI l4), some (vI l5), some (vI l6), none] [] M1) from ⟨fun hc => ?_, fun hc => ?_⟩)
  · replace h := h.1 hc
    exact RN_weak (K := [some (vR (some l0)), some (vI l1), some (vI l2), some (vI l3), some (vI l4), some (vI l5), some (vI l6), none]) (callX_det _) (show _ ∧ _ ∧ _ ∧ _ ∧ _ ∧ _ ∧ _ ∧ True from ⟨rfl, rfl, rfl, rfl, rfl, rfl, rfl, trivial⟩) (t192_38  l0 l1 l2 l3 l4 l5 l6 _ hM h)
  · replace h := h.2 hc
    refine RN_k (callX_det _) 2 _ _ _ _ (show kd M1 l0 10 ∧ R192 sl sx d M0 P 26 [some (vR (some l0)), some (vI l1), some (vI l2), some (vI l3), some (vI l4), some (vI l5), some (vI l6), none] [vL (mL M1 l0 31)] M1 from ⟨h.1, ?_⟩)
    replace h := h.2
    refine RN_k (callX_det _) 2 _ _ _ _ (show kd M1 l0 10 ∧ R192 sl sx d M0 P 30 [some (vR (some l0)), some (vI l1), some (vI l2), some (vI l3), some (vI l4), some (vI l5), some (vI l6), none] [vL (mL M1 l0 33), vL (mL M1 l0 31)] M1 from ⟨h.1, ?_⟩)
    replace h := h.2
    refine RN_k (callX_det _) 2 _ _ _ _ (show (0 < (lg_cmp (mL M1 l0 31) (mL M1 l0 33)) → R192 sl sx d M0 P 38 [some (vR (some l0)), some (vI l1), some (vI l2), some (vI l3), some (vI l4), some (vI l5), some (vI l6), none] [] M1) ∧ (¬ (0 < (lg_cmp (mL M1 l0 31) (mL M1 l0 33))) → R192 sl sx d M0 P 34 [some (vR (some l0)), some (vI l1), some (vI l2), some (vI l3), some (vI l4), some (vI l5), some (vI l6), none] [] M1) from ⟨fun hc => ?_, fun hc => ?_⟩)
    · replace h := h.1 hc
      exact RN_weak (K := [some (vR (some l0)), some (vI l1), some (vI l2), some (vI l3), some (vI l4), some (vI l5), some (vI l6), none]) (callX_det _) (show _ ∧ _ ∧ _ ∧ _ ∧ _ ∧ _ ∧ _ ∧ True from ⟨rfl, rfl, rfl, rfl, rfl, rfl, rfl, trivial⟩) (t192_38  l0 l1 l2 l3 l4 l5 l6 _ hM h)
    · replace h := h.2 hc
      refine RN_k (callX_det _) 2 _ _ _ _ (show R192 sl sx d M0 P 39 [some (vR (some l0)), some (vI l1), some (vI l2), some (vI l3), some (vI l4), some (vI l5), some (vI l6), none] [vI (1 : Int32)] M1 from ?_)
      exact RN_weak (K := [some (vR (some l0)), some (vI l1), some (vI l2), some (vI l3), some (vI l4), some (vI l5), some (vI l6), none]) (callX_det _) (show _ ∧ _ ∧ _ ∧ _ ∧ _ ∧ _ ∧ _ ∧ True from ⟨rfl, rfl, rfl, rfl, rfl, rfl, rfl, trivial⟩) (t192_39  l0 l1 l2 l3 l4 l5 l6 (1 : Int32) _ hM h)
theorem c192 {sl : Nat} {sx : Nat → Int32} {d : Nat} {l0 : Nat} {l1 : Int32} {l2 : Int32} {l3 : Int32} {l4 : Int32} {l5 : Int32} {l6 : Int32} {M : MM} {P : MM → Prop} (h : w192 l0 l1 l2 l3 l4 l5 l6 M P) : callX TBg sl sx (d + 2) 192 [vR (some l0), vI l1, vI l2, vI l3, vI l4, vI l5, vI l6] M (PV P) :=
  cX (d := d + 1) q192 (false, tb192) rfl rfl rfl (t192_E l0 l1 l2 l3 l4 l5 l6 M lenR h)
-- TwoLeashModel.laysNear(IIII)V
abbrev q191 : MQ7 := (5, 1, 5, 10, 0, 0, 0)
abbrev R191 (sl : Nat) (sx : Nat → Int32) (d : Nat) (M0 : MM) (P : MM → Prop) : Nat → LL → List VV → MM → Prop := RN 10 false (mS M0).length (mT M0) 0 0 sl sx (callX TBg sl sx (d + 2)) (rtW q191 M0 (PV P)) (as2 tb191)
def w191 (l0 : Nat) (l1 : Int32) (l2 : Int32) (l3 : Int32) (l4 : Int32) (M : MM) (P : MM → Prop) : Prop := kd M l0 10 ∧ w184 l0 l1 l2 M (fun r2 M1 => kd M1 l0 10 ∧ w185 l0 l1 l2 M1 (fun r4 M3 => kd M3 l0 10 ∧ w184 l0 l3 l4 M3 (fun r6 M5 => kd M5 l0 10 ∧ w185 l0 l3 l4 M5 (fun r8 M7 => kd M7 l0 10 ∧ w184 l0 l3 (l4 + (1 : Int32)) M7 (fun r10 M9 => kd M9 l0 10 ∧ w185 l0 l3 (l4 + (1 : Int32)) M9 (fun r12 M11 => kd M11 l0 10 ∧ w192 l0 r2 r4 r6 r8 r10 r12 M11 (fun M13 => P M13)))))))
theorem t191_E {sl : Nat} {sx : Nat → Int32} {d : Nat} {M0 : MM} {P : MM → Prop} (l0 : Nat) (l1 : Int32) (l2 : Int32) (l3 : Int32) (l4 : Int32) (M : MM) (hM : lenO M0 M) (h : w191  l0 l1 l2 l3 l4 M P) : R191 sl sx d M0 P 0 [some (vR (some l0)), some (vI l1), some (vI l2), some (vI l3), some (vI l4)] [] M := by
  refine RN_k (callX_det _) 5 _ _ _ _ (show kd M l0 10 ∧ callX TBg sl sx (d + 2) 184 [vR (some l0), vI l1, vI l2] M (fun v M9 => R191 sl sx d M0 P 7 [some (vR (some l0)), some (vI l1), some (vI l2), some (vI l3), some (vI l4)] (pushO v [vR (some l0)]) M9) from ⟨h.1, ?_⟩)
  replace h := h.2
  refine callX_mono (callX_len (d := (d + 2)) rfl rfl rfl (c184 (d := d) h)) ?_
  clear h
  rintro v9 M1 ⟨hl, r2, rfl, h⟩
  replace hM := lenT hM hl
  show R191 sl sx d M0 P 7 [some (vR (some l0)), some (vI l1), some (vI l2), some (vI l3), some (vI l4)] [vI r2, vR (some l0)] M1
  refine RN_k (callX_det _) 4 _ _ _ _ (show kd M1 l0 10 ∧ callX TBg sl sx (d + 2) 185 [vR (some l0), vI l1, vI l2] M1 (fun v M9 => R191 sl sx d M0 P 13 [some (vR (some l0)), some (vI l1), some (vI l2), some (vI l3), some (vI l4)] (pushO v [vI r2, vR (some l0)]) M9) from ⟨h.1, ?_⟩)
  replace h := h.2
  refine callX_mono (callX_len (d := (d + 2)) rfl rfl rfl (c185 (d := d) h)) ?_
  clear h
  rintro v9 M3 ⟨hl, r4, rfl, h⟩
  replace hM := lenT hM hl
  show R191 sl sx d M0 P 13 [some (vR (some l0)), some (vI l1), some (vI l2), some (vI l3), some (vI l4)] [vI r4, vI r2, vR (some l0)] M3
  refine RN_k (callX_det _) 4 _ _ _ _ (show kd M3 l0 10 ∧ callX TBg sl sx (d + 2) 184 [vR (some l0), vI l3, vI l4] M3 (fun v M9 => R191 sl sx d M0 P 20 [some (vR (some l0)), some (vI l1), some (vI l2), some (vI l3), some (vI l4)] (pushO v [vI r4, vI r2, vR (some l0)]) M9) from ⟨h.1, ?_⟩)
  replace h := h.2
  refine callX_mono (callX_len (d := (d + 2)) rfl rfl rfl (c184 (d := d) h)) ?_
  clear h
  rintro v9 M5 ⟨hl, r6, rfl, h⟩
  replace hM := lenT hM hl
  show R191 sl sx d M0 P 20 [some (vR (some l0)), some (vI l1), some (vI l2), some (vI l3), some (vI l4)] [vI r6, vI r4, vI r2, vR (some l0)] M5
  refine RN_k (callX_det _) 4 _ _ _ _ (show kd M5 l0 10 ∧ callX TBg sl sx (d + 2) 185 [vR (some l0), vI l3, vI l4] M5 (fun v M9 => R191 sl sx d M0 P 27 [some (vR (some l0)), some (vI l1), some (vI l2), some (vI l3), some (vI l4)] (pushO v [vI r6, vI r4, vI r2, vR (some l0)]) M9) from ⟨h.1, ?_⟩)
  replace h := h.2
  refine callX_mono (callX_len (d := (d + 2)) rfl rfl rfl (c185 (d := d) h)) ?_
  clear h
  rintro v9 M7 ⟨hl, r8, rfl, h⟩
  replace hM := lenT hM hl
  show R191 sl sx d M0 P 27 [some (vR (some l0)), some (vI l1), some (vI l2), some (vI l3), some (vI l4)] [vI r8, vI r6, vI r4, vI r2, vR (some l0)] M7
  refine RN_k (callX_det _) 6 _ _ _ _ (show kd M7 l0 10 ∧ callX TBg sl sx (d + 2) 184 [vR (some l0), vI l3, vI (l4 + (1 : Int32))] M7 (fun v M9 => R191 sl sx d M0 P 36 [some (vR (some l0)), some (vI l1), some (vI l2), some (vI l3), some (vI l4)] (pushO v [vI r8, vI r6, vI r4, vI r2, vR (some l0)]) M9) from ⟨h.1, ?_⟩)
  replace h := h.2
  refine callX_mono (callX_len (d := (d + 2)) rfl rfl rfl (c184 (d := d) h)) ?_
  clear h
  rintro v9 M9 ⟨hl, r10, rfl, h⟩
  replace hM := lenT hM hl
  show R191 sl sx d M0 P 36 [some (vR (some l0)), some (vI l1), some (vI l2), some (vI l3), some (vI l4)] [vI r10, vI r8, vI r6, vI r4, vI r2, vR (some l0)] M9
  refine RN_k (callX_det _) 6 _ _ _ _ (show kd M9 l0 10 ∧ callX TBg sl sx (d + 2) 185 [vR (some l0), vI l3, vI (l4 + (1 : Int32))] M9 (fun v M9 => R191 sl sx d M0 P 45 [some (vR (some l0)), some (vI l1), some (vI l2), some (vI l3), some (vI l4)] (pushO v [vI r10, vI r8, vI r6, vI r4, vI r2, vR (some l0)]) M9) from ⟨h.1, ?_⟩)
  replace h := h.2
  refine callX_mono (callX_len (d := (d + 2)) rfl rfl rfl (c185 (d := d) h)) ?_
  clear h
  rintro v9 M11 ⟨hl, r12, rfl, h⟩
  replace hM := lenT hM hl
  show R191 sl sx d M0 P 45 [some (vR (some l0)), some (vI l1), some (vI l2), some (vI l3), some (vI l4)] [vI r12, vI r10, vI r8, vI r6, vI r4, vI r2, vR (some l0)] M11
  refine RN_k (callX_det _) 1 _ _ _ _ (show kd M11 l0 10 ∧ callX TBg sl sx (d + 2) 192 [vR (some l0), vI r2, vI r4, vI r6, vI r8, vI r10, vI r12] M11 (fun v M9 => R191 sl sx d M0 P 48 [some (vR (some l0)), some (vI l1), some (vI l2), some (vI l3), some (vI l4)] (pushO v []) M9) from ⟨h.1, ?_⟩)
  replace h := h.2
  refine callX_mono (callX_len (d := (d + 2)) rfl rfl rfl (c192 (d := d) h)) ?_
  clear h
  rintro v9 M13 ⟨hl, rfl, h⟩
  replace hM := lenT hM hl
  show R191 sl sx d M0 P 48 [some (vR (some l0)), some (vI l1), some (vI l2), some (vI l3), some (vI l4)] [] M13
  exact RN_k (callX_det _) 1 _ _ _ _ (show rtW q191 M0 (PV P) none M13 from ⟨rfl, hM.1, hM.2, rfl, h⟩)
theorem c191 {sl : Nat} {sx : Nat → Int32} {d : Nat} {l0 : Nat} {l1 : Int32} {l2 : Int32} {l3 : Int32} {l4 : Int32} {M : MM} {P : MM → Prop} (h : w191 l0 l1 l2 l3 l4 M P) : callX TBg sl sx (d + 3) 191 [vR (some l0), vI l1, vI l2, vI l3, vI l4] M (PV P) :=
  cX (d := d + 2) q191 (false, tb191) rfl rfl rfl (t191_E l0 l1 l2 l3 l4 M lenR h)
-- TwoLeashModel.common(JJ)J
abbrev q196 : MQ7 := (2, 0, 4, 10, 0, 0, 2)
abbrev R196 (sl : Nat) (sx : Nat → Int32) (d : Nat) (M0 : MM) (P : Int64 → MM → Prop) : Nat → LL → List VV → MM → Prop := RN 10 false (mS M0).length (mT M0) 0 0 sl sx (callX TBg sl sx d) (rtW q196 M0 (PL P)) (as2 tb196)
def w196_17 (s0 : Int64) (M : MM) (P : Int64 → MM → Prop) : Prop := P s0 M
theorem t196_17 {sl : Nat} {sx : Nat → Int32} {d : Nat} {M0 : MM} {P : Int64 → MM → Prop} (s0 : Int64) (M : MM) (hM : lenO M0 M) (h : w196_17  s0 M P) : R196 sl sx d M0 P 17 [none, none, none, none] [vL s0] M := by
  exact RN_k (callX_det _) 1 _ _ _ _ (show rtW q196 M0 (PL P) (some (vL s0)) M from ⟨⟨_, rfl⟩, hM.1, hM.2, _, rfl, h⟩)
def w196 : Nat → Int64 → Int64 → MM → (Int64 → MM → Prop) → Prop
  | 0 => fun _ _ _ _ => False
  | f + 1 => fun l0 l2 M P => ((lg_cmp l2 (0 : Int64)) ≠ 0 → (¬ l2 = 0 ∧ (w196 f l2 (l0 - l0 / l2 * l2) M (fun r2 M1 => w196_17  r2 M1 P)))) ∧ (¬ ((lg_cmp l2 (0 : Int64)) ≠ 0) → (w196_17  l0 M P))
theorem t196_E {sl : Nat} {sx : Nat → Int32} {d : Nat} {M0 : MM} {P : Int64 → MM → Prop} {f : Nat} (ihf : ∀ (l0 : Int64) (l2 : Int64) (M : MM) (P : Int64 → MM → Prop), w196 f l0 l2 M P → callX TBg sl sx d 196 [vL l0, vL l2] M (PL P)) (l0 : Int64) (l2 : Int64) (M : MM) (hM : lenO M0 M) (h : w196 (f + 1) l0 l2 M P) : R196 sl sx d M0 P 0 [some (vL l0), none, some (vL l2), none] [] M := by
  refine RN_k (callX_det _) 4 _ _ _ _ (show ((lg_cmp l2 (0 : Int64)) ≠ 0 → R196 sl sx d M0 P 10 [some (vL l0), none, some (vL l2), none] [] M) ∧ (¬ ((lg_cmp l2 (0 : Int64)) ≠ 0) → R196 sl sx d M0 P 6 [some (vL l0), none, some (vL l2), none] [] M) from ⟨fun hc => ?_, fun hc => ?_⟩)
  · replace h := h.1 hc
    refine RN_k (callX_det _) 4 _ _ _ _ (show ¬ l2 = 0 ∧ R196 sl sx d M0 P 14 [some (vL l0), none, some (vL l2), none] [vL (l0 - l0 / l2 * l2), vL l2] M from ⟨h.1, ?_⟩)
    replace h := h.2
    refine RN_k (callX_det _) 1 _ _ _ _ (show callX TBg sl sx d 196 [vL l2, vL (l0 - l0 / l2 * l2)] M (fun v M9 => R196 sl sx d M0 P 17 [some (vL l0), none, some (vL l2), none] (pushO v []) M9) from ?_)
    refine callX_mono (callX_len rfl rfl rfl (ihf _ _ _ _ h)) ?_
    clear h
    rintro v9 M1 ⟨hl, r2, rfl, h⟩
    replace hM := lenT hM hl
    show R196 sl sx d M0 P 17 [some (vL l0), none, some (vL l2), none] [vL r2] M1
    exact RN_weak (K := [none, none, none, none]) (callX_det _) (show True from trivial) (t196_17  r2 _ hM h)
  · replace h := h.2 hc
    refine RN_k (callX_det _) 2 _ _ _ _ (show R196 sl sx d M0 P 17 [some (vL l0), none, some (vL l2), none] [vL l0] M from ?_)
    exact RN_weak (K := [none, none, none, none]) (callX_det _) (show True from trivial) (t196_17  l0 _ hM h)
theorem c196 {sl : Nat} {sx : Nat → Int32} : ∀ (f d : Nat) (l0 : Int64) (l2 : Int64) (M : MM) (P : Int64 → MM → Prop), w196 f l0 l2 M P → callX TBg sl sx (d + f) 196 [vL l0, vL l2] M (PL P)
  | 0, d, l0, l2, M, P, h => by cases h
  | f + 1, d, l0, l2, M, P, h => cX (d := d + f) q196 (false, tb196) rfl rfl rfl (t196_E (fun l0 l2 M P h => c196 f d l0 l2 M P h) l0 l2 M lenR h)
-- TwoLeashModel.lays(JJ)V
abbrev q195 : MQ7 := (3, 1, 7, 10, 0, 0, 0)
abbrev R195 (sl : Nat) (sx : Nat → Int32) (d : Nat) (M0 : MM) (P : MM → Prop) : Nat → LL → List VV → MM → Prop := RN 10 false (mS M0).length (mT M0) 0 0 sl sx (callX TBg sl sx (d + 100)) (rtW q195 M0 (PV P)) (as2 tb195)
def w195 (l0 : Nat) (l1 : Int64) (l3 : Int64) (M : MM) (P : MM → Prop) : Prop := w196 100 l1 l3 M (fun r2 M1 => ¬ r2 = 0 ∧ (kd M1 l0 10 ∧ (¬ r2 = 0 ∧ (kd (sL M1 l0 13 (l1 / r2)) l0 10 ∧ (P (sL (sL M1 l0 13 (l1 / r2)) l0 14 (l3 / r2)))))))
theorem t195_E {sl : Nat} {sx : Nat → Int32} {d : Nat} {M0 : MM} {P : MM → Prop} (l0 : Nat) (l1 : Int64) (l3 : Int64) (M : MM) (hM : lenO M0 M) (h : w195  l0 l1 l3 M P) : R195 sl sx d M0 P 0 [some (vR (some l0)), some (vL l1), none, some (vL l3), none, none, none] [] M := by
  refine RN_k (callX_det _) 3 _ _ _ _ (show callX TBg sl sx (d + 100) 196 [vL l1, vL l3] M (fun v M9 => R195 sl sx d M0 P 5 [some (vR (some l0)), some (vL l1), none, some (vL l3), none, none, none] (pushO v []) M9) from ?_)
  refine callX_mono (callX_len (d := (d + 100)) rfl rfl rfl (c196 100 (d) _ _ _ _ h)) ?_
  clear h
  rintro v9 M1 ⟨hl, r2, rfl, h⟩
  replace hM := lenT hM hl
  show R195 sl sx d M0 P 5 [some (vR (some l0)), some (vL l1), none, some (vL l3), none, none, none] [vL r2] M1
  refine RN_k (callX_det _) 5 _ _ _ _ (show ¬ r2 = 0 ∧ R195 sl sx d M0 P 12 [some (vR (some l0)), some (vL l1), none, some (vL l3), none, some (vL r2), none] [vL (l1 / r2), vR (some l0)] M1 from ⟨h.1, ?_⟩)
  replace h := h.2
  refine RN_k (callX_det _) 1 _ _ _ _ (show kd M1 l0 10 ∧ R195 sl sx d M0 P 15 [some (vR (some l0)), some (vL l1), none, some (vL l3), none, some (vL r2), none] [] (sL M1 l0 13 (l1 / r2)) from ⟨h.1, ?_⟩)
  replace h := h.2
  refine RN_k (callX_det _) 4 _ _ _ _ (show ¬ r2 = 0 ∧ R195 sl sx d M0 P 20 [some (vR (some l0)), some (vL l1), none, some (vL l3), none, some (vL r2), none] [vL (l3 / r2), vR (some l0)] (sL M1 l0 13 (l1 / r2)) from ⟨h.1, ?_⟩)
  replace h := h.2
  refine RN_k (callX_det _) 1 _ _ _ _ (show kd (sL M1 l0 13 (l1 / r2)) l0 10 ∧ R195 sl sx d M0 P 23 [some (vR (some l0)), some (vL l1), none, some (vL l3), none, some (vL r2), none] [] (sL (sL M1 l0 13 (l1 / r2)) l0 14 (l3 / r2)) from ⟨h.1, ?_⟩)
  replace h := h.2
  exact RN_k (callX_det _) 1 _ _ _ _ (show rtW q195 M0 (PV P) none (sL (sL M1 l0 13 (l1 / r2)) l0 14 (l3 / r2)) from ⟨rfl, hM.1, hM.2, rfl, h⟩)
theorem c195 {sl : Nat} {sx : Nat → Int32} {d : Nat} {l0 : Nat} {l1 : Int64} {l3 : Int64} {M : MM} {P : MM → Prop} (h : w195 l0 l1 l3 M P) : callX TBg sl sx (d + 101) 195 [vR (some l0), vL l1, vL l3] M (PV P) :=
  cX (d := d + 100) q195 (false, tb195) rfl rfl rfl (t195_E l0 l1 l3 M lenR h)
-- TwoLeashModel.tells(JJ)Z
abbrev q194 : MQ7 := (3, 1, 5, 10, 0, 0, 4)
abbrev R194 (sl : Nat) (sx : Nat → Int32) (d : Nat) (M0 : MM) (P : Int32 → MM → Prop) : Nat → LL → List VV → MM → Prop := RN 10 false (mS M0).length (mT M0) 0 0 sl sx (callX TBg sl sx (d + 101)) (rtW q194 M0 (PI P)) (as2 tb194)
def w194 (l0 : Nat) (l1 : Int64) (l3 : Int64) (M : MM) (P : Int32 → MM → Prop) : Prop := kd M l0 10 ∧ w195 l0 l1 l3 M (fun M1 => kd M1 l0 10 ∧ (P (1 : Int32) (sI M1 l0 9 (0 : Int32))))
theorem t194_E {sl : Nat} {sx : Nat → Int32} {d : Nat} {M0 : MM} {P : Int32 → MM → Prop} (l0 : Nat) (l1 : Int64) (l3 : Int64) (M : MM) (hM : lenO M0 M) (h : w194  l0 l1 l3 M P) : R194 sl sx d M0 P 0 [some (vR (some l0)), some (vL l1), none, some (vL l3), none] [] M := by
  refine RN_k (callX_det _) 4 _ _ _ _ (show kd M l0 10 ∧ callX TBg sl sx (d + 101) 195 [vR (some l0), vL l1, vL l3] M (fun v M9 => R194 sl sx d M0 P 6 [some (vR (some l0)), some (vL l1), none, some (vL l3), none] (pushO v []) M9) from ⟨h.1, ?_⟩)
  replace h := h.2
  refine callX_mono (callX_len (d := (d + 101)) rfl rfl rfl (c195 (d := d) h)) ?_
  clear h
  rintro v9 M1 ⟨hl, rfl, h⟩
  replace hM := lenT hM hl
  show R194 sl sx d M0 P 6 [some (vR (some l0)), some (vL l1), none, some (vL l3), none] [] M1
  refine RN_k (callX_det _) 3 _ _ _ _ (show kd M1 l0 10 ∧ R194 sl sx d M0 P 11 [some (vR (some l0)), some (vL l1), none, some (vL l3), none] [] (sI M1 l0 9 (0 : Int32)) from ⟨h.1, ?_⟩)
  replace h := h.2
  exact RN_k (callX_det _) 2 _ _ _ _ (show rtW q194 M0 (PI P) (some (vI (1 : Int32))) (sI M1 l0 9 (0 : Int32)) from ⟨⟨_, rfl, Or.inr rfl⟩, hM.1, hM.2, _, rfl, h⟩)
theorem c194 {sl : Nat} {sx : Nat → Int32} {d : Nat} {l0 : Nat} {l1 : Int64} {l3 : Int64} {M : MM} {P : Int32 → MM → Prop} (h : w194 l0 l1 l3 M P) : callX TBg sl sx (d + 102) 194 [vR (some l0), vL l1, vL l3] M (PI P) :=
  cX (d := d + 101) q194 (false, tb194) rfl rfl rfl (t194_E l0 l1 l3 M lenR h)
-- TwoLeashModel.near(IIII)Z
abbrev q189 : MQ7 := (5, 1, 5, 10, 0, 0, 4)
abbrev R189 (sl : Nat) (sx : Nat → Int32) (d : Nat) (M0 : MM) (P : Int32 → MM → Prop) : Nat → LL → List VV → MM → Prop := RN 10 false (mS M0).length (mT M0) 0 0 sl sx (callX TBg sl sx (d + 102)) (rtW q189 M0 (PI P)) (as2 tb189)
def w189_31 (l0 : Nat) (M : MM) (P : Int32 → MM → Prop) : Prop := kd M l0 10 ∧ w190 l0 (2 : Int32) M (fun r2 M1 => (r2 = 0 ∨ r2 = 1) ∧ P r2 M1)
theorem t189_31 {sl : Nat} {sx : Nat → Int32} {d : Nat} {M0 : MM} {P : Int32 → MM → Prop} (l0 : Nat) (M : MM) (hM : lenO M0 M) (h : w189_31  l0 M P) : R189 sl sx d M0 P 31 [some (vR (some l0)), none, none, none, none] [] M := by
  refine RN_k (callX_det _) 3 _ _ _ _ (show kd M l0 10 ∧ callX TBg sl sx (d + 102) 190 [vR (some l0), vI (2 : Int32)] M (fun v M9 => R189 sl sx d M0 P 36 [some (vR (some l0)), none, none, none, none] (pushO v []) M9) from ⟨h.1, ?_⟩)
  replace h := h.2
  refine callX_mono (callX_len (d := (d + 102)) rfl rfl rfl (c190 (d := d + 101) h)) ?_
  clear h
  rintro v9 M1 ⟨hl, r2, rfl, h⟩
  replace hM := lenT hM hl
  show R189 sl sx d M0 P 36 [some (vR (some l0)), none, none, none, none] [vI r2] M1
  exact RN_k (callX_det _) 1 _ _ _ _ (show rtW q189 M0 (PI P) (some (vI r2)) M1 from ⟨⟨_, rfl, h.1⟩, hM.1, hM.2, _, rfl, h.2⟩)
def w189 (l0 : Nat) (l1 : Int32) (l2 : Int32) (l3 : Int32) (l4 : Int32) (M : MM) (P : Int32 → MM → Prop) : Prop := kd M l0 10 ∧ w183 l0 l1 l2 M (fun r2 M1 => (r2 = 0 → (w189_31  l0 M1 P)) ∧ (¬ (r2 = 0) → (kd M1 l0 10 ∧ w183 l0 l3 l4 M1 (fun r4 M3 => (r4 = 0 → (w189_31  l0 M3 P)) ∧ (¬ (r4 = 0) → (kd M3 l0 10 ∧ w180 l0 l3 M3 (fun r6 M5 => ((l4 + (1 : Int32)) ≠ r6 → (kd M5 l0 10 ∧ w191 l0 l1 l2 l3 l4 M5 (fun M7 => kd M7 l0 10 ∧ (kd M7 l0 10 ∧ (kd M7 l0 10 ∧ w194 l0 (mL M7 l0 50) (mL M7 l0 51) M7 (fun r9 M8 => (r9 = 0 ∨ r9 = 1) ∧ P r9 M8)))))) ∧ (¬ ((l4 + (1 : Int32)) ≠ r6) → (w189_31  l0 M5 P)))))))))
theorem t189_E {sl : Nat} {sx : Nat → Int32} {d : Nat} {M0 : MM} {P : Int32 → MM → Prop} (l0 : Nat) (l1 : Int32) (l2 : Int32) (l3 : Int32) (l4 : Int32) (M : MM) (hM : lenO M0 M) (h : w189  l0 l1 l2 l3 l4 M P) : R189 sl sx d M0 P 0 [some (vR (some l0)), some (vI l1), some (vI l2), some (vI l3), some (vI l4)] [] M := by
  refine RN_k (callX_det _) 4 _ _ _ _ (show kd M l0 10 ∧ callX TBg sl sx (d + 102) 183 [vR (some l0), vI l1, vI l2] M (fun v M9 => R189 sl sx d M0 P 6 [some (vR (some l0)), some (vI l1), some (vI l2), some (vI l3), some (vI l4)] (pushO v []) M9) from ⟨h.1, ?_⟩)
  replace h := h.2
  refine callX_mono (callX_len (d := (d + 102)) rfl rfl rfl (c183 (d := d + 99) h)) ?_
  clear h
  rintro v9 M1 ⟨hl, r2, rfl, h⟩
  replace hM := lenT hM hl
  show R189 sl sx d M0 P 6 [some (vR (some l0)), some (vI l1), some (vI l2), some (vI l3), some (vI l4)] [vI r2] M1
  refine RN_k (callX_det _) 1 _ _ _ _ (show (r2 = 0 → R189 sl sx d M0 P 31 [some (vR (some l0)), some (vI l1), some (vI l2), some (vI l3), some (vI l4)] [] M1) ∧ (¬ (r2 = 0) → R189 sl sx d M0 P 9 [some (vR (some l0)), some (vI l1), some (vI l2), some (vI l3), some (vI l4)] [] M1) from ⟨fun hc => ?_, fun hc => ?_⟩)
  · replace h := h.1 hc
    exact RN_weak (K := [some (vR (some l0)), none, none, none, none]) (callX_det _) (show _ ∧ True from ⟨rfl, trivial⟩) (t189_31  l0 _ hM h)
  · replace h := h.2 hc
    refine RN_k (callX_det _) 4 _ _ _ _ (show kd M1 l0 10 ∧ callX TBg sl sx (d + 102) 183 [vR (some l0), vI l3, vI l4] M1 (fun v M9 => R189 sl sx d M0 P 16 [some (vR (some l0)), some (vI l1), some (vI l2), some (vI l3), some (vI l4)] (pushO v []) M9) from ⟨h.1, ?_⟩)
    replace h := h.2
    refine callX_mono (callX_len (d := (d + 102)) rfl rfl rfl (c183 (d := d + 99) h)) ?_
    clear h
    rintro v9 M3 ⟨hl, r4, rfl, h⟩
    replace hM := lenT hM hl
    show R189 sl sx d M0 P 16 [some (vR (some l0)), some (vI l1), some (vI l2), some (vI l3), some (vI l4)] [vI r4] M3
    refine RN_k (callX_det _) 1 _ _ _ _ (show (r4 = 0 → R189 sl sx d M0 P 31 [some (vR (some l0)), some (vI l1), some (vI l2), some (vI l3), some (vI l4)] [] M3) ∧ (¬ (r4 = 0) → R189 sl sx d M0 P 19 [some (vR (some l0)), some (vI l1), some (vI l2), some (vI l3), some (vI l4)] [] M3) from ⟨fun hc => ?_, fun hc => ?_⟩)
    · replace h := h.1 hc
      exact RN_weak (K := [some (vR (some l0)), none, none, none, none]) (callX_det _) (show _ ∧ True from ⟨rfl, trivial⟩) (t189_31  l0 _ hM h)
    · replace h := h.2 hc
      refine RN_k (callX_det _) 6 _ _ _ _ (show kd M3 l0 10 ∧ callX TBg sl sx (d + 102) 180 [vR (some l0), vI l3] M3 (fun v M9 => R189 sl sx d M0 P 28 [some (vR (some l0)), some (vI l1), some (vI l2), some (vI l3), some (vI l4)] (pushO v [vI (l4 + (1 : Int32))]) M9) from ⟨h.1, ?_⟩)
      replace h := h.2
      refine callX_mono (callX_len (d := (d + 102)) rfl rfl rfl (c180 (d := d + 100) h)) ?_
      clear h
      rintro v9 M5 ⟨hl, r6, rfl, h⟩
      replace hM := lenT hM hl
      show R189 sl sx d M0 P 28 [some (vR (some l0)), some (vI l1), some (vI l2), some (vI l3), some (vI l4)] [vI r6, vI (l4 + (1 : Int32))] M5
      refine RN_k (callX_det _) 1 _ _ _ _ (show ((l4 + (1 : Int32)) ≠ r6 → R189 sl sx d M0 P 37 [some (vR (some l0)), some (vI l1), some (vI l2), some (vI l3), some (vI l4)] [] M5) ∧ (¬ ((l4 + (1 : Int32)) ≠ r6) → R189 sl sx d M0 P 31 [some (vR (some l0)), some (vI l1), some (vI l2), some (vI l3), some (vI l4)] [] M5) from ⟨fun hc => ?_, fun hc => ?_⟩)
      · replace h := h.1 hc
        refine RN_k (callX_det _) 6 _ _ _ _ (show kd M5 l0 10 ∧ callX TBg sl sx (d + 102) 191 [vR (some l0), vI l1, vI l2, vI l3, vI l4] M5 (fun v M9 => R189 sl sx d M0 P 46 [some (vR (some l0)), some (vI l1), some (vI l2), some (vI l3), some (vI l4)] (pushO v []) M9) from ⟨h.1, ?_⟩)
        replace h := h.2
        refine callX_mono (callX_len (d := (d + 102)) rfl rfl rfl (c191 (d := d + 99) h)) ?_
        clear h
        rintro v9 M7 ⟨hl, rfl, h⟩
        replace hM := lenT hM hl
        show R189 sl sx d M0 P 46 [some (vR (some l0)), some (vI l1), some (vI l2), some (vI l3), some (vI l4)] [] M7
        refine RN_k (callX_det _) 3 _ _ _ _ (show kd M7 l0 10 ∧ R189 sl sx d M0 P 51 [some (vR (some l0)), some (vI l1), some (vI l2), some (vI l3), some (vI l4)] [vL (mL M7 l0 50), vR (some l0)] M7 from ⟨h.1, ?_⟩)
        replace h := h.2
        refine RN_k (callX_det _) 2 _ _ _ _ (show kd M7 l0 10 ∧ R189 sl sx d M0 P 55 [some (vR (some l0)), some (vI l1), some (vI l2), some (vI l3), some (vI l4)] [vL (mL M7 l0 51), vL (mL M7 l0 50), vR (some l0)] M7 from ⟨h.1, ?_⟩)
        replace h := h.2
        refine RN_k (callX_det _) 1 _ _ _ _ (show kd M7 l0 10 ∧ callX TBg sl sx (d + 102) 194 [vR (some l0), vL (mL M7 l0 50), vL (mL M7 l0 51)] M7 (fun v M9 => R189 sl sx d M0 P 58 [some (vR (some l0)), some (vI l1), some (vI l2), some (vI l3), some (vI l4)] (pushO v []) M9) from ⟨h.1, ?_⟩)
        replace h := h.2
        refine callX_mono (callX_len (d := (d + 102)) rfl rfl rfl (c194 (d := d) h)) ?_
        clear h
        rintro v9 M8 ⟨hl, r9, rfl, h⟩
        replace hM := lenT hM hl
        show R189 sl sx d M0 P 58 [some (vR (some l0)), some (vI l1), some (vI l2), some (vI l3), some (vI l4)] [vI r9] M8
        exact RN_k (callX_det _) 1 _ _ _ _ (show rtW q189 M0 (PI P) (some (vI r9)) M8 from ⟨⟨_, rfl, h.1⟩, hM.1, hM.2, _, rfl, h.2⟩)
      · replace h := h.2 hc
        exact RN_weak (K := [some (vR (some l0)), none, none, none, none]) (callX_det _) (show _ ∧ True from ⟨rfl, trivial⟩) (t189_31  l0 _ hM h)
theorem c189 {sl : Nat} {sx : Nat → Int32} {d : Nat} {l0 : Nat} {l1 : Int32} {l2 : Int32} {l3 : Int32} {l4 : Int32} {M : MM} {P : Int32 → MM → Prop} (h : w189 l0 l1 l2 l3 l4 M P) : callX TBg sl sx (d + 103) 189 [vR (some l0), vI l1, vI l2, vI l3, vI l4] M (PI P) :=
  cX (d := d + 102) q189 (false, tb189) rfl rfl rfl (t189_E l0 l1 l2 l3 l4 M lenR h)
-- java/lang/Long.compare(JJ)I
abbrev q200 : MQ7 := (2, 0, 4, 13, 0, 0, 1)
abbrev R200 (sl : Nat) (sx : Nat → Int32) (d : Nat) (M0 : MM) (P : Int32 → MM → Prop) : Nat → LL → List VV → MM → Prop := RN 13 false (mS M0).length (mT M0) 0 0 sl sx (callX TBg sl sx (d + 0)) (rtW q200 M0 (PI P)) (as2 tb200)
def w200_21 (s0 : Int32) (M : MM) (P : Int32 → MM → Prop) : Prop := P s0 M
theorem t200_21 {sl : Nat} {sx : Nat → Int32} {d : Nat} {M0 : MM} {P : Int32 → MM → Prop} (s0 : Int32) (M : MM) (hM : lenO M0 M) (h : w200_21  s0 M P) : R200 sl sx d M0 P 21 [none, none, none, none] [vI s0] M := by
  exact RN_k (callX_det _) 1 _ _ _ _ (show rtW q200 M0 (PI P) (some (vI s0)) M from ⟨⟨_, rfl⟩, hM.1, hM.2, _, rfl, h⟩)
def w200 (l0 : Int64) (l2 : Int64) (M : MM) (P : Int32 → MM → Prop) : Prop := (0 ≤ (lg_cmp l0 l2) → (((lg_cmp l0 l2) ≠ 0 → (w200_21  (1 : Int32) M P)) ∧ (¬ ((lg_cmp l0 l2) ≠ 0) → (w200_21  (0 : Int32) M P)))) ∧ (¬ (0 ≤ (lg_cmp l0 l2)) → (w200_21  (-1 : Int32) M P))
theorem t200_E {sl : Nat} {sx : Nat → Int32} {d : Nat} {M0 : MM} {P : Int32 → MM → Prop} (l0 : Int64) (l2 : Int64) (M : MM) (hM : lenO M0 M) (h : w200  l0 l2 M P) : R200 sl sx d M0 P 0 [some (vL l0), none, some (vL l2), none] [] M := by
  refine RN_k (callX_det _) 4 _ _ _ _ (show (0 ≤ (lg_cmp l0 l2) → R200 sl sx d M0 P 10 [some (vL l0), none, some (vL l2), none] [] M) ∧ (¬ (0 ≤ (lg_cmp l0 l2)) → R200 sl sx d M0 P 6 [some (vL l0), none, some (vL l2), none] [] M) from ⟨fun hc => ?_, fun hc => ?_⟩)
  · replace h := h.1 hc
    refine RN_k (callX_det _) 4 _ _ _ _ (show ((lg_cmp l0 l2) ≠ 0 → R200 sl sx d M0 P 20 [some (vL l0), none, some (vL l2), none] [] M) ∧ (¬ ((lg_cmp l0 l2) ≠ 0) → R200 sl sx d M0 P 16 [some (vL l0), none, some (vL l2), none] [] M) from ⟨fun hc => ?_, fun hc => ?_⟩)
    · replace h := h.1 hc
      refine RN_k (callX_det _) 1 _ _ _ _ (show R200 sl sx d M0 P 21 [some (vL l0), none, some (vL l2), none] [vI (1 : Int32)] M from ?_)
      exact RN_weak (K := [none, none, none, none]) (callX_det _) (show True from trivial) (t200_21  (1 : Int32) _ hM h)
    · replace h := h.2 hc
      refine RN_k (callX_det _) 2 _ _ _ _ (show R200 sl sx d M0 P 21 [some (vL l0), none, some (vL l2), none] [vI (0 : Int32)] M from ?_)
      exact RN_weak (K := [none, none, none, none]) (callX_det _) (show True from trivial) (t200_21  (0 : Int32) _ hM h)
  · replace h := h.2 hc
    refine RN_k (callX_det _) 2 _ _ _ _ (show R200 sl sx d M0 P 21 [some (vL l0), none, some (vL l2), none] [vI (-1 : Int32)] M from ?_)
    exact RN_weak (K := [none, none, none, none]) (callX_det _) (show True from trivial) (t200_21  (-1 : Int32) _ hM h)
theorem c200 {sl : Nat} {sx : Nat → Int32} {d : Nat} {l0 : Int64} {l2 : Int64} {M : MM} {P : Int32 → MM → Prop} (h : w200 l0 l2 M P) : callX TBg sl sx (d + 1) 200 [vL l0, vL l2] M (PI P) :=
  cX (d := d + 0) q200 (false, tb200) rfl rfl rfl (t200_E l0 l2 M lenR h)
-- TwoLeashModel.comparedTo(JJJJ)I
abbrev q199 : MQ7 := (4, 0, 8, 10, 0, 0, 1)
abbrev R199 (sl : Nat) (sx : Nat → Int32) (d : Nat) (M0 : MM) (P : Int32 → MM → Prop) : Nat → LL → List VV → MM → Prop := RN 10 false (mS M0).length (mT M0) 0 0 sl sx (callX TBg sl sx (d + 1)) (rtW q199 M0 (PI P)) (as2 tb199)
def w199 (l0 : Int64) (l2 : Int64) (l4 : Int64) (l6 : Int64) (M : MM) (P : Int32 → MM → Prop) : Prop := w200 (l0 * l6) (l4 * l2) M (fun r2 M1 => P r2 M1)
theorem t199_E {sl : Nat} {sx : Nat → Int32} {d : Nat} {M0 : MM} {P : Int32 → MM → Prop} (l0 : Int64) (l2 : Int64) (l4 : Int64) (l6 : Int64) (M : MM) (hM : lenO M0 M) (h : w199  l0 l2 l4 l6 M P) : R199 sl sx d M0 P 0 [some (vL l0), none, some (vL l2), none, some (vL l4), none, some (vL l6), none] [] M := by
  refine RN_k (callX_det _) 7 _ _ _ _ (show callX TBg sl sx (d + 1) 200 [vL (l0 * l6), vL (l4 * l2)] M (fun v M9 => R199 sl sx d M0 P 11 [some (vL l0), none, some (vL l2), none, some (vL l4), none, some (vL l6), none] (pushO v []) M9) from ?_)
  refine callX_mono (callX_len (d := (d + 1)) rfl rfl rfl (c200 (d := d) h)) ?_
  clear h
  rintro v9 M1 ⟨hl, r2, rfl, h⟩
  replace hM := lenT hM hl
  show R199 sl sx d M0 P 11 [some (vL l0), none, some (vL l2), none, some (vL l4), none, some (vL l6), none] [vI r2] M1
  exact RN_k (callX_det _) 1 _ _ _ _ (show rtW q199 M0 (PI P) (some (vI r2)) M1 from ⟨⟨_, rfl⟩, hM.1, hM.2, _, rfl, h⟩)
theorem c199 {sl : Nat} {sx : Nat → Int32} {d : Nat} {l0 : Int64} {l2 : Int64} {l4 : Int64} {l6 : Int64} {M : MM} {P : Int32 → MM → Prop} (h : w199 l0 l2 l4 l6 M P) : callX TBg sl sx (d + 2) 199 [vL l0, vL l2, vL l4, vL l6] M (PI P) :=
  cX (d := d + 1) q199 (false, tb199) rfl rfl rfl (t199_E l0 l2 l4 l6 M lenR h)
-- TwoLeashModel.nearestEdge(III)I
abbrev q198 : MQ7 := (4, 1, 6, 10, 0, 0, 1)
abbrev R198 (sl : Nat) (sx : Nat → Int32) (d : Nat) (M0 : MM) (P : Int32 → MM → Prop) : Nat → LL → List VV → MM → Prop := RN 10 false (mS M0).length (mT M0) 0 0 sl sx (callX TBg sl sx (d + 3)) (rtW q198 M0 (PI P)) (as2 tb198)
def w198_78 (k6 : Nat → Int32 → Int32 → Int32 → Int32 → Int32 → MM → Prop) (l0 : Nat) (l1 : Int32) (l2 : Int32) (l3 : Int32) (l4 : Int32) (l5 : Int32) (M : MM) (P : Int32 → MM → Prop) : Prop := k6 l0 l1 l2 l3 l4 (l5 + (1 : Int32)) M
theorem t198_78 {sl : Nat} {sx : Nat → Int32} {d : Nat} {M0 : MM} {P : Int32 → MM → Prop} {k6 : Nat → Int32 → Int32 → Int32 → Int32 → Int32 → MM → Prop} (hk6 : ∀ (l0 : Nat) (l1 : Int32) (l2 : Int32) (l3 : Int32) (l4 : Int32) (l5 : Int32) (M : MM), lenO M0 M → k6 l0 l1 l2 l3 l4 l5 M → R198 sl sx d M0 P 6 [some (vR (some l0)), some (vI l1), some (vI l2), some (vI l3), some (vI l4), some (vI l5)] [] M) (l0 : Nat) (l1 : Int32) (l2 : Int32) (l3 : Int32) (l4 : Int32) (l5 : Int32) (M : MM) (hM : lenO M0 M) (h : w198_78 k6 l0 l1 l2 l3 l4 l5 M P) : R198 sl sx d M0 P 78 [some (vR (some l0)), some (vI l1), some (vI l2), some (vI l3), some (vI l4), some (vI l5)] [] M := by
  refine RN_k (callX_det _) 2 _ _ _ _ (show R198 sl sx d M0 P 6 [some (vR (some l0)), some (vI l1), some (vI l2), some (vI l3), some (vI l4), some (vI (l5 + (1 : Int32)))] [] M from ?_)
  exact RN_weak (K := [some (vR (some l0)), some (vI l1), some (vI l2), some (vI l3), some (vI l4), some (vI (l5 + (1 : Int32)))]) (callX_det _) (show _ ∧ _ ∧ _ ∧ _ ∧ _ ∧ _ ∧ True from ⟨rfl, rfl, rfl, rfl, rfl, rfl, trivial⟩) (hk6 l0 l1 l2 l3 l4 (l5 + (1 : Int32)) _ hM h)
def w198_58 (k6 : Nat → Int32 → Int32 → Int32 → Int32 → Int32 → MM → Prop) (l0 : Nat) (l1 : Int32) (l2 : Int32) (l3 : Int32) (l5 : Int32) (M : MM) (P : Int32 → MM → Prop) : Prop := kd M l0 10 ∧ (kd M l0 10 ∧ (kd (sL M l0 55 (mL M l0 50)) l0 10 ∧ (kd (sL M l0 55 (mL M l0 50)) l0 10 ∧ (w198_78 k6 l0 l1 l2 l3 l5 l5 (sL (sL M l0 55 (mL M l0 50)) l0 56 (mL (sL M l0 55 (mL M l0 50)) l0 51)) P))))
theorem t198_58 {sl : Nat} {sx : Nat → Int32} {d : Nat} {M0 : MM} {P : Int32 → MM → Prop} {k6 : Nat → Int32 → Int32 → Int32 → Int32 → Int32 → MM → Prop} (hk6 : ∀ (l0 : Nat) (l1 : Int32) (l2 : Int32) (l3 : Int32) (l4 : Int32) (l5 : Int32) (M : MM), lenO M0 M → k6 l0 l1 l2 l3 l4 l5 M → R198 sl sx d M0 P 6 [some (vR (some l0)), some (vI l1), some (vI l2), some (vI l3), some (vI l4), some (vI l5)] [] M) (l0 : Nat) (l1 : Int32) (l2 : Int32) (l3 : Int32) (l5 : Int32) (M : MM) (hM : lenO M0 M) (h : w198_58 k6 l0 l1 l2 l3 l5 M P) : R198 sl sx d M0 P 58 [some (vR (some l0)), some (vI l1), some (vI l2), some (vI l3), none, some (vI l5)] [] M := by
  refine RN_k (callX_det _) 5 _ _ _ _ (show kd M l0 10 ∧ R198 sl sx d M0 P 67 [some (vR (some l0)), some (vI l1), some (vI l2), some (vI l3), some (vI l5), some (vI l5)] [vL (mL M l0 50), vR (some l0)] M from ⟨h.1, ?_⟩)
  replace h := h.2
  refine RN_k (callX_det _) 1 _ _ _ _ (show kd M l0 10 ∧ R198 sl sx d M0 P 70 [some (vR (some l0)), some (vI l1), some (vI l2), some (vI l3), some (vI l5), some (vI l5)] [] (sL M l0 55 (mL M l0 50)) from ⟨h.1, ?_⟩)
  replace h := h.2
  refine RN_k (callX_det _) 3 _ _ _ _ (show kd (sL M l0 55 (mL M l0 50)) l0 10 ∧ R198 sl sx d M0 P 75 [some (vR (some l0)), some (vI l1), some (vI l2), some (vI l3), some (vI l5), some (vI l5)] [vL (mL (sL M l0 55 (mL M l0 50)) l0 51), vR (some l0)] (sL M l0 55 (mL M l0 50)) from ⟨h.1, ?_⟩)
  replace h := h.2
  refine RN_k (callX_det _) 1 _ _ _ _ (show kd (sL M l0 55 (mL M l0 50)) l0 10 ∧ R198 sl sx d M0 P 78 [some (vR (some l0)), some (vI l1), some (vI l2), some (vI l3), some (vI l5), some (vI l5)] [] (sL (sL M l0 55 (mL M l0 50)) l0 56 (mL (sL M l0 55 (mL M l0 50)) l0 51)) from ⟨h.1, ?_⟩)
  replace h := h.2
  exact RN_weak (K := [some (vR (some l0)), some (vI l1), some (vI l2), some (vI l3), some (vI l5), some (vI l5)]) (callX_det _) (show _ ∧ _ ∧ _ ∧ _ ∧ _ ∧ _ ∧ True from ⟨rfl, rfl, rfl, rfl, rfl, rfl, trivial⟩) (t198_78 hk6 l0 l1 l2 l3 l5 l5 _ hM h)
def w198_6 : Nat → Nat → Int32 → Int32 → Int32 → Int32 → Int32 → MM → (Int32 → MM → Prop) → Prop
  | 0 => fun _ _ _ _ _ _ _ _ => False
  | n + 1 => fun l0 l1 l2 l3 l4 l5 M P => kd M l0 10 ∧ w180 l0 l3 M (fun r2 M1 => (r2 ≤ (l5 + (1 : Int32)) → (P l4 M1)) ∧ (¬ (r2 ≤ (l5 + (1 : Int32))) → (kd M1 l0 10 ∧ w191 l0 l1 l2 l3 l5 M1 (fun M3 => (l4 = (-1 : Int32) → (w198_58 (fun z0 z1 z2 z3 z4 z5 z6 => w198_6  n z0 z1 z2 z3 z4 z5 z6 P) l0 l1 l2 l3 l5 M3 P)) ∧ (¬ (l4 = (-1 : Int32)) → (kd M3 l0 10 ∧ (kd M3 l0 10 ∧ (kd M3 l0 10 ∧ (kd M3 l0 10 ∧ (w199 (mL M3 l0 50) (mL M3 l0 51) (mL M3 l0 55) (mL M3 l0 56) M3 (fun r5 M4 => (r5 < 0 → (w198_58 (fun z0 z1 z2 z3 z4 z5 z6 => w198_6  n z0 z1 z2 z3 z4 z5 z6 P) l0 l1 l2 l3 l5 M4 P)) ∧ (¬ (r5 < 0) → (w198_78 (fun z0 z1 z2 z3 z4 z5 z6 => w198_6  n z0 z1 z2 z3 z4 z5 z6 P) l0 l1 l2 l3 l4 l5 M4 P)))))))))))))
theorem t198_6 {sl : Nat} {sx : Nat → Int32} {d : Nat} {M0 : MM} {P : Int32 → MM → Prop} (n : Nat) : ∀ (l0 : Nat) (l1 : Int32) (l2 : Int32) (l3 : Int32) (l4 : Int32) (l5 : Int32) (M : MM) (_ : lenO M0 M) (_ : w198_6  n l0 l1 l2 l3 l4 l5 M P), R198 sl sx d M0 P 6 [some (vR (some l0)), some (vI l1), some (vI l2), some (vI l3), some (vI l4), some (vI l5)] [] M := by
  induction n with
  | zero => intro l0 l1 l2 l3 l4 l5 M hM h; cases h
  | succ n ih =>
    intro l0 l1 l2 l3 l4 l5 M hM h
    refine RN_k (callX_det _) 6 _ _ _ _ (show kd M l0 10 ∧ callX TBg sl sx (d + 3) 180 [vR (some l0), vI l3] M (fun v M9 => R198 sl sx d M0 P 15 [some (vR (some l0)), some (vI l1), some (vI l2), some (vI l3), some (vI l4), some (vI l5)] (pushO v [vI (l5 + (1 : Int32))]) M9) from ⟨h.1, ?_⟩)
    replace h := h.2
    refine callX_mono (callX_len (d := (d + 3)) rfl rfl rfl (c180 (d := d + 1) h)) ?_
    clear h
    rintro v9 M1 ⟨hl, r2, rfl, h⟩
    replace hM := lenT hM hl
    show R198 sl sx d M0 P 15 [some (vR (some l0)), some (vI l1), some (vI l2), some (vI l3), some (vI l4), some (vI l5)] [vI r2, vI (l5 + (1 : Int32))] M1
    refine RN_k (callX_det _) 1 _ _ _ _ (show (r2 ≤ (l5 + (1 : Int32)) → R198 sl sx d M0 P 84 [some (vR (some l0)), some (vI l1), some (vI l2), some (vI l3), some (vI l4), some (vI l5)] [] M1) ∧ (¬ (r2 ≤ (l5 + (1 : Int32))) → R198 sl sx d M0 P 18 [some (vR (some l0)), some (vI l1), some (vI l2), some (vI l3), some (vI l4), some (vI l5)] [] M1) from ⟨fun hc => ?_, fun hc => ?_⟩)
    · replace h := h.1 hc
      exact RN_k (callX_det _) 2 _ _ _ _ (show rtW q198 M0 (PI P) (some (vI l4)) M1 from ⟨⟨_, rfl⟩, hM.1, hM.2, _, rfl, h⟩)
    · replace h := h.2 hc
      refine RN_k (callX_det _) 6 _ _ _ _ (show kd M1 l0 10 ∧ callX TBg sl sx (d + 3) 191 [vR (some l0), vI l1, vI l2, vI l3, vI l5] M1 (fun v M9 => R198 sl sx d M0 P 27 [some (vR (some l0)), some (vI l1), some (vI l2), some (vI l3), some (vI l4), some (vI l5)] (pushO v []) M9) from ⟨h.1, ?_⟩)
      replace h := h.2
      refine callX_mono (callX_len (d := (d + 3)) rfl rfl rfl (c191 (d := d) h)) ?_
      clear h
      rintro v9 M3 ⟨hl, rfl, h⟩
      replace hM := lenT hM hl
      show R198 sl sx d M0 P 27 [some (vR (some l0)), some (vI l1), some (vI l2), some (vI l3), some (vI l4), some (vI l5)] [] M3
      refine RN_k (callX_det _) 3 _ _ _ _ (show (l4 = (-1 : Int32) → R198 sl sx d M0 P 58 [some (vR (some l0)), some (vI l1), some (vI l2), some (vI l3), some (vI l4), some (vI l5)] [] M3) ∧ (¬ (l4 = (-1 : Int32)) → R198 sl sx d M0 P 33 [some (vR (some l0)), some (vI l1), some (vI l2), some (vI l3), some (vI l4), some (vI l5)] [] M3) from ⟨fun hc => ?_, fun hc => ?_⟩)
      · replace h := h.1 hc
        exact RN_weak (K := [some (vR (some l0)), some (vI l1), some (vI l2), some (vI l3), none, some (vI l5)]) (callX_det _) (show _ ∧ _ ∧ _ ∧ _ ∧ _ ∧ True from ⟨rfl, rfl, rfl, rfl, rfl, trivial⟩) (t198_58 ih l0 l1 l2 l3 l5 _ hM h)
      · replace h := h.2 hc
        refine RN_k (callX_det _) 2 _ _ _ _ (show kd M3 l0 10 ∧ R198 sl sx d M0 P 37 [some (vR (some l0)), some (vI l1), some (vI l2), some (vI l3), some (vI l4), some (vI l5)] [vL (mL M3 l0 50)] M3 from ⟨h.1, ?_⟩)
        replace h := h.2
        refine RN_k (callX_det _) 2 _ _ _ _ (show kd M3 l0 10 ∧ R198 sl sx d M0 P 41 [some (vR (some l0)), some (vI l1), some (vI l2), some (vI l3), some (vI l4), some (vI l5)] [vL (mL M3 l0 51), vL (mL M3 l0 50)] M3 from ⟨h.1, ?_⟩)
        replace h := h.2
        refine RN_k (callX_det _) 2 _ _ _ _ (show kd M3 l0 10 ∧ R198 sl sx d M0 P 45 [some (vR (some l0)), some (vI l1), some (vI l2), some (vI l3), some (vI l4), some (vI l5)] [vL (mL M3 l0 55), vL (mL M3 l0 51), vL (mL M3 l0 50)] M3 from ⟨h.1, ?_⟩)
        replace h := h.2
        refine RN_k (callX_det _) 2 _ _ _ _ (show kd M3 l0 10 ∧ R198 sl sx d M0 P 49 [some (vR (some l0)), some (vI l1), some (vI l2), some (vI l3), some (vI l4), some (vI l5)] [vL (mL M3 l0 56), vL (mL M3 l0 55), vL (mL M3 l0 51), vL (mL M3 l0 50)] M3 from ⟨h.1, ?_⟩)
        replace h := h.2
        refine RN_k (callX_det _) 1 _ _ _ _ (show callX TBg sl sx (d + 3) 199 [vL (mL M3 l0 50), vL (mL M3 l0 51), vL (mL M3 l0 55), vL (mL M3 l0 56)] M3 (fun v M9 => R198 sl sx d M0 P 52 [some (vR (some l0)), some (vI l1), some (vI l2), some (vI l3), some (vI l4), some (vI l5)] (pushO v []) M9) from ?_)
        refine callX_mono (callX_len (d := (d + 3)) rfl rfl rfl (c199 (d := d + 1) h)) ?_
        clear h
        rintro v9 M4 ⟨hl, r5, rfl, h⟩
        replace hM := lenT hM hl
        show R198 sl sx d M0 P 52 [some (vR (some l0)), some (vI l1), some (vI l2), some (vI l3), some (vI l4), some (vI l5)] [vI r5] M4
        refine RN_k (callX_det _) 1 _ _ _ _ (show (r5 < 0 → R198 sl sx d M0 P 58 [some (vR (some l0)), some (vI l1), some (vI l2), some (vI l3), some (vI l4), some (vI l5)] [] M4) ∧ (¬ (r5 < 0) → R198 sl sx d M0 P 55 [some (vR (some l0)), some (vI l1), some (vI l2), some (vI l3), some (vI l4), some (vI l5)] [] M4) from ⟨fun hc => ?_, fun hc => ?_⟩)
        · replace h := h.1 hc
          exact RN_weak (K := [some (vR (some l0)), some (vI l1), some (vI l2), some (vI l3), none, some (vI l5)]) (callX_det _) (show _ ∧ _ ∧ _ ∧ _ ∧ _ ∧ True from ⟨rfl, rfl, rfl, rfl, rfl, trivial⟩) (t198_58 ih l0 l1 l2 l3 l5 _ hM h)
        · replace h := h.2 hc
          refine RN_k (callX_det _) 1 _ _ _ _ (show R198 sl sx d M0 P 78 [some (vR (some l0)), some (vI l1), some (vI l2), some (vI l3), some (vI l4), some (vI l5)] [] M4 from ?_)
          exact RN_weak (K := [some (vR (some l0)), some (vI l1), some (vI l2), some (vI l3), some (vI l4), some (vI l5)]) (callX_det _) (show _ ∧ _ ∧ _ ∧ _ ∧ _ ∧ _ ∧ True from ⟨rfl, rfl, rfl, rfl, rfl, rfl, trivial⟩) (t198_78 ih l0 l1 l2 l3 l4 l5 _ hM h)
def w198 (l0 : Nat) (l1 : Int32) (l2 : Int32) (l3 : Int32) (M : MM) (P : Int32 → MM → Prop) : Prop := ∃ n2, w198_6  n2 l0 l1 l2 l3 (-1 : Int32) (0 : Int32) M P
theorem t198_E {sl : Nat} {sx : Nat → Int32} {d : Nat} {M0 : MM} {P : Int32 → MM → Prop} (l0 : Nat) (l1 : Int32) (l2 : Int32) (l3 : Int32) (M : MM) (hM : lenO M0 M) (h : w198  l0 l1 l2 l3 M P) : R198 sl sx d M0 P 0 [some (vR (some l0)), some (vI l1), some (vI l2), some (vI l3), none, none] [] M := by
  refine RN_k (callX_det _) 4 _ _ _ _ (show R198 sl sx d M0 P 6 [some (vR (some l0)), some (vI l1), some (vI l2), some (vI l3), some (vI (-1 : Int32)), some (vI (0 : Int32))] [] M from ?_)
  obtain ⟨n2, h⟩ := h
  exact RN_weak (K := [some (vR (some l0)), some (vI l1), some (vI l2), some (vI l3), some (vI (-1 : Int32)), some (vI (0 : Int32))]) (callX_det _) (show _ ∧ _ ∧ _ ∧ _ ∧ _ ∧ _ ∧ True from ⟨rfl, rfl, rfl, rfl, rfl, rfl, trivial⟩) (t198_6  n2 l0 l1 l2 l3 (-1 : Int32) (0 : Int32) _ hM h)
theorem c198 {sl : Nat} {sx : Nat → Int32} {d : Nat} {l0 : Nat} {l1 : Int32} {l2 : Int32} {l3 : Int32} {M : MM} {P : Int32 → MM → Prop} (h : w198 l0 l1 l2 l3 M P) : callX TBg sl sx (d + 4) 198 [vR (some l0), vI l1, vI l2, vI l3] M (PI P) :=
  cX (d := d + 3) q198 (false, tb198) rfl rfl rfl (t198_E l0 l1 l2 l3 M lenR h)
-- TwoLeashModel.nearest(III)I
abbrev q197 : MQ7 := (4, 1, 5, 10, 0, 0, 1)
abbrev R197 (sl : Nat) (sx : Nat → Int32) (d : Nat) (M0 : MM) (P : Int32 → MM → Prop) : Nat → LL → List VV → MM → Prop := RN 10 false (mS M0).length (mT M0) 0 0 sl sx (callX TBg sl sx (d + 101)) (rtW q197 M0 (PI P)) (as2 tb197)
def w197_17 (l0 : Nat) (M : MM) (P : Int32 → MM → Prop) : Prop := kd M l0 10 ∧ w167 l0 (2 : Int32) M (fun r2 M1 => P r2 M1)
theorem t197_17 {sl : Nat} {sx : Nat → Int32} {d : Nat} {M0 : MM} {P : Int32 → MM → Prop} (l0 : Nat) (M : MM) (hM : lenO M0 M) (h : w197_17  l0 M P) : R197 sl sx d M0 P 17 [some (vR (some l0)), none, none, none, none] [] M := by
  refine RN_k (callX_det _) 3 _ _ _ _ (show kd M l0 10 ∧ callX TBg sl sx (d + 101) 167 [vR (some l0), vI (2 : Int32)] M (fun v M9 => R197 sl sx d M0 P 22 [some (vR (some l0)), none, none, none, none] (pushO v []) M9) from ⟨h.1, ?_⟩)
  replace h := h.2
  refine callX_mono (callX_len (d := (d + 101)) rfl rfl rfl (c167 (d := d + 100) h)) ?_
  clear h
  rintro v9 M1 ⟨hl, r2, rfl, h⟩
  replace hM := lenT hM hl
  show R197 sl sx d M0 P 22 [some (vR (some l0)), none, none, none, none] [vI r2] M1
  exact RN_k (callX_det _) 1 _ _ _ _ (show rtW q197 M0 (PI P) (some (vI r2)) M1 from ⟨⟨_, rfl⟩, hM.1, hM.2, _, rfl, h⟩)
def w197 (l0 : Nat) (l1 : Int32) (l2 : Int32) (l3 : Int32) (M : MM) (P : Int32 → MM → Prop) : Prop := kd M l0 10 ∧ w183 l0 l1 l2 M (fun r2 M1 => (r2 = 0 → (w197_17  l0 M1 P)) ∧ (¬ (r2 = 0) → (kd M1 l0 10 ∧ w182 l0 l3 M1 (fun r4 M3 => (r4 ≠ 0 → ((l1 ≠ l3 → (kd M3 l0 10 ∧ w198 l0 l1 l2 l3 M3 (fun r6 M5 => kd M5 l0 10 ∧ (kd M5 l0 10 ∧ (kd M5 l0 10 ∧ w195 l0 (mL M5 l0 55) (mL M5 l0 56) M5 (fun M7 => kd M7 l0 10 ∧ w177 l0 r6 M7 (fun r9 M8 => P r9 M8))))))) ∧ (¬ (l1 ≠ l3) → (kd M3 l0 10 ∧ w167 l0 (4 : Int32) M3 (fun r11 M10 => P r11 M10))))) ∧ (¬ (r4 ≠ 0) → (w197_17  l0 M3 P))))))
theorem t197_E {sl : Nat} {sx : Nat → Int32} {d : Nat} {M0 : MM} {P : Int32 → MM → Prop} (l0 : Nat) (l1 : Int32) (l2 : Int32) (l3 : Int32) (M : MM) (hM : lenO M0 M) (h : w197  l0 l1 l2 l3 M P) : R197 sl sx d M0 P 0 [some (vR (some l0)), some (vI l1), some (vI l2), some (vI l3), none] [] M := by
  refine RN_k (callX_det _) 4 _ _ _ _ (show kd M l0 10 ∧ callX TBg sl sx (d + 101) 183 [vR (some l0), vI l1, vI l2] M (fun v M9 => R197 sl sx d M0 P 6 [some (vR (some l0)), some (vI l1), some (vI l2), some (vI l3), none] (pushO v []) M9) from ⟨h.1, ?_⟩)
  replace h := h.2
  refine callX_mono (callX_len (d := (d + 101)) rfl rfl rfl (c183 (d := d + 98) h)) ?_
  clear h
  rintro v9 M1 ⟨hl, r2, rfl, h⟩
  replace hM := lenT hM hl
  show R197 sl sx d M0 P 6 [some (vR (some l0)), some (vI l1), some (vI l2), some (vI l3), none] [vI r2] M1
  refine RN_k (callX_det _) 1 _ _ _ _ (show (r2 = 0 → R197 sl sx d M0 P 17 [some (vR (some l0)), some (vI l1), some (vI l2), some (vI l3), none] [] M1) ∧ (¬ (r2 = 0) → R197 sl sx d M0 P 9 [some (vR (some l0)), some (vI l1), some (vI l2), some (vI l3), none] [] M1) from ⟨fun hc => ?_, fun hc => ?_⟩)
  · replace h := h.1 hc
    exact RN_weak (K := [some (vR (some l0)), none, none, none, none]) (callX_det _) (show _ ∧ True from ⟨rfl, trivial⟩) (t197_17  l0 _ hM h)
  · replace h := h.2 hc
    refine RN_k (callX_det _) 3 _ _ _ _ (show kd M1 l0 10 ∧ callX TBg sl sx (d + 101) 182 [vR (some l0), vI l3] M1 (fun v M9 => R197 sl sx d M0 P 14 [some (vR (some l0)), some (vI l1), some (vI l2), some (vI l3), none] (pushO v []) M9) from ⟨h.1, ?_⟩)
    replace h := h.2
    refine callX_mono (callX_len (d := (d + 101)) rfl rfl rfl (c182 (d := d + 99) h)) ?_
    clear h
    rintro v9 M3 ⟨hl, r4, rfl, h⟩
    replace hM := lenT hM hl
    show R197 sl sx d M0 P 14 [some (vR (some l0)), some (vI l1), some (vI l2), some (vI l3), none] [vI r4] M3
    refine RN_k (callX_det _) 1 _ _ _ _ (show (r4 ≠ 0 → R197 sl sx d M0 P 23 [some (vR (some l0)), some (vI l1), some (vI l2), some (vI l3), none] [] M3) ∧ (¬ (r4 ≠ 0) → R197 sl sx d M0 P 17 [some (vR (some l0)), some (vI l1), some (vI l2), some (vI l3), none] [] M3) from ⟨fun hc => ?_, fun hc => ?_⟩)
    · replace h := h.1 hc
      refine RN_k (callX_det _) 3 _ _ _ _ (show (l1 ≠ l3 → R197 sl sx d M0 P 34 [some (vR (some l0)), some (vI l1), some (vI l2), some (vI l3), none] [] M3) ∧ (¬ (l1 ≠ l3) → R197 sl sx d M0 P 28 [some (vR (some l0)), some (vI l1), some (vI l2), some (vI l3), none] [] M3) from ⟨fun hc => ?_, fun hc => ?_⟩)
      · replace h := h.1 hc
        refine RN_k (callX_det _) 5 _ _ _ _ (show kd M3 l0 10 ∧ callX TBg sl sx (d + 101) 198 [vR (some l0), vI l1, vI l2, vI l3] M3 (fun v M9 => R197 sl sx d M0 P 41 [some (vR (some l0)), some (vI l1), some (vI l2), some (vI l3), none] (pushO v []) M9) from ⟨h.1, ?_⟩)
        replace h := h.2
        refine callX_mono (callX_len (d := (d + 101)) rfl rfl rfl (c198 (d := d + 97) h)) ?_
        clear h
        rintro v9 M5 ⟨hl, r6, rfl, h⟩
        replace hM := lenT hM hl
        show R197 sl sx d M0 P 41 [some (vR (some l0)), some (vI l1), some (vI l2), some (vI l3), none] [vI r6] M5
        refine RN_k (callX_det _) 4 _ _ _ _ (show kd M5 l0 10 ∧ R197 sl sx d M0 P 48 [some (vR (some l0)), some (vI l1), some (vI l2), some (vI l3), some (vI r6)] [vL (mL M5 l0 55), vR (some l0)] M5 from ⟨h.1, ?_⟩)
        replace h := h.2
        refine RN_k (callX_det _) 2 _ _ _ _ (show kd M5 l0 10 ∧ R197 sl sx d M0 P 52 [some (vR (some l0)), some (vI l1), some (vI l2), some (vI l3), some (vI r6)] [vL (mL M5 l0 56), vL (mL M5 l0 55), vR (some l0)] M5 from ⟨h.1, ?_⟩)
        replace h := h.2
        refine RN_k (callX_det _) 1 _ _ _ _ (show kd M5 l0 10 ∧ callX TBg sl sx (d + 101) 195 [vR (some l0), vL (mL M5 l0 55), vL (mL M5 l0 56)] M5 (fun v M9 => R197 sl sx d M0 P 55 [some (vR (some l0)), some (vI l1), some (vI l2), some (vI l3), some (vI r6)] (pushO v []) M9) from ⟨h.1, ?_⟩)
        replace h := h.2
        refine callX_mono (callX_len (d := (d + 101)) rfl rfl rfl (c195 (d := d) h)) ?_
        clear h
        rintro v9 M7 ⟨hl, rfl, h⟩
        replace hM := lenT hM hl
        show R197 sl sx d M0 P 55 [some (vR (some l0)), some (vI l1), some (vI l2), some (vI l3), some (vI r6)] [] M7
        refine RN_k (callX_det _) 3 _ _ _ _ (show kd M7 l0 10 ∧ callX TBg sl sx (d + 101) 177 [vR (some l0), vI r6] M7 (fun v M9 => R197 sl sx d M0 P 61 [some (vR (some l0)), some (vI l1), some (vI l2), some (vI l3), some (vI r6)] (pushO v []) M9) from ⟨h.1, ?_⟩)
        replace h := h.2
        refine callX_mono (callX_len (d := (d + 101)) rfl rfl rfl (c177 (d := d + 100) h)) ?_
        clear h
        rintro v9 M8 ⟨hl, r9, rfl, h⟩
        replace hM := lenT hM hl
        show R197 sl sx d M0 P 61 [some (vR (some l0)), some (vI l1), some (vI l2), some (vI l3), some (vI r6)] [vI r9] M8
        exact RN_k (callX_det _) 1 _ _ _ _ (show rtW q197 M0 (PI P) (some (vI r9)) M8 from ⟨⟨_, rfl⟩, hM.1, hM.2, _, rfl, h⟩)
      · replace h := h.2 hc
        refine RN_k (callX_det _) 3 _ _ _ _ (show kd M3 l0 10 ∧ callX TBg sl sx (d + 101) 167 [vR (some l0), vI (4 : Int32)] M3 (fun v M9 => R197 sl sx d M0 P 33 [some (vR (some l0)), some (vI l1), some (vI l2), some (vI l3), none] (pushO v []) M9) from ⟨h.1, ?_⟩)
        replace h := h.2
        refine callX_mono (callX_len (d := (d + 101)) rfl rfl rfl (c167 (d := d + 100) h)) ?_
        clear h
        rintro v9 M10 ⟨hl, r11, rfl, h⟩
        replace hM := lenT hM hl
        show R197 sl sx d M0 P 33 [some (vR (some l0)), some (vI l1), some (vI l2), some (vI l3), none] [vI r11] M10
        exact RN_k (callX_det _) 1 _ _ _ _ (show rtW q197 M0 (PI P) (some (vI r11)) M10 from ⟨⟨_, rfl⟩, hM.1, hM.2, _, rfl, h⟩)
    · replace h := h.2 hc
      exact RN_weak (K := [some (vR (some l0)), none, none, none, none]) (callX_det _) (show _ ∧ True from ⟨rfl, trivial⟩) (t197_17  l0 _ hM h)
theorem c197 {sl : Nat} {sx : Nat → Int32} {d : Nat} {l0 : Nat} {l1 : Int32} {l2 : Int32} {l3 : Int32} {M : MM} {P : Int32 → MM → Prop} (h : w197 l0 l1 l2 l3 M P) : callX TBg sl sx (d + 102) 197 [vR (some l0), vI l1, vI l2, vI l3] M (PI P) :=
  cX (d := d + 101) q197 (false, tb197) rfl rfl rfl (t197_E l0 l1 l2 l3 M lenR h)
-- TwoLeashModel.whyTwo(II)I
abbrev q202 : MQ7 := (3, 1, 3, 10, 0, 0, 1)
abbrev R202 (sl : Nat) (sx : Nat → Int32) (d : Nat) (M0 : MM) (P : Int32 → MM → Prop) : Nat → LL → List VV → MM → Prop := RN 10 false (mS M0).length (mT M0) 0 0 sl sx (callX TBg sl sx (d + 2)) (rtW q202 M0 (PI P)) (as2 tb202)
def w202_30 (s0 : Int32) (M : MM) (P : Int32 → MM → Prop) : Prop := P s0 M
theorem t202_30 {sl : Nat} {sx : Nat → Int32} {d : Nat} {M0 : MM} {P : Int32 → MM → Prop} (s0 : Int32) (M : MM) (hM : lenO M0 M) (h : w202_30  s0 M P) : R202 sl sx d M0 P 30 [none, none, none] [vI s0] M := by
  exact RN_k (callX_det _) 1 _ _ _ _ (show rtW q202 M0 (PI P) (some (vI s0)) M from ⟨⟨_, rfl⟩, hM.1, hM.2, _, rfl, h⟩)
def w202_16 (M : MM) (P : Int32 → MM → Prop) : Prop := w202_30  (2 : Int32) M P
theorem t202_16 {sl : Nat} {sx : Nat → Int32} {d : Nat} {M0 : MM} {P : Int32 → MM → Prop}  (M : MM) (hM : lenO M0 M) (h : w202_16   M P) : R202 sl sx d M0 P 16 [none, none, none] [] M := by
  refine RN_k (callX_det _) 2 _ _ _ _ (show R202 sl sx d M0 P 30 [none, none, none] [vI (2 : Int32)] M from ?_)
  exact RN_weak (K := [none, none, none]) (callX_det _) (show True from trivial) (t202_30  (2 : Int32) _ hM h)
def w202 (l0 : Nat) (l1 : Int32) (l2 : Int32) (M : MM) (P : Int32 → MM → Prop) : Prop := kd M l0 10 ∧ w182 l0 l1 M (fun r2 M1 => (r2 = 0 → (w202_16  M1 P)) ∧ (¬ (r2 = 0) → (kd M1 l0 10 ∧ w182 l0 l2 M1 (fun r4 M3 => (r4 ≠ 0 → ((l1 ≠ l2 → (w202_30  (0 : Int32) M3 P)) ∧ (¬ (l1 ≠ l2) → (w202_30  (4 : Int32) M3 P)))) ∧ (¬ (r4 ≠ 0) → (w202_16  M3 P))))))
theorem t202_E {sl : Nat} {sx : Nat → Int32} {d : Nat} {M0 : MM} {P : Int32 → MM → Prop} (l0 : Nat) (l1 : Int32) (l2 : Int32) (M : MM) (hM : lenO M0 M) (h : w202  l0 l1 l2 M P) : R202 sl sx d M0 P 0 [some (vR (some l0)), some (vI l1), some (vI l2)] [] M := by
  refine RN_k (callX_det _) 3 _ _ _ _ (show kd M l0 10 ∧ callX TBg sl sx (d + 2) 182 [vR (some l0), vI l1] M (fun v M9 => R202 sl sx d M0 P 5 [some (vR (some l0)), some (vI l1), some (vI l2)] (pushO v []) M9) from ⟨h.1, ?_⟩)
  replace h := h.2
  refine callX_mono (callX_len (d := (d + 2)) rfl rfl rfl (c182 (d := d) h)) ?_
  clear h
  rintro v9 M1 ⟨hl, r2, rfl, h⟩
  replace hM := lenT hM hl
  show R202 sl sx d M0 P 5 [some (vR (some l0)), some (vI l1), some (vI l2)] [vI r2] M1
  refine RN_k (callX_det _) 1 _ _ _ _ (show (r2 = 0 → R202 sl sx d M0 P 16 [some (vR (some l0)), some (vI l1), some (vI l2)] [] M1) ∧ (¬ (r2 = 0) → R202 sl sx d M0 P 8 [some (vR (some l0)), some (vI l1), some (vI l2)] [] M1) from ⟨fun hc => ?_, fun hc => ?_⟩)
  · replace h := h.1 hc
    exact RN_weak (K := [none, none, none]) (callX_det _) (show True from trivial) (t202_16   _ hM h)
  · replace h := h.2 hc
    refine RN_k (callX_det _) 3 _ _ _ _ (show kd M1 l0 10 ∧ callX TBg sl sx (d + 2) 182 [vR (some l0), vI l2] M1 (fun v M9 => R202 sl sx d M0 P 13 [some (vR (some l0)), some (vI l1), some (vI l2)] (pushO v []) M9) from ⟨h.1, ?_⟩)
    replace h := h.2
    refine callX_mono (callX_len (d := (d + 2)) rfl rfl rfl (c182 (d := d) h)) ?_
    clear h
    rintro v9 M3 ⟨hl, r4, rfl, h⟩
    replace hM := lenT hM hl
    show R202 sl sx d M0 P 13 [some (vR (some l0)), some (vI l1), some (vI l2)] [vI r4] M3
    refine RN_k (callX_det _) 1 _ _ _ _ (show (r4 ≠ 0 → R202 sl sx d M0 P 20 [some (vR (some l0)), some (vI l1), some (vI l2)] [] M3) ∧ (¬ (r4 ≠ 0) → R202 sl sx d M0 P 16 [some (vR (some l0)), some (vI l1), some (vI l2)] [] M3) from ⟨fun hc => ?_, fun hc => ?_⟩)
    · replace h := h.1 hc
      refine RN_k (callX_det _) 3 _ _ _ _ (show (l1 ≠ l2 → R202 sl sx d M0 P 29 [some (vR (some l0)), some (vI l1), some (vI l2)] [] M3) ∧ (¬ (l1 ≠ l2) → R202 sl sx d M0 P 25 [some (vR (some l0)), some (vI l1), some (vI l2)] [] M3) from ⟨fun hc => ?_, fun hc => ?_⟩)
      · replace h := h.1 hc
        refine RN_k (callX_det _) 1 _ _ _ _ (show R202 sl sx d M0 P 30 [some (vR (some l0)), some (vI l1), some (vI l2)] [vI (0 : Int32)] M3 from ?_)
        exact RN_weak (K := [none, none, none]) (callX_det _) (show True from trivial) (t202_30  (0 : Int32) _ hM h)
      · replace h := h.2 hc
        refine RN_k (callX_det _) 2 _ _ _ _ (show R202 sl sx d M0 P 30 [some (vR (some l0)), some (vI l1), some (vI l2)] [vI (4 : Int32)] M3 from ?_)
        exact RN_weak (K := [none, none, none]) (callX_det _) (show True from trivial) (t202_30  (4 : Int32) _ hM h)
    · replace h := h.2 hc
      exact RN_weak (K := [none, none, none]) (callX_det _) (show True from trivial) (t202_16   _ hM h)
theorem c202 {sl : Nat} {sx : Nat → Int32} {d : Nat} {l0 : Nat} {l1 : Int32} {l2 : Int32} {M : MM} {P : Int32 → MM → Prop} (h : w202 l0 l1 l2 M P) : callX TBg sl sx (d + 3) 202 [vR (some l0), vI l1, vI l2] M (PI P) :=
  cX (d := d + 2) q202 (false, tb202) rfl rfl rfl (t202_E l0 l1 l2 M lenR h)
-- TwoLeashModel.farthest(II)I
abbrev q201 : MQ7 := (3, 1, 11, 10, 0, 0, 1)
abbrev R201 (sl : Nat) (sx : Nat → Int32) (d : Nat) (M0 : MM) (P : Int32 → MM → Prop) : Nat → LL → List VV → MM → Prop := RN 10 false (mS M0).length (mT M0) 0 0 sl sx (callX TBg sl sx (d + 101)) (rtW q201 M0 (PI P)) (as2 tb201)
def w201_92 (k29 : Nat → Int32 → Int32 → Int32 → Int64 → Int64 → Int32 → MM → Prop) (l0 : Nat) (l1 : Int32) (l2 : Int32) (l4 : Int32) (l5 : Int64) (l7 : Int64) (l9 : Int32) (M : MM) (P : Int32 → MM → Prop) : Prop := k29 l0 l1 l2 l4 l5 l7 (l9 + (1 : Int32)) M
theorem t201_92 {sl : Nat} {sx : Nat → Int32} {d : Nat} {M0 : MM} {P : Int32 → MM → Prop} {k29 : Nat → Int32 → Int32 → Int32 → Int64 → Int64 → Int32 → MM → Prop} (hk29 : ∀ (l0 : Nat) (l1 : Int32) (l2 : Int32) (l4 : Int32) (l5 : Int64) (l7 : Int64) (l9 : Int32) (M : MM), lenO M0 M → k29 l0 l1 l2 l4 l5 l7 l9 M → R201 sl sx d M0 P 29 [some (vR (some l0)), some (vI l1), some (vI l2), none, some (vI l4), some (vL l5), none, some (vL l7), none, some (vI l9), none] [] M) (l0 : Nat) (l1 : Int32) (l2 : Int32) (l4 : Int32) (l5 : Int64) (l7 : Int64) (l9 : Int32) (M : MM) (hM : lenO M0 M) (h : w201_92 k29 l0 l1 l2 l4 l5 l7 l9 M P) : R201 sl sx d M0 P 92 [some (vR (some l0)), some (vI l1), some (vI l2), none, some (vI l4), some (vL l5), none, some (vL l7), none, some (vI l9), none] [] M := by
  refine RN_k (callX_det _) 2 _ _ _ _ (show R201 sl sx d M0 P 29 [some (vR (some l0)), some (vI l1), some (vI l2), none, some (vI l4), some (vL l5), none, some (vL l7), none, some (vI (l9 + (1 : Int32))), none] [] M from ?_)
  exact RN_weak (K := [some (vR (some l0)), some (vI l1), some (vI l2), none, some (vI l4), some (vL l5), none, some (vL l7), none, some (vI (l9 + (1 : Int32))), none]) (callX_det _) (show _ ∧ _ ∧ _ ∧ _ ∧ _ ∧ _ ∧ _ ∧ True from ⟨rfl, rfl, rfl, rfl, rfl, rfl, rfl, trivial⟩) (hk29 l0 l1 l2 l4 l5 l7 (l9 + (1 : Int32)) _ hM h)
def w201_76 (k29 : Nat → Int32 → Int32 → Int32 → Int64 → Int64 → Int32 → MM → Prop) (l0 : Nat) (l1 : Int32) (l2 : Int32) (l9 : Int32) (M : MM) (P : Int32 → MM → Prop) : Prop := kd M l0 10 ∧ (kd M l0 10 ∧ (w201_92 k29 l0 l1 l2 l9 (mL M l0 55) (mL M l0 56) l9 M P))
theorem t201_76 {sl : Nat} {sx : Nat → Int32} {d : Nat} {M0 : MM} {P : Int32 → MM → Prop} {k29 : Nat → Int32 → Int32 → Int32 → Int64 → Int64 → Int32 → MM → Prop} (hk29 : ∀ (l0 : Nat) (l1 : Int32) (l2 : Int32) (l4 : Int32) (l5 : Int64) (l7 : Int64) (l9 : Int32) (M : MM), lenO M0 M → k29 l0 l1 l2 l4 l5 l7 l9 M → R201 sl sx d M0 P 29 [some (vR (some l0)), some (vI l1), some (vI l2), none, some (vI l4), some (vL l5), none, some (vL l7), none, some (vI l9), none] [] M) (l0 : Nat) (l1 : Int32) (l2 : Int32) (l9 : Int32) (M : MM) (hM : lenO M0 M) (h : w201_76 k29 l0 l1 l2 l9 M P) : R201 sl sx d M0 P 76 [some (vR (some l0)), some (vI l1), some (vI l2), none, none, none, none, none, none, some (vI l9), none] [] M := by
  refine RN_k (callX_det _) 4 _ _ _ _ (show kd M l0 10 ∧ R201 sl sx d M0 P 84 [some (vR (some l0)), some (vI l1), some (vI l2), none, some (vI l9), none, none, none, none, some (vI l9), none] [vL (mL M l0 55)] M from ⟨h.1, ?_⟩)
  replace h := h.2
  refine RN_k (callX_det _) 3 _ _ _ _ (show kd M l0 10 ∧ R201 sl sx d M0 P 90 [some (vR (some l0)), some (vI l1), some (vI l2), none, some (vI l9), some (vL (mL M l0 55)), none, none, none, some (vI l9), none] [vL (mL M l0 56)] M from ⟨h.1, ?_⟩)
  replace h := h.2
  refine RN_k (callX_det _) 1 _ _ _ _ (show R201 sl sx d M0 P 92 [some (vR (some l0)), some (vI l1), some (vI l2), none, some (vI l9), some (vL (mL M l0 55)), none, some (vL (mL M l0 56)), none, some (vI l9), none] [] M from ?_)
  exact RN_weak (K := [some (vR (some l0)), some (vI l1), some (vI l2), none, some (vI l9), some (vL (mL M l0 55)), none, some (vL (mL M l0 56)), none, some (vI l9), none]) (callX_det _) (show _ ∧ _ ∧ _ ∧ _ ∧ _ ∧ _ ∧ _ ∧ True from ⟨rfl, rfl, rfl, rfl, rfl, rfl, rfl, trivial⟩) (t201_92 hk29 l0 l1 l2 l9 (mL M l0 55) (mL M l0 56) l9 _ hM h)
def w201_29 : Nat → Nat → Int32 → Int32 → Int32 → Int64 → Int64 → Int32 → MM → (Int32 → MM → Prop) → Prop
  | 0 => fun _ _ _ _ _ _ _ _ _ => False
  | n + 1 => fun l0 l1 l2 l4 l5 l7 l9 M P => kd M l0 10 ∧ w180 l0 l1 M (fun r2 M1 => (r2 ≤ l9 → (kd M1 l0 10 ∧ w195 l0 l5 l7 M1 (fun M3 => kd M3 l0 10 ∧ w177 l0 l4 M3 (fun r5 M4 => P r5 M4)))) ∧ (¬ (r2 ≤ l9) → (kd M1 l0 10 ∧ w198 l0 l1 l9 l2 M1 (fun r7 M6 => (l4 = (-1 : Int32) → (w201_76 (fun z0 z1 z2 z3 z4 z5 z6 z7 => w201_29  n z0 z1 z2 z3 z4 z5 z6 z7 P) l0 l1 l2 l9 M6 P)) ∧ (¬ (l4 = (-1 : Int32)) → (kd M6 l0 10 ∧ (kd M6 l0 10 ∧ (w199 (mL M6 l0 55) (mL M6 l0 56) l5 l7 M6 (fun r9 M8 => (0 < r9 → (w201_76 (fun z0 z1 z2 z3 z4 z5 z6 z7 => w201_29  n z0 z1 z2 z3 z4 z5 z6 z7 P) l0 l1 l2 l9 M8 P)) ∧ (¬ (0 < r9) → (w201_92 (fun z0 z1 z2 z3 z4 z5 z6 z7 => w201_29  n z0 z1 z2 z3 z4 z5 z6 z7 P) l0 l1 l2 l4 l5 l7 l9 M8 P)))))))))))
theorem t201_29 {sl : Nat} {sx : Nat → Int32} {d : Nat} {M0 : MM} {P : Int32 → MM → Prop} (n : Nat) : ∀ (l0 : Nat) (l1 : Int32) (l2 : Int32) (l4 : Int32) (l5 : Int64) (l7 : Int64) (l9 : Int32) (M : MM) (_ : lenO M0 M) (_ : w201_29  n l0 l1 l2 l4 l5 l7 l9 M P), R201 sl sx d M0 P 29 [some (vR (some l0)), some (vI l1), some (vI l2), none, some (vI l4), some (vL l5), none, some (vL l7), none, some (vI l9), none] [] M := by
  induction n with
  | zero => intro l0 l1 l2 l4 l5 l7 l9 M hM h; cases h
  | succ n ih =>
    intro l0 l1 l2 l4 l5 l7 l9 M hM h
    refine RN_k (callX_det _) 4 _ _ _ _ (show kd M l0 10 ∧ callX TBg sl sx (d + 101) 180 [vR (some l0), vI l1] M (fun v M9 => R201 sl sx d M0 P 36 [some (vR (some l0)), some (vI l1), some (vI l2), none, some (vI l4), some (vL l5), none, some (vL l7), none, some (vI l9), none] (pushO v [vI l9]) M9) from ⟨h.1, ?_⟩)
    replace h := h.2
    refine callX_mono (callX_len (d := (d + 101)) rfl rfl rfl (c180 (d := d + 99) h)) ?_
    clear h
    rintro v9 M1 ⟨hl, r2, rfl, h⟩
    replace hM := lenT hM hl
    show R201 sl sx d M0 P 36 [some (vR (some l0)), some (vI l1), some (vI l2), none, some (vI l4), some (vL l5), none, some (vL l7), none, some (vI l9), none] [vI r2, vI l9] M1
    refine RN_k (callX_det _) 1 _ _ _ _ (show (r2 ≤ l9 → R201 sl sx d M0 P 98 [some (vR (some l0)), some (vI l1), some (vI l2), none, some (vI l4), some (vL l5), none, some (vL l7), none, some (vI l9), none] [] M1) ∧ (¬ (r2 ≤ l9) → R201 sl sx d M0 P 39 [some (vR (some l0)), some (vI l1), some (vI l2), none, some (vI l4), some (vL l5), none, some (vL l7), none, some (vI l9), none] [] M1) from ⟨fun hc => ?_, fun hc => ?_⟩)
    · replace h := h.1 hc
      refine RN_k (callX_det _) 4 _ _ _ _ (show kd M1 l0 10 ∧ callX TBg sl sx (d + 101) 195 [vR (some l0), vL l5, vL l7] M1 (fun v M9 => R201 sl sx d M0 P 106 [some (vR (some l0)), some (vI l1), some (vI l2), none, some (vI l4), some (vL l5), none, some (vL l7), none, some (vI l9), none] (pushO v []) M9) from ⟨h.1, ?_⟩)
      replace h := h.2
      refine callX_mono (callX_len (d := (d + 101)) rfl rfl rfl (c195 (d := d) h)) ?_
      clear h
      rintro v9 M3 ⟨hl, rfl, h⟩
      replace hM := lenT hM hl
      show R201 sl sx d M0 P 106 [some (vR (some l0)), some (vI l1), some (vI l2), none, some (vI l4), some (vL l5), none, some (vL l7), none, some (vI l9), none] [] M3
      refine RN_k (callX_det _) 3 _ _ _ _ (show kd M3 l0 10 ∧ callX TBg sl sx (d + 101) 177 [vR (some l0), vI l4] M3 (fun v M9 => R201 sl sx d M0 P 112 [some (vR (some l0)), some (vI l1), some (vI l2), none, some (vI l4), some (vL l5), none, some (vL l7), none, some (vI l9), none] (pushO v []) M9) from ⟨h.1, ?_⟩)
      replace h := h.2
      refine callX_mono (callX_len (d := (d + 101)) rfl rfl rfl (c177 (d := d + 100) h)) ?_
      clear h
      rintro v9 M4 ⟨hl, r5, rfl, h⟩
      replace hM := lenT hM hl
      show R201 sl sx d M0 P 112 [some (vR (some l0)), some (vI l1), some (vI l2), none, some (vI l4), some (vL l5), none, some (vL l7), none, some (vI l9), none] [vI r5] M4
      exact RN_k (callX_det _) 1 _ _ _ _ (show rtW q201 M0 (PI P) (some (vI r5)) M4 from ⟨⟨_, rfl⟩, hM.1, hM.2, _, rfl, h⟩)
    · replace h := h.2 hc
      refine RN_k (callX_det _) 5 _ _ _ _ (show kd M1 l0 10 ∧ callX TBg sl sx (d + 101) 198 [vR (some l0), vI l1, vI l9, vI l2] M1 (fun v M9 => R201 sl sx d M0 P 47 [some (vR (some l0)), some (vI l1), some (vI l2), none, some (vI l4), some (vL l5), none, some (vL l7), none, some (vI l9), none] (pushO v []) M9) from ⟨h.1, ?_⟩)
      replace h := h.2
      refine callX_mono (callX_len (d := (d + 101)) rfl rfl rfl (c198 (d := d + 97) h)) ?_
      clear h
      rintro v9 M6 ⟨hl, r7, rfl, h⟩
      replace hM := lenT hM hl
      show R201 sl sx d M0 P 47 [some (vR (some l0)), some (vI l1), some (vI l2), none, some (vI l4), some (vL l5), none, some (vL l7), none, some (vI l9), none] [vI r7] M6
      refine RN_k (callX_det _) 4 _ _ _ _ (show (l4 = (-1 : Int32) → R201 sl sx d M0 P 76 [some (vR (some l0)), some (vI l1), some (vI l2), none, some (vI l4), some (vL l5), none, some (vL l7), none, some (vI l9), some (vI r7)] [] M6) ∧ (¬ (l4 = (-1 : Int32)) → R201 sl sx d M0 P 55 [some (vR (some l0)), some (vI l1), some (vI l2), none, some (vI l4), some (vL l5), none, some (vL l7), none, some (vI l9), some (vI r7)] [] M6) from ⟨fun hc => ?_, fun hc => ?_⟩)
      · replace h := h.1 hc
        exact RN_weak (K := [some (vR (some l0)), some (vI l1), some (vI l2), none, none, none, none, none, none, some (vI l9), none]) (callX_det _) (show _ ∧ _ ∧ _ ∧ _ ∧ True from ⟨rfl, rfl, rfl, rfl, trivial⟩) (t201_76 ih l0 l1 l2 l9 _ hM h)
      · replace h := h.2 hc
        refine RN_k (callX_det _) 2 _ _ _ _ (show kd M6 l0 10 ∧ R201 sl sx d M0 P 59 [some (vR (some l0)), some (vI l1), some (vI l2), none, some (vI l4), some (vL l5), none, some (vL l7), none, some (vI l9), some (vI r7)] [vL (mL M6 l0 55)] M6 from ⟨h.1, ?_⟩)
        replace h := h.2
        refine RN_k (callX_det _) 2 _ _ _ _ (show kd M6 l0 10 ∧ R201 sl sx d M0 P 63 [some (vR (some l0)), some (vI l1), some (vI l2), none, some (vI l4), some (vL l5), none, some (vL l7), none, some (vI l9), some (vI r7)] [vL (mL M6 l0 56), vL (mL M6 l0 55)] M6 from ⟨h.1, ?_⟩)
        replace h := h.2
        refine RN_k (callX_det _) 3 _ _ _ _ (show callX TBg sl sx (d + 101) 199 [vL (mL M6 l0 55), vL (mL M6 l0 56), vL l5, vL l7] M6 (fun v M9 => R201 sl sx d M0 P 70 [some (vR (some l0)), some (vI l1), some (vI l2), none, some (vI l4), some (vL l5), none, some (vL l7), none, some (vI l9), some (vI r7)] (pushO v []) M9) from ?_)
        refine callX_mono (callX_len (d := (d + 101)) rfl rfl rfl (c199 (d := d + 99) h)) ?_
        clear h
        rintro v9 M8 ⟨hl, r9, rfl, h⟩
        replace hM := lenT hM hl
        show R201 sl sx d M0 P 70 [some (vR (some l0)), some (vI l1), some (vI l2), none, some (vI l4), some (vL l5), none, some (vL l7), none, some (vI l9), some (vI r7)] [vI r9] M8
        refine RN_k (callX_det _) 1 _ _ _ _ (show (0 < r9 → R201 sl sx d M0 P 76 [some (vR (some l0)), some (vI l1), some (vI l2), none, some (vI l4), some (vL l5), none, some (vL l7), none, some (vI l9), some (vI r7)] [] M8) ∧ (¬ (0 < r9) → R201 sl sx d M0 P 73 [some (vR (some l0)), some (vI l1), some (vI l2), none, some (vI l4), some (vL l5), none, some (vL l7), none, some (vI l9), some (vI r7)] [] M8) from ⟨fun hc => ?_, fun hc => ?_⟩)
        · replace h := h.1 hc
          exact RN_weak (K := [some (vR (some l0)), some (vI l1), some (vI l2), none, none, none, none, none, none, some (vI l9), none]) (callX_det _) (show _ ∧ _ ∧ _ ∧ _ ∧ True from ⟨rfl, rfl, rfl, rfl, trivial⟩) (t201_76 ih l0 l1 l2 l9 _ hM h)
        · replace h := h.2 hc
          refine RN_k (callX_det _) 1 _ _ _ _ (show R201 sl sx d M0 P 92 [some (vR (some l0)), some (vI l1), some (vI l2), none, some (vI l4), some (vL l5), none, some (vL l7), none, some (vI l9), some (vI r7)] [] M8 from ?_)
          exact RN_weak (K := [some (vR (some l0)), some (vI l1), some (vI l2), none, some (vI l4), some (vL l5), none, some (vL l7), none, some (vI l9), none]) (callX_det _) (show _ ∧ _ ∧ _ ∧ _ ∧ _ ∧ _ ∧ _ ∧ True from ⟨rfl, rfl, rfl, rfl, rfl, rfl, rfl, trivial⟩) (t201_92 ih l0 l1 l2 l4 l5 l7 l9 _ hM h)
def w201 (l0 : Nat) (l1 : Int32) (l2 : Int32) (M : MM) (P : Int32 → MM → Prop) : Prop := kd M l0 10 ∧ w202 l0 l1 l2 M (fun r2 M1 => (r2 ≤ 0 → (∃ n2, w201_29  n2 l0 l1 l2 (-1 : Int32) (0 : Int64) (1 : Int64) (0 : Int32) M1 P)) ∧ (¬ (r2 ≤ 0) → (kd M1 l0 10 ∧ w167 l0 r2 M1 (fun r4 M3 => P r4 M3))))
theorem t201_E {sl : Nat} {sx : Nat → Int32} {d : Nat} {M0 : MM} {P : Int32 → MM → Prop} (l0 : Nat) (l1 : Int32) (l2 : Int32) (M : MM) (hM : lenO M0 M) (h : w201  l0 l1 l2 M P) : R201 sl sx d M0 P 0 [some (vR (some l0)), some (vI l1), some (vI l2), none, none, none, none, none, none, none, none] [] M := by
  refine RN_k (callX_det _) 4 _ _ _ _ (show kd M l0 10 ∧ callX TBg sl sx (d + 101) 202 [vR (some l0), vI l1, vI l2] M (fun v M9 => R201 sl sx d M0 P 6 [some (vR (some l0)), some (vI l1), some (vI l2), none, none, none, none, none, none, none, none] (pushO v []) M9) from ⟨h.1, ?_⟩)
  replace h := h.2
  refine callX_mono (callX_len (d := (d + 101)) rfl rfl rfl (c202 (d := d + 98) h)) ?_
  clear h
  rintro v9 M1 ⟨hl, r2, rfl, h⟩
  replace hM := lenT hM hl
  show R201 sl sx d M0 P 6 [some (vR (some l0)), some (vI l1), some (vI l2), none, none, none, none, none, none, none, none] [vI r2] M1
  refine RN_k (callX_det _) 3 _ _ _ _ (show (r2 ≤ 0 → R201 sl sx d M0 P 17 [some (vR (some l0)), some (vI l1), some (vI l2), some (vI r2), none, none, none, none, none, none, none] [] M1) ∧ (¬ (r2 ≤ 0) → R201 sl sx d M0 P 11 [some (vR (some l0)), some (vI l1), some (vI l2), some (vI r2), none, none, none, none, none, none, none] [] M1) from ⟨fun hc => ?_, fun hc => ?_⟩)
  · replace h := h.1 hc
    refine RN_k (callX_det _) 8 _ _ _ _ (show R201 sl sx d M0 P 29 [some (vR (some l0)), some (vI l1), some (vI l2), some (vI r2), some (vI (-1 : Int32)), some (vL (0 : Int64)), none, some (vL (1 : Int64)), none, some (vI (0 : Int32)), none] [] M1 from ?_)
    obtain ⟨n2, h⟩ := h
    exact RN_weak (K := [some (vR (some l0)), some (vI l1), some (vI l2), none, some (vI (-1 : Int32)), some (vL (0 : Int64)), none, some (vL (1 : Int64)), none, some (vI (0 : Int32)), none]) (callX_det _) (show _ ∧ _ ∧ _ ∧ _ ∧ _ ∧ _ ∧ _ ∧ True from ⟨rfl, rfl, rfl, rfl, rfl, rfl, rfl, trivial⟩) (t201_29  n2 l0 l1 l2 (-1 : Int32) (0 : Int64) (1 : Int64) (0 : Int32) _ hM h)
  · replace h := h.2 hc
    refine RN_k (callX_det _) 3 _ _ _ _ (show kd M1 l0 10 ∧ callX TBg sl sx (d + 101) 167 [vR (some l0), vI r2] M1 (fun v M9 => R201 sl sx d M0 P 16 [some (vR (some l0)), some (vI l1), some (vI l2), some (vI r2), none, none, none, none, none, none, none] (pushO v []) M9) from ⟨h.1, ?_⟩)
    replace h := h.2
    refine callX_mono (callX_len (d := (d + 101)) rfl rfl rfl (c167 (d := d + 100) h)) ?_
    clear h
    rintro v9 M3 ⟨hl, r4, rfl, h⟩
    replace hM := lenT hM hl
    show R201 sl sx d M0 P 16 [some (vR (some l0)), some (vI l1), some (vI l2), some (vI r2), none, none, none, none, none, none, none] [vI r4] M3
    exact RN_k (callX_det _) 1 _ _ _ _ (show rtW q201 M0 (PI P) (some (vI r4)) M3 from ⟨⟨_, rfl⟩, hM.1, hM.2, _, rfl, h⟩)
theorem c201 {sl : Nat} {sx : Nat → Int32} {d : Nat} {l0 : Nat} {l1 : Int32} {l2 : Int32} {M : MM} {P : Int32 → MM → Prop} (h : w201 l0 l1 l2 M P) : callX TBg sl sx (d + 102) 201 [vR (some l0), vI l1, vI l2] M (PI P) :=
  cX (d := d + 101) q201 (false, tb201) rfl rfl rfl (t201_E l0 l1 l2 M lenR h)
-- TwoLeashModel.turnOf(IIII)I
abbrev q205 : MQ7 := (5, 1, 7, 10, 0, 0, 1)
abbrev R205 (sl : Nat) (sx : Nat → Int32) (d : Nat) (M0 : MM) (P : Int32 → MM → Prop) : Nat → LL → List VV → MM → Prop := RN 10 false (mS M0).length (mT M0) 0 0 sl sx (callX TBg sl sx (d + 2)) (rtW q205 M0 (PI P)) (as2 tb205)
def w205 (l0 : Nat) (l1 : Int32) (l2 : Int32) (l3 : Int32) (l4 : Int32) (M : MM) (P : Int32 → MM → Prop) : Prop := kd M l0 10 ∧ w184 l0 l1 (l2 + (1 : Int32)) M (fun r2 M1 => kd M1 l0 10 ∧ w184 l0 l1 l2 M1 (fun r4 M3 => kd M3 l0 10 ∧ w185 l0 l1 (l2 + (1 : Int32)) M3 (fun r6 M5 => kd M5 l0 10 ∧ w185 l0 l1 l2 M5 (fun r8 M7 => kd M7 l0 10 ∧ w185 l0 l3 l4 M7 (fun r10 M9 => kd M9 l0 10 ∧ w185 l0 l1 l2 M9 (fun r12 M11 => kd M11 l0 10 ∧ w184 l0 l3 l4 M11 (fun r14 M13 => kd M13 l0 10 ∧ w184 l0 l1 l2 M13 (fun r16 M15 => w67 (((r2 - r4) * (r10 - r12)) - ((r6 - r8) * (r14 - r16))) M15 (fun r18 M17 => P r18 M17)))))))))
theorem t205_E {sl : Nat} {sx : Nat → Int32} {d : Nat} {M0 : MM} {P : Int32 → MM → Prop} (l0 : Nat) (l1 : Int32) (l2 : Int32) (l3 : Int32) (l4 : Int32) (M : MM) (hM : lenO M0 M) (h : w205  l0 l1 l2 l3 l4 M P) : R205 sl sx d M0 P 0 [some (vR (some l0)), some (vI l1), some (vI l2), some (vI l3), some (vI l4), none, none] [] M := by
  refine RN_k (callX_det _) 6 _ _ _ _ (show kd M l0 10 ∧ callX TBg sl sx (d + 2) 184 [vR (some l0), vI l1, vI (l2 + (1 : Int32))] M (fun v M9 => R205 sl sx d M0 P 8 [some (vR (some l0)), some (vI l1), some (vI l2), some (vI l3), some (vI l4), none, none] (pushO v []) M9) from ⟨h.1, ?_⟩)
  replace h := h.2
  refine callX_mono (callX_len (d := (d + 2)) rfl rfl rfl (c184 (d := d) h)) ?_
  clear h
  rintro v9 M1 ⟨hl, r2, rfl, h⟩
  replace hM := lenT hM hl
  show R205 sl sx d M0 P 8 [some (vR (some l0)), some (vI l1), some (vI l2), some (vI l3), some (vI l4), none, none] [vI r2] M1
  refine RN_k (callX_det _) 4 _ _ _ _ (show kd M1 l0 10 ∧ callX TBg sl sx (d + 2) 184 [vR (some l0), vI l1, vI l2] M1 (fun v M9 => R205 sl sx d M0 P 14 [some (vR (some l0)), some (vI l1), some (vI l2), some (vI l3), some (vI l4), none, none] (pushO v [vI r2]) M9) from ⟨h.1, ?_⟩)
  replace h := h.2
  refine callX_mono (callX_len (d := (d + 2)) rfl rfl rfl (c184 (d := d) h)) ?_
  clear h
  rintro v9 M3 ⟨hl, r4, rfl, h⟩
  replace hM := lenT hM hl
  show R205 sl sx d M0 P 14 [some (vR (some l0)), some (vI l1), some (vI l2), some (vI l3), some (vI l4), none, none] [vI r4, vI r2] M3
  refine RN_k (callX_det _) 8 _ _ _ _ (show kd M3 l0 10 ∧ callX TBg sl sx (d + 2) 185 [vR (some l0), vI l1, vI (l2 + (1 : Int32))] M3 (fun v M9 => R205 sl sx d M0 P 25 [some (vR (some l0)), some (vI l1), some (vI l2), some (vI l3), some (vI l4), some (vI (r2 - r4)), none] (pushO v []) M9) from ⟨h.1, ?_⟩)
  replace h := h.2
  refine callX_mono (callX_len (d := (d + 2)) rfl rfl rfl (c185 (d := d) h)) ?_
  clear h
  rintro v9 M5 ⟨hl, r6, rfl, h⟩
  replace hM := lenT hM hl
  show R205 sl sx d M0 P 25 [some (vR (some l0)), some (vI l1), some (vI l2), some (vI l3), some (vI l4), some (vI (r2 - r4)), none] [vI r6] M5
  refine RN_k (callX_det _) 4 _ _ _ _ (show kd M5 l0 10 ∧ callX TBg sl sx (d + 2) 185 [vR (some l0), vI l1, vI l2] M5 (fun v M9 => R205 sl sx d M0 P 31 [some (vR (some l0)), some (vI l1), some (vI l2), some (vI l3), some (vI l4), some (vI (r2 - r4)), none] (pushO v [vI r6]) M9) from ⟨h.1, ?_⟩)
  replace h := h.2
  refine callX_mono (callX_len (d := (d + 2)) rfl rfl rfl (c185 (d := d) h)) ?_
  clear h
  rintro v9 M7 ⟨hl, r8, rfl, h⟩
  replace hM := lenT hM hl
  show R205 sl sx d M0 P 31 [some (vR (some l0)), some (vI l1), some (vI l2), some (vI l3), some (vI l4), some (vI (r2 - r4)), none] [vI r8, vI r6] M7
  refine RN_k (callX_det _) 7 _ _ _ _ (show kd M7 l0 10 ∧ callX TBg sl sx (d + 2) 185 [vR (some l0), vI l3, vI l4] M7 (fun v M9 => R205 sl sx d M0 P 43 [some (vR (some l0)), some (vI l1), some (vI l2), some (vI l3), some (vI l4), some (vI (r2 - r4)), some (vI (r6 - r8))] (pushO v [vI (r2 - r4)]) M9) from ⟨h.1, ?_⟩)
  replace h := h.2
  refine callX_mono (callX_len (d := (d + 2)) rfl rfl rfl (c185 (d := d) h)) ?_
  clear h
  rintro v9 M9 ⟨hl, r10, rfl, h⟩
  replace hM := lenT hM hl
  show R205 sl sx d M0 P 43 [some (vR (some l0)), some (vI l1), some (vI l2), some (vI l3), some (vI l4), some (vI (r2 - r4)), some (vI (r6 - r8))] [vI r10, vI (r2 - r4)] M9
  refine RN_k (callX_det _) 4 _ _ _ _ (show kd M9 l0 10 ∧ callX TBg sl sx (d + 2) 185 [vR (some l0), vI l1, vI l2] M9 (fun v M9 => R205 sl sx d M0 P 49 [some (vR (some l0)), some (vI l1), some (vI l2), some (vI l3), some (vI l4), some (vI (r2 - r4)), some (vI (r6 - r8))] (pushO v [vI r10, vI (r2 - r4)]) M9) from ⟨h.1, ?_⟩)
  replace h := h.2
  refine callX_mono (callX_len (d := (d + 2)) rfl rfl rfl (c185 (d := d) h)) ?_
  clear h
  rintro v9 M11 ⟨hl, r12, rfl, h⟩
  replace hM := lenT hM hl
  show R205 sl sx d M0 P 49 [some (vR (some l0)), some (vI l1), some (vI l2), some (vI l3), some (vI l4), some (vI (r2 - r4)), some (vI (r6 - r8))] [vI r12, vI r10, vI (r2 - r4)] M11
  refine RN_k (callX_det _) 7 _ _ _ _ (show kd M11 l0 10 ∧ callX TBg sl sx (d + 2) 184 [vR (some l0), vI l3, vI l4] M11 (fun v M9 => R205 sl sx d M0 P 60 [some (vR (some l0)), some (vI l1), some (vI l2), some (vI l3), some (vI l4), some (vI (r2 - r4)), some (vI (r6 - r8))] (pushO v [vI (r6 - r8), vI ((r2 - r4) * (r10 - r12))]) M9) from ⟨h.1, ?_⟩)
  replace h := h.2
  refine callX_mono (callX_len (d := (d + 2)) rfl rfl rfl (c184 (d := d) h)) ?_
  clear h
  rintro v9 M13 ⟨hl, r14, rfl, h⟩
  replace hM := lenT hM hl
  show R205 sl sx d M0 P 60 [some (vR (some l0)), some (vI l1), some (vI l2), some (vI l3), some (vI l4), some (vI (r2 - r4)), some (vI (r6 - r8))] [vI r14, vI (r6 - r8), vI ((r2 - r4) * (r10 - r12))] M13
  refine RN_k (callX_det _) 4 _ _ _ _ (show kd M13 l0 10 ∧ callX TBg sl sx (d + 2) 184 [vR (some l0), vI l1, vI l2] M13 (fun v M9 => R205 sl sx d M0 P 66 [some (vR (some l0)), some (vI l1), some (vI l2), some (vI l3), some (vI l4), some (vI (r2 - r4)), some (vI (r6 - r8))] (pushO v [vI r14, vI (r6 - r8), vI ((r2 - r4) * (r10 - r12))]) M9) from ⟨h.1, ?_⟩)
  replace h := h.2
  refine callX_mono (callX_len (d := (d + 2)) rfl rfl rfl (c184 (d := d) h)) ?_
  clear h
  rintro v9 M15 ⟨hl, r16, rfl, h⟩
  replace hM := lenT hM hl
  show R205 sl sx d M0 P 66 [some (vR (some l0)), some (vI l1), some (vI l2), some (vI l3), some (vI l4), some (vI (r2 - r4)), some (vI (r6 - r8))] [vI r16, vI r14, vI (r6 - r8), vI ((r2 - r4) * (r10 - r12))] M15
  refine RN_k (callX_det _) 4 _ _ _ _ (show callX TBg sl sx (d + 2) 67 [vI (((r2 - r4) * (r10 - r12)) - ((r6 - r8) * (r14 - r16)))] M15 (fun v M9 => R205 sl sx d M0 P 72 [some (vR (some l0)), some (vI l1), some (vI l2), some (vI l3), some (vI l4), some (vI (r2 - r4)), some (vI (r6 - r8))] (pushO v []) M9) from ?_)
  refine callX_mono (callX_len (d := (d + 2)) rfl rfl rfl (c67 (d := d + 1) h)) ?_
  clear h
  rintro v9 M17 ⟨hl, r18, rfl, h⟩
  replace hM := lenT hM hl
  show R205 sl sx d M0 P 72 [some (vR (some l0)), some (vI l1), some (vI l2), some (vI l3), some (vI l4), some (vI (r2 - r4)), some (vI (r6 - r8))] [vI r18] M17
  exact RN_k (callX_det _) 1 _ _ _ _ (show rtW q205 M0 (PI P) (some (vI r18)) M17 from ⟨⟨_, rfl⟩, hM.1, hM.2, _, rfl, h⟩)
theorem c205 {sl : Nat} {sx : Nat → Int32} {d : Nat} {l0 : Nat} {l1 : Int32} {l2 : Int32} {l3 : Int32} {l4 : Int32} {M : MM} {P : Int32 → MM → Prop} (h : w205 l0 l1 l2 l3 l4 M P) : callX TBg sl sx (d + 3) 205 [vR (some l0), vI l1, vI l2, vI l3, vI l4] M (PI P) :=
  cX (d := d + 2) q205 (false, tb205) rfl rfl rfl (t205_E l0 l1 l2 l3 l4 M lenR h)
-- TwoLeashModel.isOn(IIII)Z
abbrev q206 : MQ7 := (5, 1, 7, 10, 0, 0, 4)
abbrev R206 (sl : Nat) (sx : Nat → Int32) (d : Nat) (M0 : MM) (P : Int32 → MM → Prop) : Nat → LL → List VV → MM → Prop := RN 10 false (mS M0).length (mT M0) 0 0 sl sx (callX TBg sl sx (d + 2)) (rtW q206 M0 (PI P)) (as2 tb206)
def w206_111 (s0 : Int32) (M : MM) (P : Int32 → MM → Prop) : Prop := (s0 = 0 ∨ s0 = 1) ∧ P s0 M
theorem t206_111 {sl : Nat} {sx : Nat → Int32} {d : Nat} {M0 : MM} {P : Int32 → MM → Prop} (s0 : Int32) (M : MM) (hM : lenO M0 M) (h : w206_111  s0 M P) : R206 sl sx d M0 P 111 [none, none, none, none, none, none, none] [vI s0] M := by
  exact RN_k (callX_det _) 1 _ _ _ _ (show rtW q206 M0 (PI P) (some (vI s0)) M from ⟨⟨_, rfl, h.1⟩, hM.1, hM.2, _, rfl, h.2⟩)
def w206_110 (M : MM) (P : Int32 → MM → Prop) : Prop := w206_111  (0 : Int32) M P
theorem t206_110 {sl : Nat} {sx : Nat → Int32} {d : Nat} {M0 : MM} {P : Int32 → MM → Prop}  (M : MM) (hM : lenO M0 M) (h : w206_110   M P) : R206 sl sx d M0 P 110 [none, none, none, none, none, none, none] [] M := by
  refine RN_k (callX_det _) 1 _ _ _ _ (show R206 sl sx d M0 P 111 [none, none, none, none, none, none, none] [vI (0 : Int32)] M from ?_)
  exact RN_weak (K := [none, none, none, none, none, none, none]) (callX_det _) (show True from trivial) (t206_111  (0 : Int32) _ hM h)
def w206 (l0 : Nat) (l1 : Int32) (l2 : Int32) (l3 : Int32) (l4 : Int32) (M : MM) (P : Int32 → MM → Prop) : Prop := kd M l0 10 ∧ w184 l0 l3 l4 M (fun r2 M1 => kd M1 l0 10 ∧ w185 l0 l3 l4 M1 (fun r4 M3 => kd M3 l0 10 ∧ w184 l0 l1 l2 M3 (fun r6 M5 => kd M5 l0 10 ∧ w184 l0 l1 (l2 + (1 : Int32)) M5 (fun r8 M7 => w70 r6 r8 M7 (fun r10 M9 => (r2 < r10 → (w206_110  M9 P)) ∧ (¬ (r2 < r10) → (kd M9 l0 10 ∧ w184 l0 l1 l2 M9 (fun r12 M11 => kd M11 l0 10 ∧ w184 l0 l1 (l2 + (1 : Int32)) M11 (fun r14 M13 => w33 r12 r14 M13 (fun r16 M15 => (r16 < r2 → (w206_110  M15 P)) ∧ (¬ (r16 < r2) → (kd M15 l0 10 ∧ w185 l0 l1 l2 M15 (fun r18 M17 => kd M17 l0 10 ∧ w185 l0 l1 (l2 + (1 : Int32)) M17 (fun r20 M19 => w70 r18 r20 M19 (fun r22 M21 => (r4 < r22 → (w206_110  M21 P)) ∧ (¬ (r4 < r22) → (kd M21 l0 10 ∧ w185 l0 l1 l2 M21 (fun r24 M23 => kd M23 l0 10 ∧ w185 l0 l1 (l2 + (1 : Int32)) M23 (fun r26 M25 => w33 r24 r26 M25 (fun r28 M27 => (r28 < r4 → (w206_110  M27 P)) ∧ (¬ (r28 < r4) → (w206_111  (1 : Int32) M27 P))))))))))))))))))))))
theorem t206_E {sl : Nat} {sx : Nat → Int32} {d : Nat} {M0 : MM} {P : Int32 → MM → Prop} (l0 : Nat) (l1 : Int32) (l2 : Int32) (l3 : Int32) (l4 : Int32) (M : MM) (hM : lenO M0 M) (h : w206  l0 l1 l2 l3 l4 M P) : R206 sl sx d M0 P 0 [some (vR (some l0)), some (vI l1), some (vI l2), some (vI l3), some (vI l4), none, none] [] M := by
  refine RN_k (callX_det _) 4 _ _ _ _ (show kd M l0 10 ∧ callX TBg sl sx (d + 2) 184 [vR (some l0), vI l3, vI l4] M (fun v M9 => R206 sl sx d M0 P 7 [some (vR (some l0)), some (vI l1), some (vI l2), some (vI l3), some (vI l4), none, none] (pushO v []) M9) from ⟨h.1, ?_⟩)
  replace h := h.2
  refine callX_mono (callX_len (d := (d + 2)) rfl rfl rfl (c184 (d := d) h)) ?_
  clear h
  rintro v9 M1 ⟨hl, r2, rfl, h⟩
  replace hM := lenT hM hl
  show R206 sl sx d M0 P 7 [some (vR (some l0)), some (vI l1), some (vI l2), some (vI l3), some (vI l4), none, none] [vI r2] M1
  refine RN_k (callX_det _) 5 _ _ _ _ (show kd M1 l0 10 ∧ callX TBg sl sx (d + 2) 185 [vR (some l0), vI l3, vI l4] M1 (fun v M9 => R206 sl sx d M0 P 16 [some (vR (some l0)), some (vI l1), some (vI l2), some (vI l3), some (vI l4), some (vI r2), none] (pushO v []) M9) from ⟨h.1, ?_⟩)
  replace h := h.2
  refine callX_mono (callX_len (d := (d + 2)) rfl rfl rfl (c185 (d := d) h)) ?_
  clear h
  rintro v9 M3 ⟨hl, r4, rfl, h⟩
  replace hM := lenT hM hl
  show R206 sl sx d M0 P 16 [some (vR (some l0)), some (vI l1), some (vI l2), some (vI l3), some (vI l4), some (vI r2), none] [vI r4] M3
  refine RN_k (callX_det _) 5 _ _ _ _ (show kd M3 l0 10 ∧ callX TBg sl sx (d + 2) 184 [vR (some l0), vI l1, vI l2] M3 (fun v M9 => R206 sl sx d M0 P 24 [some (vR (some l0)), some (vI l1), some (vI l2), some (vI l3), some (vI l4), some (vI r2), some (vI r4)] (pushO v []) M9) from ⟨h.1, ?_⟩)
  replace h := h.2
  refine callX_mono (callX_len (d := (d + 2)) rfl rfl rfl (c184 (d := d) h)) ?_
  clear h
  rintro v9 M5 ⟨hl, r6, rfl, h⟩
  replace hM := lenT hM hl
  show R206 sl sx d M0 P 24 [some (vR (some l0)), some (vI l1), some (vI l2), some (vI l3), some (vI l4), some (vI r2), some (vI r4)] [vI r6] M5
  refine RN_k (callX_det _) 6 _ _ _ _ (show kd M5 l0 10 ∧ callX TBg sl sx (d + 2) 184 [vR (some l0), vI l1, vI (l2 + (1 : Int32))] M5 (fun v M9 => R206 sl sx d M0 P 32 [some (vR (some l0)), some (vI l1), some (vI l2), some (vI l3), some (vI l4), some (vI r2), some (vI r4)] (pushO v [vI r6]) M9) from ⟨h.1, ?_⟩)
  replace h := h.2
  refine callX_mono (callX_len (d := (d + 2)) rfl rfl rfl (c184 (d := d) h)) ?_
  clear h
  rintro v9 M7 ⟨hl, r8, rfl, h⟩
  replace hM := lenT hM hl
  show R206 sl sx d M0 P 32 [some (vR (some l0)), some (vI l1), some (vI l2), some (vI l3), some (vI l4), some (vI r2), some (vI r4)] [vI r8, vI r6] M7
  refine RN_k (callX_det _) 1 _ _ _ _ (show callX TBg sl sx (d + 2) 70 [vI r6, vI r8] M7 (fun v M9 => R206 sl sx d M0 P 35 [some (vR (some l0)), some (vI l1), some (vI l2), some (vI l3), some (vI l4), some (vI r2), some (vI r4)] (pushO v []) M9) from ?_)
  refine callX_mono (callX_len (d := (d + 2)) rfl rfl rfl (c70 (d := d + 1) h)) ?_
  clear h
  rintro v9 M9 ⟨hl, r10, rfl, h⟩
  replace hM := lenT hM hl
  show R206 sl sx d M0 P 35 [some (vR (some l0)), some (vI l1), some (vI l2), some (vI l3), some (vI l4), some (vI r2), some (vI r4)] [vI r10] M9
  refine RN_k (callX_det _) 2 _ _ _ _ (show (r2 < r10 → R206 sl sx d M0 P 110 [some (vR (some l0)), some (vI l1), some (vI l2), some (vI l3), some (vI l4), some (vI r2), some (vI r4)] [] M9) ∧ (¬ (r2 < r10) → R206 sl sx d M0 P 40 [some (vR (some l0)), some (vI l1), some (vI l2), some (vI l3), some (vI l4), some (vI r2), some (vI r4)] [] M9) from ⟨fun hc => ?_, fun hc => ?_⟩)
  · replace h := h.1 hc
    exact RN_weak (K := [none, none, none, none, none, none, none]) (callX_det _) (show True from trivial) (t206_110   _ hM h)
  · replace h := h.2 hc
    refine RN_k (callX_det _) 5 _ _ _ _ (show kd M9 l0 10 ∧ callX TBg sl sx (d + 2) 184 [vR (some l0), vI l1, vI l2] M9 (fun v M9 => R206 sl sx d M0 P 48 [some (vR (some l0)), some (vI l1), some (vI l2), some (vI l3), some (vI l4), some (vI r2), some (vI r4)] (pushO v [vI r2]) M9) from ⟨h.1, ?_⟩)
    replace h := h.2
    refine callX_mono (callX_len (d := (d + 2)) rfl rfl rfl (c184 (d := d) h)) ?_
    clear h
    rintro v9 M11 ⟨hl, r12, rfl, h⟩
    replace hM := lenT hM hl
    show R206 sl sx d M0 P 48 [some (vR (some l0)), some (vI l1), some (vI l2), some (vI l3), some (vI l4), some (vI r2), some (vI r4)] [vI r12, vI r2] M11
    refine RN_k (callX_det _) 6 _ _ _ _ (show kd M11 l0 10 ∧ callX TBg sl sx (d + 2) 184 [vR (some l0), vI l1, vI (l2 + (1 : Int32))] M11 (fun v M9 => R206 sl sx d M0 P 56 [some (vR (some l0)), some (vI l1), some (vI l2), some (vI l3), some (vI l4), some (vI r2), some (vI r4)] (pushO v [vI r12, vI r2]) M9) from ⟨h.1, ?_⟩)
    replace h := h.2
    refine callX_mono (callX_len (d := (d + 2)) rfl rfl rfl (c184 (d := d) h)) ?_
    clear h
    rintro v9 M13 ⟨hl, r14, rfl, h⟩
    replace hM := lenT hM hl
    show R206 sl sx d M0 P 56 [some (vR (some l0)), some (vI l1), some (vI l2), some (vI l3), some (vI l4), some (vI r2), some (vI r4)] [vI r14, vI r12, vI r2] M13
    refine RN_k (callX_det _) 1 _ _ _ _ (show callX TBg sl sx (d + 2) 33 [vI r12, vI r14] M13 (fun v M9 => R206 sl sx d M0 P 59 [some (vR (some l0)), some (vI l1), some (vI l2), some (vI l3), some (vI l4), some (vI r2), some (vI r4)] (pushO v [vI r2]) M9) from ?_)
    refine callX_mono (callX_len (d := (d + 2)) rfl rfl rfl (c33 (d := d + 1) h)) ?_
    clear h
    rintro v9 M15 ⟨hl, r16, rfl, h⟩
    replace hM := lenT hM hl
    show R206 sl sx d M0 P 59 [some (vR (some l0)), some (vI l1), some (vI l2), some (vI l3), some (vI l4), some (vI r2), some (vI r4)] [vI r16, vI r2] M15
    refine RN_k (callX_det _) 1 _ _ _ _ (show (r16 < r2 → R206 sl sx d M0 P 110 [some (vR (some l0)), some (vI l1), some (vI l2), some (vI l3), some (vI l4), some (vI r2), some (vI r4)] [] M15) ∧ (¬ (r16 < r2) → R206 sl sx d M0 P 62 [some (vR (some l0)), some (vI l1), some (vI l2), some (vI l3), some (vI l4), some (vI r2), some (vI r4)] [] M15) from ⟨fun hc => ?_, fun hc => ?_⟩)
    · replace h := h.1 hc
      exact RN_weak (K := [none, none, none, none, none, none, none]) (callX_det _) (show True from trivial) (t206_110   _ hM h)
    · replace h := h.2 hc
      refine RN_k (callX_det _) 4 _ _ _ _ (show kd M15 l0 10 ∧ callX TBg sl sx (d + 2) 185 [vR (some l0), vI l1, vI l2] M15 (fun v M9 => R206 sl sx d M0 P 68 [some (vR (some l0)), some (vI l1), some (vI l2), some (vI l3), some (vI l4), some (vI r2), some (vI r4)] (pushO v []) M9) from ⟨h.1, ?_⟩)
      replace h := h.2
      refine callX_mono (callX_len (d := (d + 2)) rfl rfl rfl (c185 (d := d) h)) ?_
      clear h
      rintro v9 M17 ⟨hl, r18, rfl, h⟩
      replace hM := lenT hM hl
      show R206 sl sx d M0 P 68 [some (vR (some l0)), some (vI l1), some (vI l2), some (vI l3), some (vI l4), some (vI r2), some (vI r4)] [vI r18] M17
      refine RN_k (callX_det _) 6 _ _ _ _ (show kd M17 l0 10 ∧ callX TBg sl sx (d + 2) 185 [vR (some l0), vI l1, vI (l2 + (1 : Int32))] M17 (fun v M9 => R206 sl sx d M0 P 76 [some (vR (some l0)), some (vI l1), some (vI l2), some (vI l3), some (vI l4), some (vI r2), some (vI r4)] (pushO v [vI r18]) M9) from ⟨h.1, ?_⟩)
      replace h := h.2
      refine callX_mono (callX_len (d := (d + 2)) rfl rfl rfl (c185 (d := d) h)) ?_
      clear h
      rintro v9 M19 ⟨hl, r20, rfl, h⟩
      replace hM := lenT hM hl
      show R206 sl sx d M0 P 76 [some (vR (some l0)), some (vI l1), some (vI l2), some (vI l3), some (vI l4), some (vI r2), some (vI r4)] [vI r20, vI r18] M19
      refine RN_k (callX_det _) 1 _ _ _ _ (show callX TBg sl sx (d + 2) 70 [vI r18, vI r20] M19 (fun v M9 => R206 sl sx d M0 P 79 [some (vR (some l0)), some (vI l1), some (vI l2), some (vI l3), some (vI l4), some (vI r2), some (vI r4)] (pushO v []) M9) from ?_)
      refine callX_mono (callX_len (d := (d + 2)) rfl rfl rfl (c70 (d := d + 1) h)) ?_
      clear h
      rintro v9 M21 ⟨hl, r22, rfl, h⟩
      replace hM := lenT hM hl
      show R206 sl sx d M0 P 79 [some (vR (some l0)), some (vI l1), some (vI l2), some (vI l3), some (vI l4), some (vI r2), some (vI r4)] [vI r22] M21
      refine RN_k (callX_det _) 2 _ _ _ _ (show (r4 < r22 → R206 sl sx d M0 P 110 [some (vR (some l0)), some (vI l1), some (vI l2), some (vI l3), some (vI l4), some (vI r2), some (vI r4)] [] M21) ∧ (¬ (r4 < r22) → R206 sl sx d M0 P 84 [some (vR (some l0)), some (vI l1), some (vI l2), some (vI l3), some (vI l4), some (vI r2), some (vI r4)] [] M21) from ⟨fun hc => ?_, fun hc => ?_⟩)
      · replace h := h.1 hc
        exact RN_weak (K := [none, none, none, none, none, none, none]) (callX_det _) (show True from trivial) (t206_110   _ hM h)
      · replace h := h.2 hc
        refine RN_k (callX_det _) 5 _ _ _ _ (show kd M21 l0 10 ∧ callX TBg sl sx (d + 2) 185 [vR (some l0), vI l1, vI l2] M21 (fun v M9 => R206 sl sx d M0 P 92 [some (vR (some l0)), some (vI l1), some (vI l2), some (vI l3), some (vI l4), some (vI r2), some (vI r4)] (pushO v [vI r4]) M9) from ⟨h.1, ?_⟩)
        replace h := h.2
        refine callX_mono (callX_len (d := (d + 2)) rfl rfl rfl (c185 (d := d) h)) ?_
        clear h
        rintro v9 M23 ⟨hl, r24, rfl, h⟩
        replace hM := lenT hM hl
        show R206 sl sx d M0 P 92 [some (vR (some l0)), some (vI l1), some (vI l2), some (vI l3), some (vI l4), some (vI r2), some (vI r4)] [vI r24, vI r4] M23
        refine RN_k (callX_det _) 6 _ _ _ _ (show kd M23 l0 10 ∧ callX TBg sl sx (d + 2) 185 [vR (some l0), vI l1, vI (l2 + (1 : Int32))] M23 (fun v M9 => R206 sl sx d M0 P 100 [some (vR (some l0)), some (vI l1), some (vI l2), some (vI l3), some (vI l4), some (vI r2), some (vI r4)] (pushO v [vI r24, vI r4]) M9) from ⟨h.1, ?_⟩)
        replace h := h.2
        refine callX_mono (callX_len (d := (d + 2)) rfl rfl rfl (c185 (d := d) h)) ?_
        clear h
        rintro v9 M25 ⟨hl, r26, rfl, h⟩
        replace hM := lenT hM hl
        show R206 sl sx d M0 P 100 [some (vR (some l0)), some (vI l1), some (vI l2), some (vI l3), some (vI l4), some (vI r2), some (vI r4)] [vI r26, vI r24, vI r4] M25
        refine RN_k (callX_det _) 1 _ _ _ _ (show callX TBg sl sx (d + 2) 33 [vI r24, vI r26] M25 (fun v M9 => R206 sl sx d M0 P 103 [some (vR (some l0)), some (vI l1), some (vI l2), some (vI l3), some (vI l4), some (vI r2), some (vI r4)] (pushO v [vI r4]) M9) from ?_)
        refine callX_mono (callX_len (d := (d + 2)) rfl rfl rfl (c33 (d := d + 1) h)) ?_
        clear h
        rintro v9 M27 ⟨hl, r28, rfl, h⟩
        replace hM := lenT hM hl
        show R206 sl sx d M0 P 103 [some (vR (some l0)), some (vI l1), some (vI l2), some (vI l3), some (vI l4), some (vI r2), some (vI r4)] [vI r28, vI r4] M27
        refine RN_k (callX_det _) 1 _ _ _ _ (show (r28 < r4 → R206 sl sx d M0 P 110 [some (vR (some l0)), some (vI l1), some (vI l2), some (vI l3), some (vI l4), some (vI r2), some (vI r4)] [] M27) ∧ (¬ (r28 < r4) → R206 sl sx d M0 P 106 [some (vR (some l0)), some (vI l1), some (vI l2), some (vI l3), some (vI l4), some (vI r2), some (vI r4)] [] M27) from ⟨fun hc => ?_, fun hc => ?_⟩)
        · replace h := h.1 hc
          exact RN_weak (K := [none, none, none, none, none, none, none]) (callX_det _) (show True from trivial) (t206_110   _ hM h)
        · replace h := h.2 hc
          refine RN_k (callX_det _) 2 _ _ _ _ (show R206 sl sx d M0 P 111 [some (vR (some l0)), some (vI l1), some (vI l2), some (vI l3), some (vI l4), some (vI r2), some (vI r4)] [vI (1 : Int32)] M27 from ?_)
          exact RN_weak (K := [none, none, none, none, none, none, none]) (callX_det _) (show True from trivial) (t206_111  (1 : Int32) _ hM h)
theorem c206 {sl : Nat} {sx : Nat → Int32} {d : Nat} {l0 : Nat} {l1 : Int32} {l2 : Int32} {l3 : Int32} {l4 : Int32} {M : MM} {P : Int32 → MM → Prop} (h : w206 l0 l1 l2 l3 l4 M P) : callX TBg sl sx (d + 3) 206 [vR (some l0), vI l1, vI l2, vI l3, vI l4] M (PI P) :=
  cX (d := d + 2) q206 (false, tb206) rfl rfl rfl (t206_E l0 l1 l2 l3 l4 M lenR h)
-- TwoLeashModel.doMeet(IIIIZ)Z
abbrev q204 : MQ7 := (6, 1, 10, 10, 0, 0, 4)
abbrev R204 (sl : Nat) (sx : Nat → Int32) (d : Nat) (M0 : MM) (P : Int32 → MM → Prop) : Nat → LL → List VV → MM → Prop := RN 10 false (mS M0).length (mT M0) 0 0 sl sx (callX TBg sl sx (d + 3)) (rtW q204 M0 (PI P)) (as2 tb204)
def w204_150 (s0 : Int32) (M : MM) (P : Int32 → MM → Prop) : Prop := (s0 = 0 ∨ s0 = 1) ∧ P s0 M
theorem t204_150 {sl : Nat} {sx : Nat → Int32} {d : Nat} {M0 : MM} {P : Int32 → MM → Prop} (s0 : Int32) (M : MM) (hM : lenO M0 M) (h : w204_150  s0 M P) : R204 sl sx d M0 P 150 [none, none, none, none, none, none, none, none, none, none] [vI s0] M := by
  exact RN_k (callX_det _) 1 _ _ _ _ (show rtW q204 M0 (PI P) (some (vI s0)) M from ⟨⟨_, rfl, h.1⟩, hM.1, hM.2, _, rfl, h.2⟩)
def w204_145 (M : MM) (P : Int32 → MM → Prop) : Prop := w204_150  (1 : Int32) M P
theorem t204_145 {sl : Nat} {sx : Nat → Int32} {d : Nat} {M0 : MM} {P : Int32 → MM → Prop}  (M : MM) (hM : lenO M0 M) (h : w204_145   M P) : R204 sl sx d M0 P 145 [none, none, none, none, none, none, none, none, none, none] [] M := by
  refine RN_k (callX_det _) 2 _ _ _ _ (show R204 sl sx d M0 P 150 [none, none, none, none, none, none, none, none, none, none] [vI (1 : Int32)] M from ?_)
  exact RN_weak (K := [none, none, none, none, none, none, none, none, none, none]) (callX_det _) (show True from trivial) (t204_150  (1 : Int32) _ hM h)
def w204_149 (M : MM) (P : Int32 → MM → Prop) : Prop := w204_150  (0 : Int32) M P
theorem t204_149 {sl : Nat} {sx : Nat → Int32} {d : Nat} {M0 : MM} {P : Int32 → MM → Prop}  (M : MM) (hM : lenO M0 M) (h : w204_149   M P) : R204 sl sx d M0 P 149 [none, none, none, none, none, none, none, none, none, none] [] M := by
  refine RN_k (callX_det _) 1 _ _ _ _ (show R204 sl sx d M0 P 150 [none, none, none, none, none, none, none, none, none, none] [vI (0 : Int32)] M from ?_)
  exact RN_weak (K := [none, none, none, none, none, none, none, none, none, none]) (callX_det _) (show True from trivial) (t204_150  (0 : Int32) _ hM h)
def w204_126 (l0 : Nat) (l1 : Int32) (l2 : Int32) (l3 : Int32) (l4 : Int32) (l9 : Int32) (M : MM) (P : Int32 → MM → Prop) : Prop := (l9 ≠ 0 → (w204_149  M P)) ∧ (¬ (l9 ≠ 0) → (kd M l0 10 ∧ w206 l0 l3 l4 l1 (l2 + (1 : Int32)) M (fun r2 M1 => (r2 = 0 → (w204_149  M1 P)) ∧ (¬ (r2 = 0) → (w204_145  M1 P)))))
theorem t204_126 {sl : Nat} {sx : Nat → Int32} {d : Nat} {M0 : MM} {P : Int32 → MM → Prop} (l0 : Nat) (l1 : Int32) (l2 : Int32) (l3 : Int32) (l4 : Int32) (l9 : Int32) (M : MM) (hM : lenO M0 M) (h : w204_126  l0 l1 l2 l3 l4 l9 M P) : R204 sl sx d M0 P 126 [some (vR (some l0)), some (vI l1), some (vI l2), some (vI l3), some (vI l4), none, none, none, none, some (vI l9)] [] M := by
  refine RN_k (callX_det _) 2 _ _ _ _ (show (l9 ≠ 0 → R204 sl sx d M0 P 149 [some (vR (some l0)), some (vI l1), some (vI l2), some (vI l3), some (vI l4), none, none, none, none, some (vI l9)] [] M) ∧ (¬ (l9 ≠ 0) → R204 sl sx d M0 P 131 [some (vR (some l0)), some (vI l1), some (vI l2), some (vI l3), some (vI l4), none, none, none, none, some (vI l9)] [] M) from ⟨fun hc => ?_, fun hc => ?_⟩)
  · replace h := h.1 hc
    exact RN_weak (K := [none, none, none, none, none, none, none, none, none, none]) (callX_det _) (show True from trivial) (t204_149   _ hM h)
  · replace h := h.2 hc
    refine RN_k (callX_det _) 8 _ _ _ _ (show kd M l0 10 ∧ callX TBg sl sx (d + 3) 206 [vR (some l0), vI l3, vI l4, vI l1, vI (l2 + (1 : Int32))] M (fun v M9 => R204 sl sx d M0 P 142 [some (vR (some l0)), some (vI l1), some (vI l2), some (vI l3), some (vI l4), none, none, none, none, some (vI l9)] (pushO v []) M9) from ⟨h.1, ?_⟩)
    replace h := h.2
    refine callX_mono (callX_len (d := (d + 3)) rfl rfl rfl (c206 (d := d) h)) ?_
    clear h
    rintro v9 M1 ⟨hl, r2, rfl, h⟩
    replace hM := lenT hM hl
    show R204 sl sx d M0 P 142 [some (vR (some l0)), some (vI l1), some (vI l2), some (vI l3), some (vI l4), none, none, none, none, some (vI l9)] [vI r2] M1
    refine RN_k (callX_det _) 1 _ _ _ _ (show (r2 = 0 → R204 sl sx d M0 P 149 [some (vR (some l0)), some (vI l1), some (vI l2), some (vI l3), some (vI l4), none, none, none, none, some (vI l9)] [] M1) ∧ (¬ (r2 = 0) → R204 sl sx d M0 P 145 [some (vR (some l0)), some (vI l1), some (vI l2), some (vI l3), some (vI l4), none, none, none, none, some (vI l9)] [] M1) from ⟨fun hc => ?_, fun hc => ?_⟩)
    · replace h := h.1 hc
      exact RN_weak (K := [none, none, none, none, none, none, none, none, none, none]) (callX_det _) (show True from trivial) (t204_149   _ hM h)
    · replace h := h.2 hc
      exact RN_weak (K := [none, none, none, none, none, none, none, none, none, none]) (callX_det _) (show True from trivial) (t204_145   _ hM h)
def w204_109 (l0 : Nat) (l1 : Int32) (l2 : Int32) (l3 : Int32) (l4 : Int32) (l8 : Int32) (l9 : Int32) (M : MM) (P : Int32 → MM → Prop) : Prop := (l8 ≠ 0 → (w204_126  l0 l1 l2 l3 l4 l9 M P)) ∧ (¬ (l8 ≠ 0) → (kd M l0 10 ∧ w206 l0 l3 l4 l1 l2 M (fun r2 M1 => (r2 ≠ 0 → (w204_145  M1 P)) ∧ (¬ (r2 ≠ 0) → (w204_126  l0 l1 l2 l3 l4 l9 M1 P)))))
theorem t204_109 {sl : Nat} {sx : Nat → Int32} {d : Nat} {M0 : MM} {P : Int32 → MM → Prop} (l0 : Nat) (l1 : Int32) (l2 : Int32) (l3 : Int32) (l4 : Int32) (l8 : Int32) (l9 : Int32) (M : MM) (hM : lenO M0 M) (h : w204_109  l0 l1 l2 l3 l4 l8 l9 M P) : R204 sl sx d M0 P 109 [some (vR (some l0)), some (vI l1), some (vI l2), some (vI l3), some (vI l4), none, none, none, some (vI l8), some (vI l9)] [] M := by
  refine RN_k (callX_det _) 2 _ _ _ _ (show (l8 ≠ 0 → R204 sl sx d M0 P 126 [some (vR (some l0)), some (vI l1), some (vI l2), some (vI l3), some (vI l4), none, none, none, some (vI l8), some (vI l9)] [] M) ∧ (¬ (l8 ≠ 0) → R204 sl sx d M0 P 114 [some (vR (some l0)), some (vI l1), some (vI l2), some (vI l3), some (vI l4), none, none, none, some (vI l8), some (vI l9)] [] M) from ⟨fun hc => ?_, fun hc => ?_⟩)
  · replace h := h.1 hc
    exact RN_weak (K := [some (vR (some l0)), some (vI l1), some (vI l2), some (vI l3), some (vI l4), none, none, none, none, some (vI l9)]) (callX_det _) (show _ ∧ _ ∧ _ ∧ _ ∧ _ ∧ _ ∧ True from ⟨rfl, rfl, rfl, rfl, rfl, rfl, trivial⟩) (t204_126  l0 l1 l2 l3 l4 l9 _ hM h)
  · replace h := h.2 hc
    refine RN_k (callX_det _) 6 _ _ _ _ (show kd M l0 10 ∧ callX TBg sl sx (d + 3) 206 [vR (some l0), vI l3, vI l4, vI l1, vI l2] M (fun v M9 => R204 sl sx d M0 P 123 [some (vR (some l0)), some (vI l1), some (vI l2), some (vI l3), some (vI l4), none, none, none, some (vI l8), some (vI l9)] (pushO v []) M9) from ⟨h.1, ?_⟩)
    replace h := h.2
    refine callX_mono (callX_len (d := (d + 3)) rfl rfl rfl (c206 (d := d) h)) ?_
    clear h
    rintro v9 M1 ⟨hl, r2, rfl, h⟩
    replace hM := lenT hM hl
    show R204 sl sx d M0 P 123 [some (vR (some l0)), some (vI l1), some (vI l2), some (vI l3), some (vI l4), none, none, none, some (vI l8), some (vI l9)] [vI r2] M1
    refine RN_k (callX_det _) 1 _ _ _ _ (show (r2 ≠ 0 → R204 sl sx d M0 P 145 [some (vR (some l0)), some (vI l1), some (vI l2), some (vI l3), some (vI l4), none, none, none, some (vI l8), some (vI l9)] [] M1) ∧ (¬ (r2 ≠ 0) → R204 sl sx d M0 P 126 [some (vR (some l0)), some (vI l1), some (vI l2), some (vI l3), some (vI l4), none, none, none, some (vI l8), some (vI l9)] [] M1) from ⟨fun hc => ?_, fun hc => ?_⟩)
    · replace h := h.1 hc
      exact RN_weak (K := [none, none, none, none, none, none, none, none, none, none]) (callX_det _) (show True from trivial) (t204_145   _ hM h)
    · replace h := h.2 hc
      exact RN_weak (K := [some (vR (some l0)), some (vI l1), some (vI l2), some (vI l3), some (vI l4), none, none, none, none, some (vI l9)]) (callX_det _) (show _ ∧ _ ∧ _ ∧ _ ∧ _ ∧ _ ∧ True from ⟨rfl, rfl, rfl, rfl, rfl, rfl, trivial⟩) (t204_126  l0 l1 l2 l3 l4 l9 _ hM h)
def w204_90 (l0 : Nat) (l1 : Int32) (l2 : Int32) (l3 : Int32) (l4 : Int32) (l7 : Int32) (l8 : Int32) (l9 : Int32) (M : MM) (P : Int32 → MM → Prop) : Prop := (l7 ≠ 0 → (w204_109  l0 l1 l2 l3 l4 l8 l9 M P)) ∧ (¬ (l7 ≠ 0) → (kd M l0 10 ∧ w206 l0 l1 l2 l3 (l4 + (1 : Int32)) M (fun r2 M1 => (r2 ≠ 0 → (w204_145  M1 P)) ∧ (¬ (r2 ≠ 0) → (w204_109  l0 l1 l2 l3 l4 l8 l9 M1 P)))))
theorem t204_90 {sl : Nat} {sx : Nat → Int32} {d : Nat} {M0 : MM} {P : Int32 → MM → Prop} (l0 : Nat) (l1 : Int32) (l2 : Int32) (l3 : Int32) (l4 : Int32) (l7 : Int32) (l8 : Int32) (l9 : Int32) (M : MM) (hM : lenO M0 M) (h : w204_90  l0 l1 l2 l3 l4 l7 l8 l9 M P) : R204 sl sx d M0 P 90 [some (vR (some l0)), some (vI l1), some (vI l2), some (vI l3), some (vI l4), none, none, some (vI l7), some (vI l8), some (vI l9)] [] M := by
  refine RN_k (callX_det _) 2 _ _ _ _ (show (l7 ≠ 0 → R204 sl sx d M0 P 109 [some (vR (some l0)), some (vI l1), some (vI l2), some (vI l3), some (vI l4), none, none, some (vI l7), some (vI l8), some (vI l9)] [] M) ∧ (¬ (l7 ≠ 0) → R204 sl sx d M0 P 95 [some (vR (some l0)), some (vI l1), some (vI l2), some (vI l3), some (vI l4), none, none, some (vI l7), some (vI l8), some (vI l9)] [] M) from ⟨fun hc => ?_, fun hc => ?_⟩)
  · replace h := h.1 hc
    exact RN_weak (K := [some (vR (some l0)), some (vI l1), some (vI l2), some (vI l3), some (vI l4), none, none, none, some (vI l8), some (vI l9)]) (callX_det _) (show _ ∧ _ ∧ _ ∧ _ ∧ _ ∧ _ ∧ _ ∧ True from ⟨rfl, rfl, rfl, rfl, rfl, rfl, rfl, trivial⟩) (t204_109  l0 l1 l2 l3 l4 l8 l9 _ hM h)
  · replace h := h.2 hc
    refine RN_k (callX_det _) 8 _ _ _ _ (show kd M l0 10 ∧ callX TBg sl sx (d + 3) 206 [vR (some l0), vI l1, vI l2, vI l3, vI (l4 + (1 : Int32))] M (fun v M9 => R204 sl sx d M0 P 106 [some (vR (some l0)), some (vI l1), some (vI l2), some (vI l3), some (vI l4), none, none, some (vI l7), some (vI l8), some (vI l9)] (pushO v []) M9) from ⟨h.1, ?_⟩)
    replace h := h.2
    refine callX_mono (callX_len (d := (d + 3)) rfl rfl rfl (c206 (d := d) h)) ?_
    clear h
    rintro v9 M1 ⟨hl, r2, rfl, h⟩
    replace hM := lenT hM hl
    show R204 sl sx d M0 P 106 [some (vR (some l0)), some (vI l1), some (vI l2), some (vI l3), some (vI l4), none, none, some (vI l7), some (vI l8), some (vI l9)] [vI r2] M1
    refine RN_k (callX_det _) 1 _ _ _ _ (show (r2 ≠ 0 → R204 sl sx d M0 P 145 [some (vR (some l0)), some (vI l1), some (vI l2), some (vI l3), some (vI l4), none, none, some (vI l7), some (vI l8), some (vI l9)] [] M1) ∧ (¬ (r2 ≠ 0) → R204 sl sx d M0 P 109 [some (vR (some l0)), some (vI l1), some (vI l2), some (vI l3), some (vI l4), none, none, some (vI l7), some (vI l8), some (vI l9)] [] M1) from ⟨fun hc => ?_, fun hc => ?_⟩)
    · replace h := h.1 hc
      exact RN_weak (K := [none, none, none, none, none, none, none, none, none, none]) (callX_det _) (show True from trivial) (t204_145   _ hM h)
    · replace h := h.2 hc
      exact RN_weak (K := [some (vR (some l0)), some (vI l1), some (vI l2), some (vI l3), some (vI l4), none, none, none, some (vI l8), some (vI l9)]) (callX_det _) (show _ ∧ _ ∧ _ ∧ _ ∧ _ ∧ _ ∧ _ ∧ True from ⟨rfl, rfl, rfl, rfl, rfl, rfl, rfl, trivial⟩) (t204_109  l0 l1 l2 l3 l4 l8 l9 _ hM h)
def w204_66 (l0 : Nat) (l1 : Int32) (l2 : Int32) (l3 : Int32) (l4 : Int32) (l5 : Int32) (l6 : Int32) (l7 : Int32) (l8 : Int32) (l9 : Int32) (M : MM) (P : Int32 → MM → Prop) : Prop := (l5 = 0 → ((l6 ≠ 0 → (w204_90  l0 l1 l2 l3 l4 l7 l8 l9 M P)) ∧ (¬ (l6 ≠ 0) → (kd M l0 10 ∧ w206 l0 l1 l2 l3 l4 M (fun r2 M1 => (r2 ≠ 0 → (w204_145  M1 P)) ∧ (¬ (r2 ≠ 0) → (w204_90  l0 l1 l2 l3 l4 l7 l8 l9 M1 P))))))) ∧ (¬ (l5 = 0) → (P (0 : Int32) M))
theorem t204_66 {sl : Nat} {sx : Nat → Int32} {d : Nat} {M0 : MM} {P : Int32 → MM → Prop} (l0 : Nat) (l1 : Int32) (l2 : Int32) (l3 : Int32) (l4 : Int32) (l5 : Int32) (l6 : Int32) (l7 : Int32) (l8 : Int32) (l9 : Int32) (M : MM) (hM : lenO M0 M) (h : w204_66  l0 l1 l2 l3 l4 l5 l6 l7 l8 l9 M P) : R204 sl sx d M0 P 66 [some (vR (some l0)), some (vI l1), some (vI l2), some (vI l3), some (vI l4), some (vI l5), some (vI l6), some (vI l7), some (vI l8), some (vI l9)] [] M := by
  refine RN_k (callX_det _) 2 _ _ _ _ (show (l5 = 0 → R204 sl sx d M0 P 73 [some (vR (some l0)), some (vI l1), some (vI l2), some (vI l3), some (vI l4), some (vI l5), some (vI l6), some (vI l7), some (vI l8), some (vI l9)] [] M) ∧ (¬ (l5 = 0) → R204 sl sx d M0 P 71 [some (vR (some l0)), some (vI l1), some (vI l2), some (vI l3), some (vI l4), some (vI l5), some (vI l6), some (vI l7), some (vI l8), some (vI l9)] [] M) from ⟨fun hc => ?_, fun hc => ?_⟩)
  · replace h := h.1 hc
    refine RN_k (callX_det _) 2 _ _ _ _ (show (l6 ≠ 0 → R204 sl sx d M0 P 90 [some (vR (some l0)), some (vI l1), some (vI l2), some (vI l3), some (vI l4), some (vI l5), some (vI l6), some (vI l7), some (vI l8), some (vI l9)] [] M) ∧ (¬ (l6 ≠ 0) → R204 sl sx d M0 P 78 [some (vR (some l0)), some (vI l1), some (vI l2), some (vI l3), some (vI l4), some (vI l5), some (vI l6), some (vI l7), some (vI l8), some (vI l9)] [] M) from ⟨fun hc => ?_, fun hc => ?_⟩)
    · replace h := h.1 hc
      exact RN_weak (K := [some (vR (some l0)), some (vI l1), some (vI l2), some (vI l3), some (vI l4), none, none, some (vI l7), some (vI l8), some (vI l9)]) (callX_det _) (show _ ∧ _ ∧ _ ∧ _ ∧ _ ∧ _ ∧ _ ∧ _ ∧ True from ⟨rfl, rfl, rfl, rfl, rfl, rfl, rfl, rfl, trivial⟩) (t204_90  l0 l1 l2 l3 l4 l7 l8 l9 _ hM h)
    · replace h := h.2 hc
      refine RN_k (callX_det _) 6 _ _ _ _ (show kd M l0 10 ∧ callX TBg sl sx (d + 3) 206 [vR (some l0), vI l1, vI l2, vI l3, vI l4] M (fun v M9 => R204 sl sx d M0 P 87 [some (vR (some l0)), some (vI l1), some (vI l2), some (vI l3), some (vI l4), some (vI l5), some (vI l6), some (vI l7), some (vI l8), some (vI l9)] (pushO v []) M9) from ⟨h.1, ?_⟩)
      replace h := h.2
      refine callX_mono (callX_len (d := (d + 3)) rfl rfl rfl (c206 (d := d) h)) ?_
      clear h
      rintro v9 M1 ⟨hl, r2, rfl, h⟩
      replace hM := lenT hM hl
      show R204 sl sx d M0 P 87 [some (vR (some l0)), some (vI l1), some (vI l2), some (vI l3), some (vI l4), some (vI l5), some (vI l6), some (vI l7), some (vI l8), some (vI l9)] [vI r2] M1
      refine RN_k (callX_det _) 1 _ _ _ _ (show (r2 ≠ 0 → R204 sl sx d M0 P 145 [some (vR (some l0)), some (vI l1), some (vI l2), some (vI l3), some (vI l4), some (vI l5), some (vI l6), some (vI l7), some (vI l8), some (vI l9)] [] M1) ∧ (¬ (r2 ≠ 0) → R204 sl sx d M0 P 90 [some (vR (some l0)), some (vI l1), some (vI l2), some (vI l3), some (vI l4), some (vI l5), some (vI l6), some (vI l7), some (vI l8), some (vI l9)] [] M1) from ⟨fun hc => ?_, fun hc => ?_⟩)
      · replace h := h.1 hc
        exact RN_weak (K := [none, none, none, none, none, none, none, none, none, none]) (callX_det _) (show True from trivial) (t204_145   _ hM h)
      · replace h := h.2 hc
        exact RN_weak (K := [some (vR (some l0)), some (vI l1), some (vI l2), some (vI l3), some (vI l4), none, none, some (vI l7), some (vI l8), some (vI l9)]) (callX_det _) (show _ ∧ _ ∧ _ ∧ _ ∧ _ ∧ _ ∧ _ ∧ _ ∧ True from ⟨rfl, rfl, rfl, rfl, rfl, rfl, rfl, rfl, trivial⟩) (t204_90  l0 l1 l2 l3 l4 l7 l8 l9 _ hM h)
  · replace h := h.2 hc
    exact RN_k (callX_det _) 2 _ _ _ _ (show rtW q204 M0 (PI P) (some (vI (0 : Int32))) M from ⟨⟨_, rfl, Or.inl rfl⟩, hM.1, hM.2, _, rfl, h⟩)
def w204 (l0 : Nat) (l1 : Int32) (l2 : Int32) (l3 : Int32) (l4 : Int32) (l5 : Int32) (M : MM) (P : Int32 → MM → Prop) : Prop := kd M l0 10 ∧ w205 l0 l1 l2 l3 l4 M (fun r2 M1 => kd M1 l0 10 ∧ w205 l0 l1 l2 l3 (l4 + (1 : Int32)) M1 (fun r4 M3 => kd M3 l0 10 ∧ w205 l0 l3 l4 l1 l2 M3 (fun r6 M5 => kd M5 l0 10 ∧ w205 l0 l3 l4 l1 (l2 + (1 : Int32)) M5 (fun r8 M7 => (0 ≤ (r2 * r4) → (w204_66  l0 l1 l2 l3 l4 l5 r2 r4 r6 r8 M7 P)) ∧ (¬ (0 ≤ (r2 * r4)) → ((0 ≤ (r6 * r8) → (w204_66  l0 l1 l2 l3 l4 l5 r2 r4 r6 r8 M7 P)) ∧ (¬ (0 ≤ (r6 * r8)) → (P (1 : Int32) M7))))))))
theorem t204_E {sl : Nat} {sx : Nat → Int32} {d : Nat} {M0 : MM} {P : Int32 → MM → Prop} (l0 : Nat) (l1 : Int32) (l2 : Int32) (l3 : Int32) (l4 : Int32) (l5 : Int32) (M : MM) (hM : lenO M0 M) (h : w204  l0 l1 l2 l3 l4 l5 M P) : R204 sl sx d M0 P 0 [some (vR (some l0)), some (vI l1), some (vI l2), some (vI l3), some (vI l4), some (vI l5), none, none, none, none] [] M := by
  refine RN_k (callX_det _) 6 _ _ _ _ (show kd M l0 10 ∧ callX TBg sl sx (d + 3) 205 [vR (some l0), vI l1, vI l2, vI l3, vI l4] M (fun v M9 => R204 sl sx d M0 P 9 [some (vR (some l0)), some (vI l1), some (vI l2), some (vI l3), some (vI l4), some (vI l5), none, none, none, none] (pushO v []) M9) from ⟨h.1, ?_⟩)
  replace h := h.2
  refine callX_mono (callX_len (d := (d + 3)) rfl rfl rfl (c205 (d := d) h)) ?_
  clear h
  rintro v9 M1 ⟨hl, r2, rfl, h⟩
  replace hM := lenT hM hl
  show R204 sl sx d M0 P 9 [some (vR (some l0)), some (vI l1), some (vI l2), some (vI l3), some (vI l4), some (vI l5), none, none, none, none] [vI r2] M1
  refine RN_k (callX_det _) 9 _ _ _ _ (show kd M1 l0 10 ∧ callX TBg sl sx (d + 3) 205 [vR (some l0), vI l1, vI l2, vI l3, vI (l4 + (1 : Int32))] M1 (fun v M9 => R204 sl sx d M0 P 22 [some (vR (some l0)), some (vI l1), some (vI l2), some (vI l3), some (vI l4), some (vI l5), some (vI r2), none, none, none] (pushO v []) M9) from ⟨h.1, ?_⟩)
  replace h := h.2
  refine callX_mono (callX_len (d := (d + 3)) rfl rfl rfl (c205 (d := d) h)) ?_
  clear h
  rintro v9 M3 ⟨hl, r4, rfl, h⟩
  replace hM := lenT hM hl
  show R204 sl sx d M0 P 22 [some (vR (some l0)), some (vI l1), some (vI l2), some (vI l3), some (vI l4), some (vI l5), some (vI r2), none, none, none] [vI r4] M3
  refine RN_k (callX_det _) 7 _ _ _ _ (show kd M3 l0 10 ∧ callX TBg sl sx (d + 3) 205 [vR (some l0), vI l3, vI l4, vI l1, vI l2] M3 (fun v M9 => R204 sl sx d M0 P 33 [some (vR (some l0)), some (vI l1), some (vI l2), some (vI l3), some (vI l4), some (vI l5), some (vI r2), some (vI r4), none, none] (pushO v []) M9) from ⟨h.1, ?_⟩)
  replace h := h.2
  refine callX_mono (callX_len (d := (d + 3)) rfl rfl rfl (c205 (d := d) h)) ?_
  clear h
  rintro v9 M5 ⟨hl, r6, rfl, h⟩
  replace hM := lenT hM hl
  show R204 sl sx d M0 P 33 [some (vR (some l0)), some (vI l1), some (vI l2), some (vI l3), some (vI l4), some (vI l5), some (vI r2), some (vI r4), none, none] [vI r6] M5
  refine RN_k (callX_det _) 9 _ _ _ _ (show kd M5 l0 10 ∧ callX TBg sl sx (d + 3) 205 [vR (some l0), vI l3, vI l4, vI l1, vI (l2 + (1 : Int32))] M5 (fun v M9 => R204 sl sx d M0 P 46 [some (vR (some l0)), some (vI l1), some (vI l2), some (vI l3), some (vI l4), some (vI l5), some (vI r2), some (vI r4), some (vI r6), none] (pushO v []) M9) from ⟨h.1, ?_⟩)
  replace h := h.2
  refine callX_mono (callX_len (d := (d + 3)) rfl rfl rfl (c205 (d := d) h)) ?_
  clear h
  rintro v9 M7 ⟨hl, r8, rfl, h⟩
  replace hM := lenT hM hl
  show R204 sl sx d M0 P 46 [some (vR (some l0)), some (vI l1), some (vI l2), some (vI l3), some (vI l4), some (vI l5), some (vI r2), some (vI r4), some (vI r6), none] [vI r8] M7
  refine RN_k (callX_det _) 5 _ _ _ _ (show (0 ≤ (r2 * r4) → R204 sl sx d M0 P 66 [some (vR (some l0)), some (vI l1), some (vI l2), some (vI l3), some (vI l4), some (vI l5), some (vI r2), some (vI r4), some (vI r6), some (vI r8)] [] M7) ∧ (¬ (0 ≤ (r2 * r4)) → R204 sl sx d M0 P 56 [some (vR (some l0)), some (vI l1), some (vI l2), some (vI l3), some (vI l4), some (vI l5), some (vI r2), some (vI r4), some (vI r6), some (vI r8)] [] M7) from ⟨fun hc => ?_, fun hc => ?_⟩)
  · replace h := h.1 hc
    exact RN_weak (K := [some (vR (some l0)), some (vI l1), some (vI l2), some (vI l3), some (vI l4), some (vI l5), some (vI r2), some (vI r4), some (vI r6), some (vI r8)]) (callX_det _) (show _ ∧ _ ∧ _ ∧ _ ∧ _ ∧ _ ∧ _ ∧ _ ∧ _ ∧ _ ∧ True from ⟨rfl, rfl, rfl, rfl, rfl, rfl, rfl, rfl, rfl, rfl, trivial⟩) (t204_66  l0 l1 l2 l3 l4 l5 r2 r4 r6 r8 _ hM h)
  · replace h := h.2 hc
    refine RN_k (callX_det _) 4 _ _ _ _ (show (0 ≤ (r6 * r8) → R204 sl sx d M0 P 66 [some (vR (some l0)), some (vI l1), some (vI l2), some (vI l3), some (vI l4), some (vI l5), some (vI r2), some (vI r4), some (vI r6), some (vI r8)] [] M7) ∧ (¬ (0 ≤ (r6 * r8)) → R204 sl sx d M0 P 64 [some (vR (some l0)), some (vI l1), some (vI l2), some (vI l3), some (vI l4), some (vI l5), some (vI r2), some (vI r4), some (vI r6), some (vI r8)] [] M7) from ⟨fun hc => ?_, fun hc => ?_⟩)
    · replace h := h.1 hc
      exact RN_weak (K := [some (vR (some l0)), some (vI l1), some (vI l2), some (vI l3), some (vI l4), some (vI l5), some (vI r2), some (vI r4), some (vI r6), some (vI r8)]) (callX_det _) (show _ ∧ _ ∧ _ ∧ _ ∧ _ ∧ _ ∧ _ ∧ _ ∧ _ ∧ _ ∧ True from ⟨rfl, rfl, rfl, rfl, rfl, rfl, rfl, rfl, rfl, rfl, trivial⟩) (t204_66  l0 l1 l2 l3 l4 l5 r2 r4 r6 r8 _ hM h)
    · replace h := h.2 hc
      exact RN_k (callX_det _) 2 _ _ _ _ (show rtW q204 M0 (PI P) (some (vI (1 : Int32))) M7 from ⟨⟨_, rfl, Or.inr rfl⟩, hM.1, hM.2, _, rfl, h⟩)
theorem c204 {sl : Nat} {sx : Nat → Int32} {d : Nat} {l0 : Nat} {l1 : Int32} {l2 : Int32} {l3 : Int32} {l4 : Int32} {l5 : Int32} {M : MM} {P : Int32 → MM → Prop} (h : w204 l0 l1 l2 l3 l4 l5 M P) : callX TBg sl sx (d + 4) 204 [vR (some l0), vI l1, vI l2, vI l3, vI l4, vI l5] M (PI P) :=
  cX (d := d + 3) q204 (false, tb204) rfl rfl rfl (t204_E l0 l1 l2 l3 l4 l5 M lenR h)
-- TwoLeashModel.meets(III)I
abbrev q203 : MQ7 := (4, 1, 7, 10, 0, 0, 1)
abbrev R203 (sl : Nat) (sx : Nat → Int32) (d : Nat) (M0 : MM) (P : Int32 → MM → Prop) : Nat → LL → List VV → MM → Prop := RN 10 false (mS M0).length (mT M0) 0 0 sl sx (callX TBg sl sx (d + 4)) (rtW q203 M0 (PI P)) (as2 tb203)
def w203_112 (k43 : Nat → Int32 → Int32 → Int32 → Int32 → Int32 → MM → Prop) (k70 : Nat → Int32 → Int32 → Int32 → Int32 → Int32 → Int32 → MM → Prop) (l0 : Nat) (l1 : Int32) (l2 : Int32) (l3 : Int32) (l5 : Int32) (l6 : Int32) (s0 : Int32) (s1 : Int32) (M : MM) (P : Int32 → MM → Prop) : Prop := k70 l0 l1 l2 l3 (s0 + s1) l5 (l6 + (1 : Int32)) M
theorem t203_112 {sl : Nat} {sx : Nat → Int32} {d : Nat} {M0 : MM} {P : Int32 → MM → Prop} {k43 : Nat → Int32 → Int32 → Int32 → Int32 → Int32 → MM → Prop} {k70 : Nat → Int32 → Int32 → Int32 → Int32 → Int32 → Int32 → MM → Prop} (hk43 : ∀ (l0 : Nat) (l1 : Int32) (l2 : Int32) (l3 : Int32) (l4 : Int32) (l5 : Int32) (M : MM), lenO M0 M → k43 l0 l1 l2 l3 l4 l5 M → R203 sl sx d M0 P 43 [some (vR (some l0)), some (vI l1), some (vI l2), some (vI l3), some (vI l4), some (vI l5), none] [] M) (hk70 : ∀ (l0 : Nat) (l1 : Int32) (l2 : Int32) (l3 : Int32) (l4 : Int32) (l5 : Int32) (l6 : Int32) (M : MM), lenO M0 M → k70 l0 l1 l2 l3 l4 l5 l6 M → R203 sl sx d M0 P 70 [some (vR (some l0)), some (vI l1), some (vI l2), some (vI l3), some (vI l4), some (vI l5), some (vI l6)] [] M) (l0 : Nat) (l1 : Int32) (l2 : Int32) (l3 : Int32) (l5 : Int32) (l6 : Int32) (s0 : Int32) (s1 : Int32) (M : MM) (hM : lenO M0 M) (h : w203_112 k43 k70 l0 l1 l2 l3 l5 l6 s0 s1 M P) : R203 sl sx d M0 P 112 [some (vR (some l0)), some (vI l1), some (vI l2), some (vI l3), none, some (vI l5), some (vI l6)] [vI s1, vI s0] M := by
  refine RN_k (callX_det _) 4 _ _ _ _ (show R203 sl sx d M0 P 70 [some (vR (some l0)), some (vI l1), some (vI l2), some (vI l3), some (vI (s0 + s1)), some (vI l5), some (vI (l6 + (1 : Int32)))] [] M from ?_)
  exact RN_weak (K := [some (vR (some l0)), some (vI l1), some (vI l2), some (vI l3), some (vI (s0 + s1)), some (vI l5), some (vI (l6 + (1 : Int32)))]) (callX_det _) (show _ ∧ _ ∧ _ ∧ _ ∧ _ ∧ _ ∧ _ ∧ True from ⟨rfl, rfl, rfl, rfl, rfl, rfl, rfl, trivial⟩) (hk70 l0 l1 l2 l3 (s0 + s1) l5 (l6 + (1 : Int32)) _ hM h)
def w203_101 (k43 : Nat → Int32 → Int32 → Int32 → Int32 → Int32 → MM → Prop) (k70 : Nat → Int32 → Int32 → Int32 → Int32 → Int32 → Int32 → MM → Prop) (l0 : Nat) (l1 : Int32) (l2 : Int32) (l3 : Int32) (l5 : Int32) (l6 : Int32) (s0 : Int32) (s1 : Option Nat) (s2 : Int32) (s3 : Int32) (s4 : Int32) (s5 : Int32) (s6 : Int32) (M : MM) (P : Int32 → MM → Prop) : Prop := ∃ a1, s1 = some a1 ∧ (kd M a1 10 ∧ w204 a1 s2 s3 s4 s5 s6 M (fun r3 M2 => (r3 = 0 → (w203_112 k43 k70 l0 l1 l2 l3 l5 l6 s0 (0 : Int32) M2 P)) ∧ (¬ (r3 = 0) → (w203_112 k43 k70 l0 l1 l2 l3 l5 l6 s0 (1 : Int32) M2 P))))
theorem t203_101 {sl : Nat} {sx : Nat → Int32} {d : Nat} {M0 : MM} {P : Int32 → MM → Prop} {k43 : Nat → Int32 → Int32 → Int32 → Int32 → Int32 → MM → Prop} {k70 : Nat → Int32 → Int32 → Int32 → Int32 → Int32 → Int32 → MM → Prop} (hk43 : ∀ (l0 : Nat) (l1 : Int32) (l2 : Int32) (l3 : Int32) (l4 : Int32) (l5 : Int32) (M : MM), lenO M0 M → k43 l0 l1 l2 l3 l4 l5 M → R203 sl sx d M0 P 43 [some (vR (some l0)), some (vI l1), some (vI l2), some (vI l3), some (vI l4), some (vI l5), none] [] M) (hk70 : ∀ (l0 : Nat) (l1 : Int32) (l2 : Int32) (l3 : Int32) (l4 : Int32) (l5 : Int32) (l6 : Int32) (M : MM), lenO M0 M → k70 l0 l1 l2 l3 l4 l5 l6 M → R203 sl sx d M0 P 70 [some (vR (some l0)), some (vI l1), some (vI l2), some (vI l3), some (vI l4), some (vI l5), some (vI l6)] [] M) (l0 : Nat) (l1 : Int32) (l2 : Int32) (l3 : Int32) (l5 : Int32) (l6 : Int32) (s0 : Int32) (s1 : Option Nat) (s2 : Int32) (s3 : Int32) (s4 : Int32) (s5 : Int32) (s6 : Int32) (M : MM) (hM : lenO M0 M) (h : w203_101 k43 k70 l0 l1 l2 l3 l5 l6 s0 s1 s2 s3 s4 s5 s6 M P) : R203 sl sx d M0 P 101 [some (vR (some l0)), some (vI l1), some (vI l2), some (vI l3), none, some (vI l5), some (vI l6)] [vI s6, vI s5, vI s4, vI s3, vI s2, vR s1, vI s0] M := by
  obtain ⟨a1, he, h⟩ := h
  subst he
  refine RN_k (callX_det _) 1 _ _ _ _ (show kd M a1 10 ∧ callX TBg sl sx (d + 4) 204 [vR (some a1), vI s2, vI s3, vI s4, vI s5, vI s6] M (fun v M9 => R203 sl sx d M0 P 104 [some (vR (some l0)), some (vI l1), some (vI l2), some (vI l3), none, some (vI l5), some (vI l6)] (pushO v [vI s0]) M9) from ⟨h.1, ?_⟩)
  replace h := h.2
  refine callX_mono (callX_len (d := (d + 4)) rfl rfl rfl (c204 (d := d) h)) ?_
  clear h
  rintro v9 M2 ⟨hl, r3, rfl, h⟩
  replace hM := lenT hM hl
  show R203 sl sx d M0 P 104 [some (vR (some l0)), some (vI l1), some (vI l2), some (vI l3), none, some (vI l5), some (vI l6)] [vI r3, vI s0] M2
  refine RN_k (callX_det _) 1 _ _ _ _ (show (r3 = 0 → R203 sl sx d M0 P 111 [some (vR (some l0)), some (vI l1), some (vI l2), some (vI l3), none, some (vI l5), some (vI l6)] [vI s0] M2) ∧ (¬ (r3 = 0) → R203 sl sx d M0 P 107 [some (vR (some l0)), some (vI l1), some (vI l2), some (vI l3), none, some (vI l5), some (vI l6)] [vI s0] M2) from ⟨fun hc => ?_, fun hc => ?_⟩)
  · replace h := h.1 hc
    refine RN_k (callX_det _) 1 _ _ _ _ (show R203 sl sx d M0 P 112 [some (vR (some l0)), some (vI l1), some (vI l2), some (vI l3), none, some (vI l5), some (vI l6)] [vI (0 : Int32), vI s0] M2 from ?_)
    exact RN_weak (K := [some (vR (some l0)), some (vI l1), some (vI l2), some (vI l3), none, some (vI l5), some (vI l6)]) (callX_det _) (show _ ∧ _ ∧ _ ∧ _ ∧ _ ∧ _ ∧ True from ⟨rfl, rfl, rfl, rfl, rfl, rfl, trivial⟩) (t203_112 hk43 hk70 l0 l1 l2 l3 l5 l6 s0 (0 : Int32) _ hM h)
  · replace h := h.2 hc
    refine RN_k (callX_det _) 2 _ _ _ _ (show R203 sl sx d M0 P 112 [some (vR (some l0)), some (vI l1), some (vI l2), some (vI l3), none, some (vI l5), some (vI l6)] [vI (1 : Int32), vI s0] M2 from ?_)
    exact RN_weak (K := [some (vR (some l0)), some (vI l1), some (vI l2), some (vI l3), none, some (vI l5), some (vI l6)]) (callX_det _) (show _ ∧ _ ∧ _ ∧ _ ∧ _ ∧ _ ∧ True from ⟨rfl, rfl, rfl, rfl, rfl, rfl, trivial⟩) (t203_112 hk43 hk70 l0 l1 l2 l3 l5 l6 s0 (1 : Int32) _ hM h)
def w203_70 (k43 : Nat → Int32 → Int32 → Int32 → Int32 → Int32 → MM → Prop) : Nat → Nat → Int32 → Int32 → Int32 → Int32 → Int32 → Int32 → MM → (Int32 → MM → Prop) → Prop
  | 0 => fun _ _ _ _ _ _ _ _ _ => False
  | n + 1 => fun l0 l1 l2 l3 l4 l5 l6 M P => kd M l0 10 ∧ w180 l0 l2 M (fun r2 M1 => (r2 ≤ (l6 + (1 : Int32)) → (k43 l0 l1 l2 l3 l4 (l5 + (1 : Int32)) M1)) ∧ (¬ (r2 ≤ (l6 + (1 : Int32))) → ((l3 ≠ (1 : Int32) → (w203_101 k43 (fun z0 z1 z2 z3 z4 z5 z6 z7 => w203_70 k43 n z0 z1 z2 z3 z4 z5 z6 z7 P) l0 l1 l2 l3 l5 l6 l4 (some l0) l1 l5 l2 l6 (0 : Int32) M1 P)) ∧ (¬ (l3 ≠ (1 : Int32)) → (w203_101 k43 (fun z0 z1 z2 z3 z4 z5 z6 z7 => w203_70 k43 n z0 z1 z2 z3 z4 z5 z6 z7 P) l0 l1 l2 l3 l5 l6 l4 (some l0) l1 l5 l2 l6 (1 : Int32) M1 P)))))
theorem t203_70 {sl : Nat} {sx : Nat → Int32} {d : Nat} {M0 : MM} {P : Int32 → MM → Prop} {k43 : Nat → Int32 → Int32 → Int32 → Int32 → Int32 → MM → Prop} (hk43 : ∀ (l0 : Nat) (l1 : Int32) (l2 : Int32) (l3 : Int32) (l4 : Int32) (l5 : Int32) (M : MM), lenO M0 M → k43 l0 l1 l2 l3 l4 l5 M → R203 sl sx d M0 P 43 [some (vR (some l0)), some (vI l1), some (vI l2), some (vI l3), some (vI l4), some (vI l5), none] [] M) (n : Nat) : ∀ (l0 : Nat) (l1 : Int32) (l2 : Int32) (l3 : Int32) (l4 : Int32) (l5 : Int32) (l6 : Int32) (M : MM) (_ : lenO M0 M) (_ : w203_70 k43 n l0 l1 l2 l3 l4 l5 l6 M P), R203 sl sx d M0 P 70 [some (vR (some l0)), some (vI l1), some (vI l2), some (vI l3), some (vI l4), some (vI l5), some (vI l6)] [] M := by
  induction n with
  | zero => intro l0 l1 l2 l3 l4 l5 l6 M hM h; cases h
  | succ n ih =>
    intro l0 l1 l2 l3 l4 l5 l6 M hM h
    refine RN_k (callX_det _) 6 _ _ _ _ (show kd M l0 10 ∧ callX TBg sl sx (d + 4) 180 [vR (some l0), vI l2] M (fun v M9 => R203 sl sx d M0 P 79 [some (vR (some l0)), some (vI l1), some (vI l2), some (vI l3), some (vI l4), some (vI l5), some (vI l6)] (pushO v [vI (l6 + (1 : Int32))]) M9) from ⟨h.1, ?_⟩)
    replace h := h.2
    refine callX_mono (callX_len (d := (d + 4)) rfl rfl rfl (c180 (d := d + 2) h)) ?_
    clear h
    rintro v9 M1 ⟨hl, r2, rfl, h⟩
    replace hM := lenT hM hl
    show R203 sl sx d M0 P 79 [some (vR (some l0)), some (vI l1), some (vI l2), some (vI l3), some (vI l4), some (vI l5), some (vI l6)] [vI r2, vI (l6 + (1 : Int32))] M1
    refine RN_k (callX_det _) 1 _ _ _ _ (show (r2 ≤ (l6 + (1 : Int32)) → R203 sl sx d M0 P 121 [some (vR (some l0)), some (vI l1), some (vI l2), some (vI l3), some (vI l4), some (vI l5), some (vI l6)] [] M1) ∧ (¬ (r2 ≤ (l6 + (1 : Int32))) → R203 sl sx d M0 P 82 [some (vR (some l0)), some (vI l1), some (vI l2), some (vI l3), some (vI l4), some (vI l5), some (vI l6)] [] M1) from ⟨fun hc => ?_, fun hc => ?_⟩)
    · replace h := h.1 hc
      refine RN_k (callX_det _) 2 _ _ _ _ (show R203 sl sx d M0 P 43 [some (vR (some l0)), some (vI l1), some (vI l2), some (vI l3), some (vI l4), some (vI (l5 + (1 : Int32))), some (vI l6)] [] M1 from ?_)
      exact RN_weak (K := [some (vR (some l0)), some (vI l1), some (vI l2), some (vI l3), some (vI l4), some (vI (l5 + (1 : Int32))), none]) (callX_det _) (show _ ∧ _ ∧ _ ∧ _ ∧ _ ∧ _ ∧ True from ⟨rfl, rfl, rfl, rfl, rfl, rfl, trivial⟩) (hk43 l0 l1 l2 l3 l4 (l5 + (1 : Int32)) _ hM h)
    · replace h := h.2 hc
      refine RN_k (callX_det _) 9 _ _ _ _ (show (l3 ≠ (1 : Int32) → R203 sl sx d M0 P 100 [some (vR (some l0)), some (vI l1), some (vI l2), some (vI l3), some (vI l4), some (vI l5), some (vI l6)] [vI l6, vI l2, vI l5, vI l1, vR (some l0), vI l4] M1) ∧ (¬ (l3 ≠ (1 : Int32)) → R203 sl sx d M0 P 96 [some (vR (some l0)), some (vI l1), some (vI l2), some (vI l3), some (vI l4), some (vI l5), some (vI l6)] [vI l6, vI l2, vI l5, vI l1, vR (some l0), vI l4] M1) from ⟨fun hc => ?_, fun hc => ?_⟩)
      · replace h := h.1 hc
        refine RN_k (callX_det _) 1 _ _ _ _ (show R203 sl sx d M0 P 101 [some (vR (some l0)), some (vI l1), some (vI l2), some (vI l3), some (vI l4), some (vI l5), some (vI l6)] [vI (0 : Int32), vI l6, vI l2, vI l5, vI l1, vR (some l0), vI l4] M1 from ?_)
        exact RN_weak (K := [some (vR (some l0)), some (vI l1), some (vI l2), some (vI l3), none, some (vI l5), some (vI l6)]) (callX_det _) (show _ ∧ _ ∧ _ ∧ _ ∧ _ ∧ _ ∧ True from ⟨rfl, rfl, rfl, rfl, rfl, rfl, trivial⟩) (t203_101 hk43 ih l0 l1 l2 l3 l5 l6 l4 (some l0) l1 l5 l2 l6 (0 : Int32) _ hM h)
      · replace h := h.2 hc
        refine RN_k (callX_det _) 2 _ _ _ _ (show R203 sl sx d M0 P 101 [some (vR (some l0)), some (vI l1), some (vI l2), some (vI l3), some (vI l4), some (vI l5), some (vI l6)] [vI (1 : Int32), vI l6, vI l2, vI l5, vI l1, vR (some l0), vI l4] M1 from ?_)
        exact RN_weak (K := [some (vR (some l0)), some (vI l1), some (vI l2), some (vI l3), none, some (vI l5), some (vI l6)]) (callX_det _) (show _ ∧ _ ∧ _ ∧ _ ∧ _ ∧ _ ∧ True from ⟨rfl, rfl, rfl, rfl, rfl, rfl, trivial⟩) (t203_101 hk43 ih l0 l1 l2 l3 l5 l6 l4 (some l0) l1 l5 l2 l6 (1 : Int32) _ hM h)
def w203_68 (k43 : Nat → Int32 → Int32 → Int32 → Int32 → Int32 → MM → Prop) (l0 : Nat) (l1 : Int32) (l2 : Int32) (l3 : Int32) (l4 : Int32) (l5 : Int32) (s0 : Int32) (M : MM) (P : Int32 → MM → Prop) : Prop := ∃ n2, w203_70 k43 n2 l0 l1 l2 l3 l4 l5 s0 M P
theorem t203_68 {sl : Nat} {sx : Nat → Int32} {d : Nat} {M0 : MM} {P : Int32 → MM → Prop} {k43 : Nat → Int32 → Int32 → Int32 → Int32 → Int32 → MM → Prop} (hk43 : ∀ (l0 : Nat) (l1 : Int32) (l2 : Int32) (l3 : Int32) (l4 : Int32) (l5 : Int32) (M : MM), lenO M0 M → k43 l0 l1 l2 l3 l4 l5 M → R203 sl sx d M0 P 43 [some (vR (some l0)), some (vI l1), some (vI l2), some (vI l3), some (vI l4), some (vI l5), none] [] M) (l0 : Nat) (l1 : Int32) (l2 : Int32) (l3 : Int32) (l4 : Int32) (l5 : Int32) (s0 : Int32) (M : MM) (hM : lenO M0 M) (h : w203_68 k43 l0 l1 l2 l3 l4 l5 s0 M P) : R203 sl sx d M0 P 68 [some (vR (some l0)), some (vI l1), some (vI l2), some (vI l3), some (vI l4), some (vI l5), none] [vI s0] M := by
  refine RN_k (callX_det _) 1 _ _ _ _ (show R203 sl sx d M0 P 70 [some (vR (some l0)), some (vI l1), some (vI l2), some (vI l3), some (vI l4), some (vI l5), some (vI s0)] [] M from ?_)
  obtain ⟨n2, h⟩ := h
  exact RN_weak (K := [some (vR (some l0)), some (vI l1), some (vI l2), some (vI l3), some (vI l4), some (vI l5), some (vI s0)]) (callX_det _) (show _ ∧ _ ∧ _ ∧ _ ∧ _ ∧ _ ∧ _ ∧ True from ⟨rfl, rfl, rfl, rfl, rfl, rfl, rfl, trivial⟩) (t203_70 hk43 n2 l0 l1 l2 l3 l4 l5 s0 _ hM h)
def w203_43 : Nat → Nat → Int32 → Int32 → Int32 → Int32 → Int32 → MM → (Int32 → MM → Prop) → Prop
  | 0 => fun _ _ _ _ _ _ _ _ => False
  | n + 1 => fun l0 l1 l2 l3 l4 l5 M P => kd M l0 10 ∧ w180 l0 l1 M (fun r2 M1 => (r2 ≤ (l5 + (1 : Int32)) → (kd M1 l0 10 ∧ w177 l0 l4 M1 (fun r4 M3 => P r4 M3))) ∧ (¬ (r2 ≤ (l5 + (1 : Int32))) → ((l1 ≠ l2 → (w203_68 (fun z0 z1 z2 z3 z4 z5 z6 => w203_43  n z0 z1 z2 z3 z4 z5 z6 P) l0 l1 l2 l3 l4 l5 (0 : Int32) M1 P)) ∧ (¬ (l1 ≠ l2) → (w203_68 (fun z0 z1 z2 z3 z4 z5 z6 => w203_43  n z0 z1 z2 z3 z4 z5 z6 P) l0 l1 l2 l3 l4 l5 (l5 + (2 : Int32)) M1 P)))))
theorem t203_43 {sl : Nat} {sx : Nat → Int32} {d : Nat} {M0 : MM} {P : Int32 → MM → Prop} (n : Nat) : ∀ (l0 : Nat) (l1 : Int32) (l2 : Int32) (l3 : Int32) (l4 : Int32) (l5 : Int32) (M : MM) (_ : lenO M0 M) (_ : w203_43  n l0 l1 l2 l3 l4 l5 M P), R203 sl sx d M0 P 43 [some (vR (some l0)), some (vI l1), some (vI l2), some (vI l3), some (vI l4), some (vI l5), none] [] M := by
  induction n with
  | zero => intro l0 l1 l2 l3 l4 l5 M hM h; cases h
  | succ n ih =>
    intro l0 l1 l2 l3 l4 l5 M hM h
    refine RN_k (callX_det _) 6 _ _ _ _ (show kd M l0 10 ∧ callX TBg sl sx (d + 4) 180 [vR (some l0), vI l1] M (fun v M9 => R203 sl sx d M0 P 52 [some (vR (some l0)), some (vI l1), some (vI l2), some (vI l3), some (vI l4), some (vI l5), none] (pushO v [vI (l5 + (1 : Int32))]) M9) from ⟨h.1, ?_⟩)
    replace h := h.2
    refine callX_mono (callX_len (d := (d + 4)) rfl rfl rfl (c180 (d := d + 2) h)) ?_
    clear h
    rintro v9 M1 ⟨hl, r2, rfl, h⟩
    replace hM := lenT hM hl
    show R203 sl sx d M0 P 52 [some (vR (some l0)), some (vI l1), some (vI l2), some (vI l3), some (vI l4), some (vI l5), none] [vI r2, vI (l5 + (1 : Int32))] M1
    refine RN_k (callX_det _) 1 _ _ _ _ (show (r2 ≤ (l5 + (1 : Int32)) → R203 sl sx d M0 P 127 [some (vR (some l0)), some (vI l1), some (vI l2), some (vI l3), some (vI l4), some (vI l5), none] [] M1) ∧ (¬ (r2 ≤ (l5 + (1 : Int32))) → R203 sl sx d M0 P 55 [some (vR (some l0)), some (vI l1), some (vI l2), some (vI l3), some (vI l4), some (vI l5), none] [] M1) from ⟨fun hc => ?_, fun hc => ?_⟩)
    · replace h := h.1 hc
      refine RN_k (callX_det _) 3 _ _ _ _ (show kd M1 l0 10 ∧ callX TBg sl sx (d + 4) 177 [vR (some l0), vI l4] M1 (fun v M9 => R203 sl sx d M0 P 133 [some (vR (some l0)), some (vI l1), some (vI l2), some (vI l3), some (vI l4), some (vI l5), none] (pushO v []) M9) from ⟨h.1, ?_⟩)
      replace h := h.2
      refine callX_mono (callX_len (d := (d + 4)) rfl rfl rfl (c177 (d := d + 3) h)) ?_
      clear h
      rintro v9 M3 ⟨hl, r4, rfl, h⟩
      replace hM := lenT hM hl
      show R203 sl sx d M0 P 133 [some (vR (some l0)), some (vI l1), some (vI l2), some (vI l3), some (vI l4), some (vI l5), none] [vI r4] M3
      exact RN_k (callX_det _) 1 _ _ _ _ (show rtW q203 M0 (PI P) (some (vI r4)) M3 from ⟨⟨_, rfl⟩, hM.1, hM.2, _, rfl, h⟩)
    · replace h := h.2 hc
      refine RN_k (callX_det _) 3 _ _ _ _ (show (l1 ≠ l2 → R203 sl sx d M0 P 67 [some (vR (some l0)), some (vI l1), some (vI l2), some (vI l3), some (vI l4), some (vI l5), none] [] M1) ∧ (¬ (l1 ≠ l2) → R203 sl sx d M0 P 60 [some (vR (some l0)), some (vI l1), some (vI l2), some (vI l3), some (vI l4), some (vI l5), none] [] M1) from ⟨fun hc => ?_, fun hc => ?_⟩)
      · replace h := h.1 hc
        refine RN_k (callX_det _) 1 _ _ _ _ (show R203 sl sx d M0 P 68 [some (vR (some l0)), some (vI l1), some (vI l2), some (vI l3), some (vI l4), some (vI l5), none] [vI (0 : Int32)] M1 from ?_)
        exact RN_weak (K := [some (vR (some l0)), some (vI l1), some (vI l2), some (vI l3), some (vI l4), some (vI l5), none]) (callX_det _) (show _ ∧ _ ∧ _ ∧ _ ∧ _ ∧ _ ∧ True from ⟨rfl, rfl, rfl, rfl, rfl, rfl, trivial⟩) (t203_68 ih l0 l1 l2 l3 l4 l5 (0 : Int32) _ hM h)
      · replace h := h.2 hc
        refine RN_k (callX_det _) 4 _ _ _ _ (show R203 sl sx d M0 P 68 [some (vR (some l0)), some (vI l1), some (vI l2), some (vI l3), some (vI l4), some (vI l5), none] [vI (l5 + (2 : Int32))] M1 from ?_)
        exact RN_weak (K := [some (vR (some l0)), some (vI l1), some (vI l2), some (vI l3), some (vI l4), some (vI l5), none]) (callX_det _) (show _ ∧ _ ∧ _ ∧ _ ∧ _ ∧ _ ∧ True from ⟨rfl, rfl, rfl, rfl, rfl, rfl, trivial⟩) (t203_68 ih l0 l1 l2 l3 l4 l5 (l5 + (2 : Int32)) _ hM h)
def w203_31 (l0 : Nat) (M : MM) (P : Int32 → MM → Prop) : Prop := kd M l0 10 ∧ w167 l0 (2 : Int32) M (fun r2 M1 => P r2 M1)
theorem t203_31 {sl : Nat} {sx : Nat → Int32} {d : Nat} {M0 : MM} {P : Int32 → MM → Prop} (l0 : Nat) (M : MM) (hM : lenO M0 M) (h : w203_31  l0 M P) : R203 sl sx d M0 P 31 [some (vR (some l0)), none, none, none, none, none, none] [] M := by
  refine RN_k (callX_det _) 3 _ _ _ _ (show kd M l0 10 ∧ callX TBg sl sx (d + 4) 167 [vR (some l0), vI (2 : Int32)] M (fun v M9 => R203 sl sx d M0 P 36 [some (vR (some l0)), none, none, none, none, none, none] (pushO v []) M9) from ⟨h.1, ?_⟩)
  replace h := h.2
  refine callX_mono (callX_len (d := (d + 4)) rfl rfl rfl (c167 (d := d + 3) h)) ?_
  clear h
  rintro v9 M1 ⟨hl, r2, rfl, h⟩
  replace hM := lenT hM hl
  show R203 sl sx d M0 P 36 [some (vR (some l0)), none, none, none, none, none, none] [vI r2] M1
  exact RN_k (callX_det _) 1 _ _ _ _ (show rtW q203 M0 (PI P) (some (vI r2)) M1 from ⟨⟨_, rfl⟩, hM.1, hM.2, _, rfl, h⟩)
def w203 (l0 : Nat) (l1 : Int32) (l2 : Int32) (l3 : Int32) (M : MM) (P : Int32 → MM → Prop) : Prop := w166 l3 (0 : Int32) (1 : Int32) M (fun r2 M1 => (r2 ≠ 0 → (kd M1 l0 10 ∧ w182 l0 l1 M1 (fun r4 M3 => (r4 = 0 → (w203_31  l0 M3 P)) ∧ (¬ (r4 = 0) → (kd M3 l0 10 ∧ w182 l0 l2 M3 (fun r6 M5 => (r6 ≠ 0 → (∃ n2, w203_43  n2 l0 l1 l2 l3 (0 : Int32) (0 : Int32) M5 P)) ∧ (¬ (r6 ≠ 0) → (w203_31  l0 M5 P)))))))) ∧ (¬ (r2 ≠ 0) → (kd M1 l0 10 ∧ w167 l0 (1 : Int32) M1 (fun r8 M7 => P r8 M7))))
theorem t203_E {sl : Nat} {sx : Nat → Int32} {d : Nat} {M0 : MM} {P : Int32 → MM → Prop} (l0 : Nat) (l1 : Int32) (l2 : Int32) (l3 : Int32) (M : MM) (hM : lenO M0 M) (h : w203  l0 l1 l2 l3 M P) : R203 sl sx d M0 P 0 [some (vR (some l0)), some (vI l1), some (vI l2), some (vI l3), none, none, none] [] M := by
  refine RN_k (callX_det _) 4 _ _ _ _ (show callX TBg sl sx (d + 4) 166 [vI l3, vI (0 : Int32), vI (1 : Int32)] M (fun v M9 => R203 sl sx d M0 P 6 [some (vR (some l0)), some (vI l1), some (vI l2), some (vI l3), none, none, none] (pushO v []) M9) from ?_)
  refine callX_mono (callX_len (d := (d + 4)) rfl rfl rfl (c166 (d := d + 3) h)) ?_
  clear h
  rintro v9 M1 ⟨hl, r2, rfl, h⟩
  replace hM := lenT hM hl
  show R203 sl sx d M0 P 6 [some (vR (some l0)), some (vI l1), some (vI l2), some (vI l3), none, none, none] [vI r2] M1
  refine RN_k (callX_det _) 1 _ _ _ _ (show (r2 ≠ 0 → R203 sl sx d M0 P 15 [some (vR (some l0)), some (vI l1), some (vI l2), some (vI l3), none, none, none] [] M1) ∧ (¬ (r2 ≠ 0) → R203 sl sx d M0 P 9 [some (vR (some l0)), some (vI l1), some (vI l2), some (vI l3), none, none, none] [] M1) from ⟨fun hc => ?_, fun hc => ?_⟩)
  · replace h := h.1 hc
    refine RN_k (callX_det _) 3 _ _ _ _ (show kd M1 l0 10 ∧ callX TBg sl sx (d + 4) 182 [vR (some l0), vI l1] M1 (fun v M9 => R203 sl sx d M0 P 20 [some (vR (some l0)), some (vI l1), some (vI l2), some (vI l3), none, none, none] (pushO v []) M9) from ⟨h.1, ?_⟩)
    replace h := h.2
    refine callX_mono (callX_len (d := (d + 4)) rfl rfl rfl (c182 (d := d + 2) h)) ?_
    clear h
    rintro v9 M3 ⟨hl, r4, rfl, h⟩
    replace hM := lenT hM hl
    show R203 sl sx d M0 P 20 [some (vR (some l0)), some (vI l1), some (vI l2), some (vI l3), none, none, none] [vI r4] M3
    refine RN_k (callX_det _) 1 _ _ _ _ (show (r4 = 0 → R203 sl sx d M0 P 31 [some (vR (some l0)), some (vI l1), some (vI l2), some (vI l3), none, none, none] [] M3) ∧ (¬ (r4 = 0) → R203 sl sx d M0 P 23 [some (vR (some l0)), some (vI l1), some (vI l2), some (vI l3), none, none, none] [] M3) from ⟨fun hc => ?_, fun hc => ?_⟩)
    · replace h := h.1 hc
      exact RN_weak (K := [some (vR (some l0)), none, none, none, none, none, none]) (callX_det _) (show _ ∧ True from ⟨rfl, trivial⟩) (t203_31  l0 _ hM h)
    · replace h := h.2 hc
      refine RN_k (callX_det _) 3 _ _ _ _ (show kd M3 l0 10 ∧ callX TBg sl sx (d + 4) 182 [vR (some l0), vI l2] M3 (fun v M9 => R203 sl sx d M0 P 28 [some (vR (some l0)), some (vI l1), some (vI l2), some (vI l3), none, none, none] (pushO v []) M9) from ⟨h.1, ?_⟩)
      replace h := h.2
      refine callX_mono (callX_len (d := (d + 4)) rfl rfl rfl (c182 (d := d + 2) h)) ?_
      clear h
      rintro v9 M5 ⟨hl, r6, rfl, h⟩
      replace hM := lenT hM hl
      show R203 sl sx d M0 P 28 [some (vR (some l0)), some (vI l1), some (vI l2), some (vI l3), none, none, none] [vI r6] M5
      refine RN_k (callX_det _) 1 _ _ _ _ (show (r6 ≠ 0 → R203 sl sx d M0 P 37 [some (vR (some l0)), some (vI l1), some (vI l2), some (vI l3), none, none, none] [] M5) ∧ (¬ (r6 ≠ 0) → R203 sl sx d M0 P 31 [some (vR (some l0)), some (vI l1), some (vI l2), some (vI l3), none, none, none] [] M5) from ⟨fun hc => ?_, fun hc => ?_⟩)
      · replace h := h.1 hc
        refine RN_k (callX_det _) 4 _ _ _ _ (show R203 sl sx d M0 P 43 [some (vR (some l0)), some (vI l1), some (vI l2), some (vI l3), some (vI (0 : Int32)), some (vI (0 : Int32)), none] [] M5 from ?_)
        obtain ⟨n2, h⟩ := h
        exact RN_weak (K := [some (vR (some l0)), some (vI l1), some (vI l2), some (vI l3), some (vI (0 : Int32)), some (vI (0 : Int32)), none]) (callX_det _) (show _ ∧ _ ∧ _ ∧ _ ∧ _ ∧ _ ∧ True from ⟨rfl, rfl, rfl, rfl, rfl, rfl, trivial⟩) (t203_43  n2 l0 l1 l2 l3 (0 : Int32) (0 : Int32) _ hM h)
      · replace h := h.2 hc
        exact RN_weak (K := [some (vR (some l0)), none, none, none, none, none, none]) (callX_det _) (show _ ∧ True from ⟨rfl, trivial⟩) (t203_31  l0 _ hM h)
  · replace h := h.2 hc
    refine RN_k (callX_det _) 3 _ _ _ _ (show kd M1 l0 10 ∧ callX TBg sl sx (d + 4) 167 [vR (some l0), vI (1 : Int32)] M1 (fun v M9 => R203 sl sx d M0 P 14 [some (vR (some l0)), some (vI l1), some (vI l2), some (vI l3), none, none, none] (pushO v []) M9) from ⟨h.1, ?_⟩)
    replace h := h.2
    refine callX_mono (callX_len (d := (d + 4)) rfl rfl rfl (c167 (d := d + 3) h)) ?_
    clear h
    rintro v9 M7 ⟨hl, r8, rfl, h⟩
    replace hM := lenT hM hl
    show R203 sl sx d M0 P 14 [some (vR (some l0)), some (vI l1), some (vI l2), some (vI l3), none, none, none] [vI r8] M7
    exact RN_k (callX_det _) 1 _ _ _ _ (show rtW q203 M0 (PI P) (some (vI r8)) M7 from ⟨⟨_, rfl⟩, hM.1, hM.2, _, rfl, h⟩)
theorem c203 {sl : Nat} {sx : Nat → Int32} {d : Nat} {l0 : Nat} {l1 : Int32} {l2 : Int32} {l3 : Int32} {M : MM} {P : Int32 → MM → Prop} (h : w203 l0 l1 l2 l3 M P) : callX TBg sl sx (d + 5) 203 [vR (some l0), vI l1, vI l2, vI l3] M (PI P) :=
  cX (d := d + 4) q203 (false, tb203) rfl rfl rfl (t203_E l0 l1 l2 l3 M lenR h)
-- TwoLeashModel.bends(II)I
abbrev q207 : MQ7 := (3, 1, 8, 10, 0, 0, 1)
abbrev R207 (sl : Nat) (sx : Nat → Int32) (d : Nat) (M0 : MM) (P : Int32 → MM → Prop) : Nat → LL → List VV → MM → Prop := RN 10 false (mS M0).length (mT M0) 0 0 sl sx (callX TBg sl sx (d + 3)) (rtW q207 M0 (PI P)) (as2 tb207)
def w207_177 (k34 : Nat → Int32 → Int32 → Int32 → Int32 → MM → Prop) (l0 : Nat) (l1 : Int32) (l2 : Int32) (l4 : Int32) (s0 : Int32) (s1 : Int32) (M : MM) (P : Int32 → MM → Prop) : Prop := k34 l0 l1 l2 (s0 + s1) (l4 + (1 : Int32)) M
theorem t207_177 {sl : Nat} {sx : Nat → Int32} {d : Nat} {M0 : MM} {P : Int32 → MM → Prop} {k34 : Nat → Int32 → Int32 → Int32 → Int32 → MM → Prop} (hk34 : ∀ (l0 : Nat) (l1 : Int32) (l2 : Int32) (l3 : Int32) (l4 : Int32) (M : MM), lenO M0 M → k34 l0 l1 l2 l3 l4 M → R207 sl sx d M0 P 34 [some (vR (some l0)), some (vI l1), some (vI l2), some (vI l3), some (vI l4), none, none, none] [] M) (l0 : Nat) (l1 : Int32) (l2 : Int32) (l4 : Int32) (s0 : Int32) (s1 : Int32) (M : MM) (hM : lenO M0 M) (h : w207_177 k34 l0 l1 l2 l4 s0 s1 M P) : R207 sl sx d M0 P 177 [some (vR (some l0)), some (vI l1), some (vI l2), none, some (vI l4), none, none, none] [vI s1, vI s0] M := by
  refine RN_k (callX_det _) 4 _ _ _ _ (show R207 sl sx d M0 P 34 [some (vR (some l0)), some (vI l1), some (vI l2), some (vI (s0 + s1)), some (vI (l4 + (1 : Int32))), none, none, none] [] M from ?_)
  exact RN_weak (K := [some (vR (some l0)), some (vI l1), some (vI l2), some (vI (s0 + s1)), some (vI (l4 + (1 : Int32))), none, none, none]) (callX_det _) (show _ ∧ _ ∧ _ ∧ _ ∧ _ ∧ True from ⟨rfl, rfl, rfl, rfl, rfl, trivial⟩) (hk34 l0 l1 l2 (s0 + s1) (l4 + (1 : Int32)) _ hM h)
def w207_163 (k34 : Nat → Int32 → Int32 → Int32 → Int32 → MM → Prop) (l0 : Nat) (l1 : Int32) (l2 : Int32) (l3 : Int32) (l4 : Int32) (s0 : Int32) (M : MM) (P : Int32 → MM → Prop) : Prop := (s0 ≠ l2 → (w207_177 k34 l0 l1 l2 l4 l3 (0 : Int32) M P)) ∧ (¬ (s0 ≠ l2) → (w207_177 k34 l0 l1 l2 l4 l3 (1 : Int32) M P))
theorem t207_163 {sl : Nat} {sx : Nat → Int32} {d : Nat} {M0 : MM} {P : Int32 → MM → Prop} {k34 : Nat → Int32 → Int32 → Int32 → Int32 → MM → Prop} (hk34 : ∀ (l0 : Nat) (l1 : Int32) (l2 : Int32) (l3 : Int32) (l4 : Int32) (M : MM), lenO M0 M → k34 l0 l1 l2 l3 l4 M → R207 sl sx d M0 P 34 [some (vR (some l0)), some (vI l1), some (vI l2), some (vI l3), some (vI l4), none, none, none] [] M) (l0 : Nat) (l1 : Int32) (l2 : Int32) (l3 : Int32) (l4 : Int32) (s0 : Int32) (M : MM) (hM : lenO M0 M) (h : w207_163 k34 l0 l1 l2 l3 l4 s0 M P) : R207 sl sx d M0 P 163 [some (vR (some l0)), some (vI l1), some (vI l2), some (vI l3), some (vI l4), none, none, none] [vI s0] M := by
  refine RN_k (callX_det _) 5 _ _ _ _ (show (s0 ≠ l2 → R207 sl sx d M0 P 176 [some (vR (some l0)), some (vI l1), some (vI l2), some (vI l3), some (vI l4), none, none, some (vI s0)] [vI l3] M) ∧ (¬ (s0 ≠ l2) → R207 sl sx d M0 P 172 [some (vR (some l0)), some (vI l1), some (vI l2), some (vI l3), some (vI l4), none, none, some (vI s0)] [vI l3] M) from ⟨fun hc => ?_, fun hc => ?_⟩)
  · replace h := h.1 hc
    refine RN_k (callX_det _) 1 _ _ _ _ (show R207 sl sx d M0 P 177 [some (vR (some l0)), some (vI l1), some (vI l2), some (vI l3), some (vI l4), none, none, some (vI s0)] [vI (0 : Int32), vI l3] M from ?_)
    exact RN_weak (K := [some (vR (some l0)), some (vI l1), some (vI l2), none, some (vI l4), none, none, none]) (callX_det _) (show _ ∧ _ ∧ _ ∧ _ ∧ True from ⟨rfl, rfl, rfl, rfl, trivial⟩) (t207_177 hk34 l0 l1 l2 l4 l3 (0 : Int32) _ hM h)
  · replace h := h.2 hc
    refine RN_k (callX_det _) 2 _ _ _ _ (show R207 sl sx d M0 P 177 [some (vR (some l0)), some (vI l1), some (vI l2), some (vI l3), some (vI l4), none, none, some (vI s0)] [vI (1 : Int32), vI l3] M from ?_)
    exact RN_weak (K := [some (vR (some l0)), some (vI l1), some (vI l2), none, some (vI l4), none, none, none]) (callX_det _) (show _ ∧ _ ∧ _ ∧ _ ∧ True from ⟨rfl, rfl, rfl, rfl, trivial⟩) (t207_177 hk34 l0 l1 l2 l4 l3 (1 : Int32) _ hM h)
def w207_34 : Nat → Nat → Int32 → Int32 → Int32 → Int32 → MM → (Int32 → MM → Prop) → Prop
  | 0 => fun _ _ _ _ _ _ _ => False
  | n + 1 => fun l0 l1 l2 l3 l4 M P => kd M l0 10 ∧ w180 l0 l1 M (fun r2 M1 => (r2 ≤ (l4 + (1 : Int32)) → (kd M1 l0 10 ∧ w177 l0 l3 M1 (fun r4 M3 => P r4 M3))) ∧ (¬ (r2 ≤ (l4 + (1 : Int32))) → (kd M1 l0 10 ∧ w205 l0 l1 (l4 - (1 : Int32)) l1 (l4 + (1 : Int32)) M1 (fun r6 M5 => kd M5 l0 10 ∧ w184 l0 l1 l4 M5 (fun r8 M7 => kd M7 l0 10 ∧ w184 l0 l1 (l4 - (1 : Int32)) M7 (fun r10 M9 => kd M9 l0 10 ∧ w184 l0 l1 (l4 + (1 : Int32)) M9 (fun r12 M11 => kd M11 l0 10 ∧ w184 l0 l1 l4 M11 (fun r14 M13 => kd M13 l0 10 ∧ w185 l0 l1 l4 M13 (fun r16 M15 => kd M15 l0 10 ∧ w185 l0 l1 (l4 - (1 : Int32)) M15 (fun r18 M17 => kd M17 l0 10 ∧ w185 l0 l1 (l4 + (1 : Int32)) M17 (fun r20 M19 => kd M19 l0 10 ∧ w185 l0 l1 l4 M19 (fun r22 M21 => (r6 ≤ 0 → ((0 ≤ r6 → (((((r8 - r10) * (r12 - r14)) + ((r16 - r18) * (r20 - r22))) ≤ 0 → (w207_163 (fun z0 z1 z2 z3 z4 z5 => w207_34  n z0 z1 z2 z3 z4 z5 P) l0 l1 l2 l3 l4 (3 : Int32) M21 P)) ∧ (¬ ((((r8 - r10) * (r12 - r14)) + ((r16 - r18) * (r20 - r22))) ≤ 0) → (w207_163 (fun z0 z1 z2 z3 z4 z5 => w207_34  n z0 z1 z2 z3 z4 z5 P) l0 l1 l2 l3 l4 (2 : Int32) M21 P)))) ∧ (¬ (0 ≤ r6) → (w207_163 (fun z0 z1 z2 z3 z4 z5 => w207_34  n z0 z1 z2 z3 z4 z5 P) l0 l1 l2 l3 l4 (1 : Int32) M21 P)))) ∧ (¬ (r6 ≤ 0) → (w207_163 (fun z0 z1 z2 z3 z4 z5 => w207_34  n z0 z1 z2 z3 z4 z5 P) l0 l1 l2 l3 l4 (0 : Int32) M21 P))))))))))))))
theorem t207_34 {sl : Nat} {sx : Nat → Int32} {d : Nat} {M0 : MM} {P : Int32 → MM → Prop} (n : Nat) : ∀ (l0 : Nat) (l1 : Int32) (l2 : Int32) (l3 : Int32) (l4 : Int32) (M : MM) (_ : lenO M0 M) (_ : w207_34  n l0 l1 l2 l3 l4 M P), R207 sl sx d M0 P 34 [some (vR (some l0)), some (vI l1), some (vI l2), some (vI l3), some (vI l4), none, none, none] [] M := by
  induction n with
  | zero => intro l0 l1 l2 l3 l4 M hM h; cases h
  | succ n ih =>
    intro l0 l1 l2 l3 l4 M hM h
    refine RN_k (callX_det _) 6 _ _ _ _ (show kd M l0 10 ∧ callX TBg sl sx (d + 3) 180 [vR (some l0), vI l1] M (fun v M9 => R207 sl sx d M0 P 43 [some (vR (some l0)), some (vI l1), some (vI l2), some (vI l3), some (vI l4), none, none, none] (pushO v [vI (l4 + (1 : Int32))]) M9) from ⟨h.1, ?_⟩)
    replace h := h.2
    refine callX_mono (callX_len (d := (d + 3)) rfl rfl rfl (c180 (d := d + 1) h)) ?_
    clear h
    rintro v9 M1 ⟨hl, r2, rfl, h⟩
    replace hM := lenT hM hl
    show R207 sl sx d M0 P 43 [some (vR (some l0)), some (vI l1), some (vI l2), some (vI l3), some (vI l4), none, none, none] [vI r2, vI (l4 + (1 : Int32))] M1
    refine RN_k (callX_det _) 1 _ _ _ _ (show (r2 ≤ (l4 + (1 : Int32)) → R207 sl sx d M0 P 185 [some (vR (some l0)), some (vI l1), some (vI l2), some (vI l3), some (vI l4), none, none, none] [] M1) ∧ (¬ (r2 ≤ (l4 + (1 : Int32))) → R207 sl sx d M0 P 46 [some (vR (some l0)), some (vI l1), some (vI l2), some (vI l3), some (vI l4), none, none, none] [] M1) from ⟨fun hc => ?_, fun hc => ?_⟩)
    · replace h := h.1 hc
      refine RN_k (callX_det _) 3 _ _ _ _ (show kd M1 l0 10 ∧ callX TBg sl sx (d + 3) 177 [vR (some l0), vI l3] M1 (fun v M9 => R207 sl sx d M0 P 190 [some (vR (some l0)), some (vI l1), some (vI l2), some (vI l3), some (vI l4), none, none, none] (pushO v []) M9) from ⟨h.1, ?_⟩)
      replace h := h.2
      refine callX_mono (callX_len (d := (d + 3)) rfl rfl rfl (c177 (d := d + 2) h)) ?_
      clear h
      rintro v9 M3 ⟨hl, r4, rfl, h⟩
      replace hM := lenT hM hl
      show R207 sl sx d M0 P 190 [some (vR (some l0)), some (vI l1), some (vI l2), some (vI l3), some (vI l4), none, none, none] [vI r4] M3
      exact RN_k (callX_det _) 1 _ _ _ _ (show rtW q207 M0 (PI P) (some (vI r4)) M3 from ⟨⟨_, rfl⟩, hM.1, hM.2, _, rfl, h⟩)
    · replace h := h.2 hc
      refine RN_k (callX_det _) 10 _ _ _ _ (show kd M1 l0 10 ∧ callX TBg sl sx (d + 3) 205 [vR (some l0), vI l1, vI (l4 - (1 : Int32)), vI l1, vI (l4 + (1 : Int32))] M1 (fun v M9 => R207 sl sx d M0 P 60 [some (vR (some l0)), some (vI l1), some (vI l2), some (vI l3), some (vI l4), none, none, none] (pushO v []) M9) from ⟨h.1, ?_⟩)
      replace h := h.2
      refine callX_mono (callX_len (d := (d + 3)) rfl rfl rfl (c205 (d := d) h)) ?_
      clear h
      rintro v9 M5 ⟨hl, r6, rfl, h⟩
      replace hM := lenT hM hl
      show R207 sl sx d M0 P 60 [some (vR (some l0)), some (vI l1), some (vI l2), some (vI l3), some (vI l4), none, none, none] [vI r6] M5
      refine RN_k (callX_det _) 5 _ _ _ _ (show kd M5 l0 10 ∧ callX TBg sl sx (d + 3) 184 [vR (some l0), vI l1, vI l4] M5 (fun v M9 => R207 sl sx d M0 P 69 [some (vR (some l0)), some (vI l1), some (vI l2), some (vI l3), some (vI l4), some (vI r6), none, none] (pushO v []) M9) from ⟨h.1, ?_⟩)
      replace h := h.2
      refine callX_mono (callX_len (d := (d + 3)) rfl rfl rfl (c184 (d := d + 1) h)) ?_
      clear h
      rintro v9 M7 ⟨hl, r8, rfl, h⟩
      replace hM := lenT hM hl
      show R207 sl sx d M0 P 69 [some (vR (some l0)), some (vI l1), some (vI l2), some (vI l3), some (vI l4), some (vI r6), none, none] [vI r8] M7
      refine RN_k (callX_det _) 6 _ _ _ _ (show kd M7 l0 10 ∧ callX TBg sl sx (d + 3) 184 [vR (some l0), vI l1, vI (l4 - (1 : Int32))] M7 (fun v M9 => R207 sl sx d M0 P 78 [some (vR (some l0)), some (vI l1), some (vI l2), some (vI l3), some (vI l4), some (vI r6), none, none] (pushO v [vI r8]) M9) from ⟨h.1, ?_⟩)
      replace h := h.2
      refine callX_mono (callX_len (d := (d + 3)) rfl rfl rfl (c184 (d := d + 1) h)) ?_
      clear h
      rintro v9 M9 ⟨hl, r10, rfl, h⟩
      replace hM := lenT hM hl
      show R207 sl sx d M0 P 78 [some (vR (some l0)), some (vI l1), some (vI l2), some (vI l3), some (vI l4), some (vI r6), none, none] [vI r10, vI r8] M9
      refine RN_k (callX_det _) 7 _ _ _ _ (show kd M9 l0 10 ∧ callX TBg sl sx (d + 3) 184 [vR (some l0), vI l1, vI (l4 + (1 : Int32))] M9 (fun v M9 => R207 sl sx d M0 P 88 [some (vR (some l0)), some (vI l1), some (vI l2), some (vI l3), some (vI l4), some (vI r6), none, none] (pushO v [vI (r8 - r10)]) M9) from ⟨h.1, ?_⟩)
      replace h := h.2
      refine callX_mono (callX_len (d := (d + 3)) rfl rfl rfl (c184 (d := d + 1) h)) ?_
      clear h
      rintro v9 M11 ⟨hl, r12, rfl, h⟩
      replace hM := lenT hM hl
      show R207 sl sx d M0 P 88 [some (vR (some l0)), some (vI l1), some (vI l2), some (vI l3), some (vI l4), some (vI r6), none, none] [vI r12, vI (r8 - r10)] M11
      refine RN_k (callX_det _) 4 _ _ _ _ (show kd M11 l0 10 ∧ callX TBg sl sx (d + 3) 184 [vR (some l0), vI l1, vI l4] M11 (fun v M9 => R207 sl sx d M0 P 95 [some (vR (some l0)), some (vI l1), some (vI l2), some (vI l3), some (vI l4), some (vI r6), none, none] (pushO v [vI r12, vI (r8 - r10)]) M9) from ⟨h.1, ?_⟩)
      replace h := h.2
      refine callX_mono (callX_len (d := (d + 3)) rfl rfl rfl (c184 (d := d + 1) h)) ?_
      clear h
      rintro v9 M13 ⟨hl, r14, rfl, h⟩
      replace hM := lenT hM hl
      show R207 sl sx d M0 P 95 [some (vR (some l0)), some (vI l1), some (vI l2), some (vI l3), some (vI l4), some (vI r6), none, none] [vI r14, vI r12, vI (r8 - r10)] M13
      refine RN_k (callX_det _) 6 _ _ _ _ (show kd M13 l0 10 ∧ callX TBg sl sx (d + 3) 185 [vR (some l0), vI l1, vI l4] M13 (fun v M9 => R207 sl sx d M0 P 104 [some (vR (some l0)), some (vI l1), some (vI l2), some (vI l3), some (vI l4), some (vI r6), none, none] (pushO v [vI ((r8 - r10) * (r12 - r14))]) M9) from ⟨h.1, ?_⟩)
      replace h := h.2
      refine callX_mono (callX_len (d := (d + 3)) rfl rfl rfl (c185 (d := d + 1) h)) ?_
      clear h
      rintro v9 M15 ⟨hl, r16, rfl, h⟩
      replace hM := lenT hM hl
      show R207 sl sx d M0 P 104 [some (vR (some l0)), some (vI l1), some (vI l2), some (vI l3), some (vI l4), some (vI r6), none, none] [vI r16, vI ((r8 - r10) * (r12 - r14))] M15
      refine RN_k (callX_det _) 6 _ _ _ _ (show kd M15 l0 10 ∧ callX TBg sl sx (d + 3) 185 [vR (some l0), vI l1, vI (l4 - (1 : Int32))] M15 (fun v M9 => R207 sl sx d M0 P 113 [some (vR (some l0)), some (vI l1), some (vI l2), some (vI l3), some (vI l4), some (vI r6), none, none] (pushO v [vI r16, vI ((r8 - r10) * (r12 - r14))]) M9) from ⟨h.1, ?_⟩)
      replace h := h.2
      refine callX_mono (callX_len (d := (d + 3)) rfl rfl rfl (c185 (d := d + 1) h)) ?_
      clear h
      rintro v9 M17 ⟨hl, r18, rfl, h⟩
      replace hM := lenT hM hl
      show R207 sl sx d M0 P 113 [some (vR (some l0)), some (vI l1), some (vI l2), some (vI l3), some (vI l4), some (vI r6), none, none] [vI r18, vI r16, vI ((r8 - r10) * (r12 - r14))] M17
      refine RN_k (callX_det _) 7 _ _ _ _ (show kd M17 l0 10 ∧ callX TBg sl sx (d + 3) 185 [vR (some l0), vI l1, vI (l4 + (1 : Int32))] M17 (fun v M9 => R207 sl sx d M0 P 123 [some (vR (some l0)), some (vI l1), some (vI l2), some (vI l3), some (vI l4), some (vI r6), none, none] (pushO v [vI (r16 - r18), vI ((r8 - r10) * (r12 - r14))]) M9) from ⟨h.1, ?_⟩)
      replace h := h.2
      refine callX_mono (callX_len (d := (d + 3)) rfl rfl rfl (c185 (d := d + 1) h)) ?_
      clear h
      rintro v9 M19 ⟨hl, r20, rfl, h⟩
      replace hM := lenT hM hl
      show R207 sl sx d M0 P 123 [some (vR (some l0)), some (vI l1), some (vI l2), some (vI l3), some (vI l4), some (vI r6), none, none] [vI r20, vI (r16 - r18), vI ((r8 - r10) * (r12 - r14))] M19
      refine RN_k (callX_det _) 4 _ _ _ _ (show kd M19 l0 10 ∧ callX TBg sl sx (d + 3) 185 [vR (some l0), vI l1, vI l4] M19 (fun v M9 => R207 sl sx d M0 P 130 [some (vR (some l0)), some (vI l1), some (vI l2), some (vI l3), some (vI l4), some (vI r6), none, none] (pushO v [vI r20, vI (r16 - r18), vI ((r8 - r10) * (r12 - r14))]) M9) from ⟨h.1, ?_⟩)
      replace h := h.2
      refine callX_mono (callX_len (d := (d + 3)) rfl rfl rfl (c185 (d := d + 1) h)) ?_
      clear h
      rintro v9 M21 ⟨hl, r22, rfl, h⟩
      replace hM := lenT hM hl
      show R207 sl sx d M0 P 130 [some (vR (some l0)), some (vI l1), some (vI l2), some (vI l3), some (vI l4), some (vI r6), none, none] [vI r22, vI r20, vI (r16 - r18), vI ((r8 - r10) * (r12 - r14))] M21
      refine RN_k (callX_det _) 6 _ _ _ _ (show (r6 ≤ 0 → R207 sl sx d M0 P 144 [some (vR (some l0)), some (vI l1), some (vI l2), some (vI l3), some (vI l4), some (vI r6), some (vI (((r8 - r10) * (r12 - r14)) + ((r16 - r18) * (r20 - r22)))), none] [] M21) ∧ (¬ (r6 ≤ 0) → R207 sl sx d M0 P 140 [some (vR (some l0)), some (vI l1), some (vI l2), some (vI l3), some (vI l4), some (vI r6), some (vI (((r8 - r10) * (r12 - r14)) + ((r16 - r18) * (r20 - r22)))), none] [] M21) from ⟨fun hc => ?_, fun hc => ?_⟩)
      · replace h := h.1 hc
        refine RN_k (callX_det _) 2 _ _ _ _ (show (0 ≤ r6 → R207 sl sx d M0 P 153 [some (vR (some l0)), some (vI l1), some (vI l2), some (vI l3), some (vI l4), some (vI r6), some (vI (((r8 - r10) * (r12 - r14)) + ((r16 - r18) * (r20 - r22)))), none] [] M21) ∧ (¬ (0 ≤ r6) → R207 sl sx d M0 P 149 [some (vR (some l0)), some (vI l1), some (vI l2), some (vI l3), some (vI l4), some (vI r6), some (vI (((r8 - r10) * (r12 - r14)) + ((r16 - r18) * (r20 - r22)))), none] [] M21) from ⟨fun hc => ?_, fun hc => ?_⟩)
        · replace h := h.1 hc
          refine RN_k (callX_det _) 2 _ _ _ _ (show ((((r8 - r10) * (r12 - r14)) + ((r16 - r18) * (r20 - r22))) ≤ 0 → R207 sl sx d M0 P 162 [some (vR (some l0)), some (vI l1), some (vI l2), some (vI l3), some (vI l4), some (vI r6), some (vI (((r8 - r10) * (r12 - r14)) + ((r16 - r18) * (r20 - r22)))), none] [] M21) ∧ (¬ ((((r8 - r10) * (r12 - r14)) + ((r16 - r18) * (r20 - r22))) ≤ 0) → R207 sl sx d M0 P 158 [some (vR (some l0)), some (vI l1), some (vI l2), some (vI l3), some (vI l4), some (vI r6), some (vI (((r8 - r10) * (r12 - r14)) + ((r16 - r18) * (r20 - r22)))), none] [] M21) from ⟨fun hc => ?_, fun hc => ?_⟩)
          · replace h := h.1 hc
            refine RN_k (callX_det _) 1 _ _ _ _ (show R207 sl sx d M0 P 163 [some (vR (some l0)), some (vI l1), some (vI l2), some (vI l3), some (vI l4), some (vI r6), some (vI (((r8 - r10) * (r12 - r14)) + ((r16 - r18) * (r20 - r22)))), none] [vI (3 : Int32)] M21 from ?_)
            exact RN_weak (K := [some (vR (some l0)), some (vI l1), some (vI l2), some (vI l3), some (vI l4), none, none, none]) (callX_det _) (show _ ∧ _ ∧ _ ∧ _ ∧ _ ∧ True from ⟨rfl, rfl, rfl, rfl, rfl, trivial⟩) (t207_163 ih l0 l1 l2 l3 l4 (3 : Int32) _ hM h)
          · replace h := h.2 hc
            refine RN_k (callX_det _) 2 _ _ _ _ (show R207 sl sx d M0 P 163 [some (vR (some l0)), some (vI l1), some (vI l2), some (vI l3), some (vI l4), some (vI r6), some (vI (((r8 - r10) * (r12 - r14)) + ((r16 - r18) * (r20 - r22)))), none] [vI (2 : Int32)] M21 from ?_)
            exact RN_weak (K := [some (vR (some l0)), some (vI l1), some (vI l2), some (vI l3), some (vI l4), none, none, none]) (callX_det _) (show _ ∧ _ ∧ _ ∧ _ ∧ _ ∧ True from ⟨rfl, rfl, rfl, rfl, rfl, trivial⟩) (t207_163 ih l0 l1 l2 l3 l4 (2 : Int32) _ hM h)
        · replace h := h.2 hc
          refine RN_k (callX_det _) 2 _ _ _ _ (show R207 sl sx d M0 P 163 [some (vR (some l0)), some (vI l1), some (vI l2), some (vI l3), some (vI l4), some (vI r6), some (vI (((r8 - r10) * (r12 - r14)) + ((r16 - r18) * (r20 - r22)))), none] [vI (1 : Int32)] M21 from ?_)
          exact RN_weak (K := [some (vR (some l0)), some (vI l1), some (vI l2), some (vI l3), some (vI l4), none, none, none]) (callX_det _) (show _ ∧ _ ∧ _ ∧ _ ∧ _ ∧ True from ⟨rfl, rfl, rfl, rfl, rfl, trivial⟩) (t207_163 ih l0 l1 l2 l3 l4 (1 : Int32) _ hM h)
      · replace h := h.2 hc
        refine RN_k (callX_det _) 2 _ _ _ _ (show R207 sl sx d M0 P 163 [some (vR (some l0)), some (vI l1), some (vI l2), some (vI l3), some (vI l4), some (vI r6), some (vI (((r8 - r10) * (r12 - r14)) + ((r16 - r18) * (r20 - r22)))), none] [vI (0 : Int32)] M21 from ?_)
        exact RN_weak (K := [some (vR (some l0)), some (vI l1), some (vI l2), some (vI l3), some (vI l4), none, none, none]) (callX_det _) (show _ ∧ _ ∧ _ ∧ _ ∧ _ ∧ True from ⟨rfl, rfl, rfl, rfl, rfl, trivial⟩) (t207_163 ih l0 l1 l2 l3 l4 (0 : Int32) _ hM h)
def w207 (l0 : Nat) (l1 : Int32) (l2 : Int32) (M : MM) (P : Int32 → MM → Prop) : Prop := w166 l2 (0 : Int32) (3 : Int32) M (fun r2 M1 => (r2 ≠ 0 → (kd M1 l0 10 ∧ w182 l0 l1 M1 (fun r4 M3 => (r4 ≠ 0 → (∃ n2, w207_34  n2 l0 l1 l2 (0 : Int32) (1 : Int32) M3 P)) ∧ (¬ (r4 ≠ 0) → (kd M3 l0 10 ∧ w167 l0 (2 : Int32) M3 (fun r6 M5 => P r6 M5)))))) ∧ (¬ (r2 ≠ 0) → (kd M1 l0 10 ∧ w167 l0 (1 : Int32) M1 (fun r8 M7 => P r8 M7))))
theorem t207_E {sl : Nat} {sx : Nat → Int32} {d : Nat} {M0 : MM} {P : Int32 → MM → Prop} (l0 : Nat) (l1 : Int32) (l2 : Int32) (M : MM) (hM : lenO M0 M) (h : w207  l0 l1 l2 M P) : R207 sl sx d M0 P 0 [some (vR (some l0)), some (vI l1), some (vI l2), none, none, none, none, none] [] M := by
  refine RN_k (callX_det _) 4 _ _ _ _ (show callX TBg sl sx (d + 3) 166 [vI l2, vI (0 : Int32), vI (3 : Int32)] M (fun v M9 => R207 sl sx d M0 P 6 [some (vR (some l0)), some (vI l1), some (vI l2), none, none, none, none, none] (pushO v []) M9) from ?_)
  refine callX_mono (callX_len (d := (d + 3)) rfl rfl rfl (c166 (d := d + 2) h)) ?_
  clear h
  rintro v9 M1 ⟨hl, r2, rfl, h⟩
  replace hM := lenT hM hl
  show R207 sl sx d M0 P 6 [some (vR (some l0)), some (vI l1), some (vI l2), none, none, none, none, none] [vI r2] M1
  refine RN_k (callX_det _) 1 _ _ _ _ (show (r2 ≠ 0 → R207 sl sx d M0 P 15 [some (vR (some l0)), some (vI l1), some (vI l2), none, none, none, none, none] [] M1) ∧ (¬ (r2 ≠ 0) → R207 sl sx d M0 P 9 [some (vR (some l0)), some (vI l1), some (vI l2), none, none, none, none, none] [] M1) from ⟨fun hc => ?_, fun hc => ?_⟩)
  · replace h := h.1 hc
    refine RN_k (callX_det _) 3 _ _ _ _ (show kd M1 l0 10 ∧ callX TBg sl sx (d + 3) 182 [vR (some l0), vI l1] M1 (fun v M9 => R207 sl sx d M0 P 20 [some (vR (some l0)), some (vI l1), some (vI l2), none, none, none, none, none] (pushO v []) M9) from ⟨h.1, ?_⟩)
    replace h := h.2
    refine callX_mono (callX_len (d := (d + 3)) rfl rfl rfl (c182 (d := d + 1) h)) ?_
    clear h
    rintro v9 M3 ⟨hl, r4, rfl, h⟩
    replace hM := lenT hM hl
    show R207 sl sx d M0 P 20 [some (vR (some l0)), some (vI l1), some (vI l2), none, none, none, none, none] [vI r4] M3
    refine RN_k (callX_det _) 1 _ _ _ _ (show (r4 ≠ 0 → R207 sl sx d M0 P 29 [some (vR (some l0)), some (vI l1), some (vI l2), none, none, none, none, none] [] M3) ∧ (¬ (r4 ≠ 0) → R207 sl sx d M0 P 23 [some (vR (some l0)), some (vI l1), some (vI l2), none, none, none, none, none] [] M3) from ⟨fun hc => ?_, fun hc => ?_⟩)
    · replace h := h.1 hc
      refine RN_k (callX_det _) 4 _ _ _ _ (show R207 sl sx d M0 P 34 [some (vR (some l0)), some (vI l1), some (vI l2), some (vI (0 : Int32)), some (vI (1 : Int32)), none, none, none] [] M3 from ?_)
      obtain ⟨n2, h⟩ := h
      exact RN_weak (K := [some (vR (some l0)), some (vI l1), some (vI l2), some (vI (0 : Int32)), some (vI (1 : Int32)), none, none, none]) (callX_det _) (show _ ∧ _ ∧ _ ∧ _ ∧ _ ∧ True from ⟨rfl, rfl, rfl, rfl, rfl, trivial⟩) (t207_34  n2 l0 l1 l2 (0 : Int32) (1 : Int32) _ hM h)
    · replace h := h.2 hc
      refine RN_k (callX_det _) 3 _ _ _ _ (show kd M3 l0 10 ∧ callX TBg sl sx (d + 3) 167 [vR (some l0), vI (2 : Int32)] M3 (fun v M9 => R207 sl sx d M0 P 28 [some (vR (some l0)), some (vI l1), some (vI l2), none, none, none, none, none] (pushO v []) M9) from ⟨h.1, ?_⟩)
      replace h := h.2
      refine callX_mono (callX_len (d := (d + 3)) rfl rfl rfl (c167 (d := d + 2) h)) ?_
      clear h
      rintro v9 M5 ⟨hl, r6, rfl, h⟩
      replace hM := lenT hM hl
      show R207 sl sx d M0 P 28 [some (vR (some l0)), some (vI l1), some (vI l2), none, none, none, none, none] [vI r6] M5
      exact RN_k (callX_det _) 1 _ _ _ _ (show rtW q207 M0 (PI P) (some (vI r6)) M5 from ⟨⟨_, rfl⟩, hM.1, hM.2, _, rfl, h⟩)
  · replace h := h.2 hc
    refine RN_k (callX_det _) 3 _ _ _ _ (show kd M1 l0 10 ∧ callX TBg sl sx (d + 3) 167 [vR (some l0), vI (1 : Int32)] M1 (fun v M9 => R207 sl sx d M0 P 14 [some (vR (some l0)), some (vI l1), some (vI l2), none, none, none, none, none] (pushO v []) M9) from ⟨h.1, ?_⟩)
    replace h := h.2
    refine callX_mono (callX_len (d := (d + 3)) rfl rfl rfl (c167 (d := d + 2) h)) ?_
    clear h
    rintro v9 M7 ⟨hl, r8, rfl, h⟩
    replace hM := lenT hM hl
    show R207 sl sx d M0 P 14 [some (vR (some l0)), some (vI l1), some (vI l2), none, none, none, none, none] [vI r8] M7
    exact RN_k (callX_det _) 1 _ _ _ _ (show rtW q207 M0 (PI P) (some (vI r8)) M7 from ⟨⟨_, rfl⟩, hM.1, hM.2, _, rfl, h⟩)
theorem c207 {sl : Nat} {sx : Nat → Int32} {d : Nat} {l0 : Nat} {l1 : Int32} {l2 : Int32} {M : MM} {P : Int32 → MM → Prop} (h : w207 l0 l1 l2 M P) : callX TBg sl sx (d + 4) 207 [vR (some l0), vI l1, vI l2] M (PI P) :=
  cX (d := d + 3) q207 (false, tb207) rfl rfl rfl (t207_E l0 l1 l2 M lenR h)
-- TwoLeashModel.isLeash(II)Z
abbrev q209 : MQ7 := (2, 0, 2, 10, 0, 0, 4)
abbrev R209 (sl : Nat) (sx : Nat → Int32) (d : Nat) (M0 : MM) (P : Int32 → MM → Prop) : Nat → LL → List VV → MM → Prop := RN 10 false (mS M0).length (mT M0) 0 0 sl sx (callX TBg sl sx (d + 1)) (rtW q209 M0 (PI P)) (as2 tb209)
def w209_27 (s0 : Int32) (M : MM) (P : Int32 → MM → Prop) : Prop := (s0 = 0 ∨ s0 = 1) ∧ P s0 M
theorem t209_27 {sl : Nat} {sx : Nat → Int32} {d : Nat} {M0 : MM} {P : Int32 → MM → Prop} (s0 : Int32) (M : MM) (hM : lenO M0 M) (h : w209_27  s0 M P) : R209 sl sx d M0 P 27 [none, none] [vI s0] M := by
  exact RN_k (callX_det _) 1 _ _ _ _ (show rtW q209 M0 (PI P) (some (vI s0)) M from ⟨⟨_, rfl, h.1⟩, hM.1, hM.2, _, rfl, h.2⟩)
def w209_26 (M : MM) (P : Int32 → MM → Prop) : Prop := w209_27  (0 : Int32) M P
theorem t209_26 {sl : Nat} {sx : Nat → Int32} {d : Nat} {M0 : MM} {P : Int32 → MM → Prop}  (M : MM) (hM : lenO M0 M) (h : w209_26   M P) : R209 sl sx d M0 P 26 [none, none] [] M := by
  refine RN_k (callX_det _) 1 _ _ _ _ (show R209 sl sx d M0 P 27 [none, none] [vI (0 : Int32)] M from ?_)
  exact RN_weak (K := [none, none]) (callX_det _) (show True from trivial) (t209_27  (0 : Int32) _ hM h)
def w209 (l0 : Int32) (l1 : Int32) (M : MM) (P : Int32 → MM → Prop) : Prop := w166 l0 (0 : Int32) (100000 : Int32) M (fun r2 M1 => (r2 = 0 → (w209_26  M1 P)) ∧ (¬ (r2 = 0) → (w166 l1 (1 : Int32) (1000 : Int32) M1 (fun r4 M3 => (r4 = 0 → (w209_26  M3 P)) ∧ (¬ (r4 = 0) → (w209_27  (1 : Int32) M3 P))))))
theorem t209_E {sl : Nat} {sx : Nat → Int32} {d : Nat} {M0 : MM} {P : Int32 → MM → Prop} (l0 : Int32) (l1 : Int32) (M : MM) (hM : lenO M0 M) (h : w209  l0 l1 M P) : R209 sl sx d M0 P 0 [some (vI l0), some (vI l1)] [] M := by
  refine RN_k (callX_det _) 4 _ _ _ _ (show callX TBg sl sx (d + 1) 166 [vI l0, vI (0 : Int32), vI (100000 : Int32)] M (fun v M9 => R209 sl sx d M0 P 8 [some (vI l0), some (vI l1)] (pushO v []) M9) from ?_)
  refine callX_mono (callX_len (d := (d + 1)) rfl rfl rfl (c166 (d := d) h)) ?_
  clear h
  rintro v9 M1 ⟨hl, r2, rfl, h⟩
  replace hM := lenT hM hl
  show R209 sl sx d M0 P 8 [some (vI l0), some (vI l1)] [vI r2] M1
  refine RN_k (callX_det _) 1 _ _ _ _ (show (r2 = 0 → R209 sl sx d M0 P 26 [some (vI l0), some (vI l1)] [] M1) ∧ (¬ (r2 = 0) → R209 sl sx d M0 P 11 [some (vI l0), some (vI l1)] [] M1) from ⟨fun hc => ?_, fun hc => ?_⟩)
  · replace h := h.1 hc
    exact RN_weak (K := [none, none]) (callX_det _) (show True from trivial) (t209_26   _ hM h)
  · replace h := h.2 hc
    refine RN_k (callX_det _) 4 _ _ _ _ (show callX TBg sl sx (d + 1) 166 [vI l1, vI (1 : Int32), vI (1000 : Int32)] M1 (fun v M9 => R209 sl sx d M0 P 19 [some (vI l0), some (vI l1)] (pushO v []) M9) from ?_)
    refine callX_mono (callX_len (d := (d + 1)) rfl rfl rfl (c166 (d := d) h)) ?_
    clear h
    rintro v9 M3 ⟨hl, r4, rfl, h⟩
    replace hM := lenT hM hl
    show R209 sl sx d M0 P 19 [some (vI l0), some (vI l1)] [vI r4] M3
    refine RN_k (callX_det _) 1 _ _ _ _ (show (r4 = 0 → R209 sl sx d M0 P 26 [some (vI l0), some (vI l1)] [] M3) ∧ (¬ (r4 = 0) → R209 sl sx d M0 P 22 [some (vI l0), some (vI l1)] [] M3) from ⟨fun hc => ?_, fun hc => ?_⟩)
    · replace h := h.1 hc
      exact RN_weak (K := [none, none]) (callX_det _) (show True from trivial) (t209_26   _ hM h)
    · replace h := h.2 hc
      refine RN_k (callX_det _) 2 _ _ _ _ (show R209 sl sx d M0 P 27 [some (vI l0), some (vI l1)] [vI (1 : Int32)] M3 from ?_)
      exact RN_weak (K := [none, none]) (callX_det _) (show True from trivial) (t209_27  (1 : Int32) _ hM h)
theorem c209 {sl : Nat} {sx : Nat → Int32} {d : Nat} {l0 : Int32} {l1 : Int32} {M : MM} {P : Int32 → MM → Prop} (h : w209 l0 l1 M P) : callX TBg sl sx (d + 2) 209 [vI l0, vI l1] M (PI P) :=
  cX (d := d + 1) q209 (false, tb209) rfl rfl rfl (t209_E l0 l1 M lenR h)
-- TwoLeashModel.whySide(IIZII)I
abbrev q210 : MQ7 := (6, 1, 7, 10, 0, 0, 1)
abbrev R210 (sl : Nat) (sx : Nat → Int32) (d : Nat) (M0 : MM) (P : Int32 → MM → Prop) : Nat → LL → List VV → MM → Prop := RN 10 false (mS M0).length (mT M0) 0 0 sl sx (callX TBg sl sx (d + 2)) (rtW q210 M0 (PI P)) (as2 tb210)
def w210_16 (M : MM) (P : Int32 → MM → Prop) : Prop := P (2 : Int32) M
theorem t210_16 {sl : Nat} {sx : Nat → Int32} {d : Nat} {M0 : MM} {P : Int32 → MM → Prop}  (M : MM) (hM : lenO M0 M) (h : w210_16   M P) : R210 sl sx d M0 P 16 [none, none, none, none, none, none, none] [] M := by
  exact RN_k (callX_det _) 2 _ _ _ _ (show rtW q210 M0 (PI P) (some (vI (2 : Int32))) M from ⟨⟨_, rfl⟩, hM.1, hM.2, _, rfl, h⟩)
def w210_120 (s0 : Int32) (M : MM) (P : Int32 → MM → Prop) : Prop := P s0 M
theorem t210_120 {sl : Nat} {sx : Nat → Int32} {d : Nat} {M0 : MM} {P : Int32 → MM → Prop} (s0 : Int32) (M : MM) (hM : lenO M0 M) (h : w210_120  s0 M P) : R210 sl sx d M0 P 120 [none, none, none, none, none, none, none] [vI s0] M := by
  exact RN_k (callX_det _) 1 _ _ _ _ (show rtW q210 M0 (PI P) (some (vI s0)) M from ⟨⟨_, rfl⟩, hM.1, hM.2, _, rfl, h⟩)
def w210_99 (l1 : Int32) (l2 : Int32) (s0 : Int32) (M : MM) (P : Int32 → MM → Prop) : Prop := (s0 ≠ 0 → ((l1 ≠ l2 → (w210_120  (0 : Int32) M P)) ∧ (¬ (l1 ≠ l2) → (w210_120  (4 : Int32) M P)))) ∧ (¬ (s0 ≠ 0) → (w210_120  (2 : Int32) M P))
theorem t210_99 {sl : Nat} {sx : Nat → Int32} {d : Nat} {M0 : MM} {P : Int32 → MM → Prop} (l1 : Int32) (l2 : Int32) (s0 : Int32) (M : MM) (hM : lenO M0 M) (h : w210_99  l1 l2 s0 M P) : R210 sl sx d M0 P 99 [none, some (vI l1), some (vI l2), none, none, none, none] [vI s0] M := by
  refine RN_k (callX_det _) 3 _ _ _ _ (show (s0 ≠ 0 → R210 sl sx d M0 P 110 [none, some (vI l1), some (vI l2), none, none, none, some (vI s0)] [] M) ∧ (¬ (s0 ≠ 0) → R210 sl sx d M0 P 106 [none, some (vI l1), some (vI l2), none, none, none, some (vI s0)] [] M) from ⟨fun hc => ?_, fun hc => ?_⟩)
  · replace h := h.1 hc
    refine RN_k (callX_det _) 3 _ _ _ _ (show (l1 ≠ l2 → R210 sl sx d M0 P 119 [none, some (vI l1), some (vI l2), none, none, none, some (vI s0)] [] M) ∧ (¬ (l1 ≠ l2) → R210 sl sx d M0 P 115 [none, some (vI l1), some (vI l2), none, none, none, some (vI s0)] [] M) from ⟨fun hc => ?_, fun hc => ?_⟩)
    · replace h := h.1 hc
      refine RN_k (callX_det _) 1 _ _ _ _ (show R210 sl sx d M0 P 120 [none, some (vI l1), some (vI l2), none, none, none, some (vI s0)] [vI (0 : Int32)] M from ?_)
      exact RN_weak (K := [none, none, none, none, none, none, none]) (callX_det _) (show True from trivial) (t210_120  (0 : Int32) _ hM h)
    · replace h := h.2 hc
      refine RN_k (callX_det _) 2 _ _ _ _ (show R210 sl sx d M0 P 120 [none, some (vI l1), some (vI l2), none, none, none, some (vI s0)] [vI (4 : Int32)] M from ?_)
      exact RN_weak (K := [none, none, none, none, none, none, none]) (callX_det _) (show True from trivial) (t210_120  (4 : Int32) _ hM h)
  · replace h := h.2 hc
    refine RN_k (callX_det _) 2 _ _ _ _ (show R210 sl sx d M0 P 120 [none, some (vI l1), some (vI l2), none, none, none, some (vI s0)] [vI (2 : Int32)] M from ?_)
    exact RN_weak (K := [none, none, none, none, none, none, none]) (callX_det _) (show True from trivial) (t210_120  (2 : Int32) _ hM h)
def w210_98 (l1 : Int32) (l2 : Int32) (M : MM) (P : Int32 → MM → Prop) : Prop := w210_99  l1 l2 (0 : Int32) M P
theorem t210_98 {sl : Nat} {sx : Nat → Int32} {d : Nat} {M0 : MM} {P : Int32 → MM → Prop} (l1 : Int32) (l2 : Int32) (M : MM) (hM : lenO M0 M) (h : w210_98  l1 l2 M P) : R210 sl sx d M0 P 98 [none, some (vI l1), some (vI l2), none, none, none, none] [] M := by
  refine RN_k (callX_det _) 1 _ _ _ _ (show R210 sl sx d M0 P 99 [none, some (vI l1), some (vI l2), none, none, none, none] [vI (0 : Int32)] M from ?_)
  exact RN_weak (K := [none, some (vI l1), some (vI l2), none, none, none, none]) (callX_det _) (show _ ∧ _ ∧ True from ⟨rfl, rfl, trivial⟩) (t210_99  l1 l2 (0 : Int32) _ hM h)
def w210_58 (l1 : Int32) (l2 : Int32) (M : MM) (P : Int32 → MM → Prop) : Prop := w210_99  l1 l2 (0 : Int32) M P
theorem t210_58 {sl : Nat} {sx : Nat → Int32} {d : Nat} {M0 : MM} {P : Int32 → MM → Prop} (l1 : Int32) (l2 : Int32) (M : MM) (hM : lenO M0 M) (h : w210_58  l1 l2 M P) : R210 sl sx d M0 P 58 [none, some (vI l1), some (vI l2), none, none, none, none] [] M := by
  refine RN_k (callX_det _) 2 _ _ _ _ (show R210 sl sx d M0 P 99 [none, some (vI l1), some (vI l2), none, none, none, none] [vI (0 : Int32)] M from ?_)
  exact RN_weak (K := [none, some (vI l1), some (vI l2), none, none, none, none]) (callX_det _) (show _ ∧ _ ∧ True from ⟨rfl, rfl, trivial⟩) (t210_99  l1 l2 (0 : Int32) _ hM h)
def w210 (l0 : Nat) (l1 : Int32) (l2 : Int32) (l3 : Int32) (l4 : Int32) (l5 : Int32) (M : MM) (P : Int32 → MM → Prop) : Prop := kd M l0 10 ∧ w182 l0 l1 M (fun r2 M1 => (r2 = 0 → (w210_16  M1 P)) ∧ (¬ (r2 = 0) → (kd M1 l0 10 ∧ w182 l0 l2 M1 (fun r4 M3 => (r4 ≠ 0 → ((l3 = 0 → (kd M3 l0 10 ∧ w180 l0 l1 M3 (fun r6 M5 => w166 l4 (0 : Int32) (r6 - (2 : Int32)) M5 (fun r8 M7 => (r8 = 0 → (w210_98  l1 l2 M7 P)) ∧ (¬ (r8 = 0) → (kd M7 l0 10 ∧ w180 l0 l2 M7 (fun r10 M9 => w166 l5 (0 : Int32) (r10 - (1 : Int32)) M9 (fun r12 M11 => (r12 = 0 → (w210_98  l1 l2 M11 P)) ∧ (¬ (r12 = 0) → (w210_99  l1 l2 (1 : Int32) M11 P)))))))))) ∧ (¬ (l3 = 0) → (kd M3 l0 10 ∧ w180 l0 l1 M3 (fun r14 M13 => w166 l4 (0 : Int32) (r14 - (1 : Int32)) M13 (fun r16 M15 => (r16 = 0 → (w210_58  l1 l2 M15 P)) ∧ (¬ (r16 = 0) → (kd M15 l0 10 ∧ w180 l0 l2 M15 (fun r18 M17 => w166 l5 (0 : Int32) (r18 - (2 : Int32)) M17 (fun r20 M19 => (r20 = 0 → (w210_58  l1 l2 M19 P)) ∧ (¬ (r20 = 0) → (w210_99  l1 l2 (1 : Int32) M19 P)))))))))))) ∧ (¬ (r4 ≠ 0) → (w210_16  M3 P))))))
theorem t210_E {sl : Nat} {sx : Nat → Int32} {d : Nat} {M0 : MM} {P : Int32 → MM → Prop} (l0 : Nat) (l1 : Int32) (l2 : Int32) (l3 : Int32) (l4 : Int32) (l5 : Int32) (M : MM) (hM : lenO M0 M) (h : w210  l0 l1 l2 l3 l4 l5 M P) : R210 sl sx d M0 P 0 [some (vR (some l0)), some (vI l1), some (vI l2), some (vI l3), some (vI l4), some (vI l5), none] [] M := by
  refine RN_k (callX_det _) 3 _ _ _ _ (show kd M l0 10 ∧ callX TBg sl sx (d + 2) 182 [vR (some l0), vI l1] M (fun v M9 => R210 sl sx d M0 P 5 [some (vR (some l0)), some (vI l1), some (vI l2), some (vI l3), some (vI l4), some (vI l5), none] (pushO v []) M9) from ⟨h.1, ?_⟩)
  replace h := h.2
  refine callX_mono (callX_len (d := (d + 2)) rfl rfl rfl (c182 (d := d) h)) ?_
  clear h
  rintro v9 M1 ⟨hl, r2, rfl, h⟩
  replace hM := lenT hM hl
  show R210 sl sx d M0 P 5 [some (vR (some l0)), some (vI l1), some (vI l2), some (vI l3), some (vI l4), some (vI l5), none] [vI r2] M1
  refine RN_k (callX_det _) 1 _ _ _ _ (show (r2 = 0 → R210 sl sx d M0 P 16 [some (vR (some l0)), some (vI l1), some (vI l2), some (vI l3), some (vI l4), some (vI l5), none] [] M1) ∧ (¬ (r2 = 0) → R210 sl sx d M0 P 8 [some (vR (some l0)), some (vI l1), some (vI l2), some (vI l3), some (vI l4), some (vI l5), none] [] M1) from ⟨fun hc => ?_, fun hc => ?_⟩)
  · replace h := h.1 hc
    exact RN_weak (K := [none, none, none, none, none, none, none]) (callX_det _) (show True from trivial) (t210_16   _ hM h)
  · replace h := h.2 hc
    refine RN_k (callX_det _) 3 _ _ _ _ (show kd M1 l0 10 ∧ callX TBg sl sx (d + 2) 182 [vR (some l0), vI l2] M1 (fun v M9 => R210 sl sx d M0 P 13 [some (vR (some l0)), some (vI l1), some (vI l2), some (vI l3), some (vI l4), some (vI l5), none] (pushO v []) M9) from ⟨h.1, ?_⟩)
    replace h := h.2
    refine callX_mono (callX_len (d := (d + 2)) rfl rfl rfl (c182 (d := d) h)) ?_
    clear h
    rintro v9 M3 ⟨hl, r4, rfl, h⟩
    replace hM := lenT hM hl
    show R210 sl sx d M0 P 13 [some (vR (some l0)), some (vI l1), some (vI l2), some (vI l3), some (vI l4), some (vI l5), none] [vI r4] M3
    refine RN_k (callX_det _) 1 _ _ _ _ (show (r4 ≠ 0 → R210 sl sx d M0 P 18 [some (vR (some l0)), some (vI l1), some (vI l2), some (vI l3), some (vI l4), some (vI l5), none] [] M3) ∧ (¬ (r4 ≠ 0) → R210 sl sx d M0 P 16 [some (vR (some l0)), some (vI l1), some (vI l2), some (vI l3), some (vI l4), some (vI l5), none] [] M3) from ⟨fun hc => ?_, fun hc => ?_⟩)
    · replace h := h.1 hc
      refine RN_k (callX_det _) 2 _ _ _ _ (show (l3 = 0 → R210 sl sx d M0 P 62 [some (vR (some l0)), some (vI l1), some (vI l2), some (vI l3), some (vI l4), some (vI l5), none] [] M3) ∧ (¬ (l3 = 0) → R210 sl sx d M0 P 22 [some (vR (some l0)), some (vI l1), some (vI l2), some (vI l3), some (vI l4), some (vI l5), none] [] M3) from ⟨fun hc => ?_, fun hc => ?_⟩)
      · replace h := h.1 hc
        refine RN_k (callX_det _) 5 _ _ _ _ (show kd M3 l0 10 ∧ callX TBg sl sx (d + 2) 180 [vR (some l0), vI l1] M3 (fun v M9 => R210 sl sx d M0 P 70 [some (vR (some l0)), some (vI l1), some (vI l2), some (vI l3), some (vI l4), some (vI l5), none] (pushO v [vI (0 : Int32), vI l4]) M9) from ⟨h.1, ?_⟩)
        replace h := h.2
        refine callX_mono (callX_len (d := (d + 2)) rfl rfl rfl (c180 (d := d) h)) ?_
        clear h
        rintro v9 M5 ⟨hl, r6, rfl, h⟩
        replace hM := lenT hM hl
        show R210 sl sx d M0 P 70 [some (vR (some l0)), some (vI l1), some (vI l2), some (vI l3), some (vI l4), some (vI l5), none] [vI r6, vI (0 : Int32), vI l4] M5
        refine RN_k (callX_det _) 3 _ _ _ _ (show callX TBg sl sx (d + 2) 166 [vI l4, vI (0 : Int32), vI (r6 - (2 : Int32))] M5 (fun v M9 => R210 sl sx d M0 P 75 [some (vR (some l0)), some (vI l1), some (vI l2), some (vI l3), some (vI l4), some (vI l5), none] (pushO v []) M9) from ?_)
        refine callX_mono (callX_len (d := (d + 2)) rfl rfl rfl (c166 (d := d + 1) h)) ?_
        clear h
        rintro v9 M7 ⟨hl, r8, rfl, h⟩
        replace hM := lenT hM hl
        show R210 sl sx d M0 P 75 [some (vR (some l0)), some (vI l1), some (vI l2), some (vI l3), some (vI l4), some (vI l5), none] [vI r8] M7
        refine RN_k (callX_det _) 1 _ _ _ _ (show (r8 = 0 → R210 sl sx d M0 P 98 [some (vR (some l0)), some (vI l1), some (vI l2), some (vI l3), some (vI l4), some (vI l5), none] [] M7) ∧ (¬ (r8 = 0) → R210 sl sx d M0 P 78 [some (vR (some l0)), some (vI l1), some (vI l2), some (vI l3), some (vI l4), some (vI l5), none] [] M7) from ⟨fun hc => ?_, fun hc => ?_⟩)
        · replace h := h.1 hc
          exact RN_weak (K := [none, some (vI l1), some (vI l2), none, none, none, none]) (callX_det _) (show _ ∧ _ ∧ True from ⟨rfl, rfl, trivial⟩) (t210_98  l1 l2 _ hM h)
        · replace h := h.2 hc
          refine RN_k (callX_det _) 5 _ _ _ _ (show kd M7 l0 10 ∧ callX TBg sl sx (d + 2) 180 [vR (some l0), vI l2] M7 (fun v M9 => R210 sl sx d M0 P 86 [some (vR (some l0)), some (vI l1), some (vI l2), some (vI l3), some (vI l4), some (vI l5), none] (pushO v [vI (0 : Int32), vI l5]) M9) from ⟨h.1, ?_⟩)
          replace h := h.2
          refine callX_mono (callX_len (d := (d + 2)) rfl rfl rfl (c180 (d := d) h)) ?_
          clear h
          rintro v9 M9 ⟨hl, r10, rfl, h⟩
          replace hM := lenT hM hl
          show R210 sl sx d M0 P 86 [some (vR (some l0)), some (vI l1), some (vI l2), some (vI l3), some (vI l4), some (vI l5), none] [vI r10, vI (0 : Int32), vI l5] M9
          refine RN_k (callX_det _) 3 _ _ _ _ (show callX TBg sl sx (d + 2) 166 [vI l5, vI (0 : Int32), vI (r10 - (1 : Int32))] M9 (fun v M9 => R210 sl sx d M0 P 91 [some (vR (some l0)), some (vI l1), some (vI l2), some (vI l3), some (vI l4), some (vI l5), none] (pushO v []) M9) from ?_)
          refine callX_mono (callX_len (d := (d + 2)) rfl rfl rfl (c166 (d := d + 1) h)) ?_
          clear h
          rintro v9 M11 ⟨hl, r12, rfl, h⟩
          replace hM := lenT hM hl
          show R210 sl sx d M0 P 91 [some (vR (some l0)), some (vI l1), some (vI l2), some (vI l3), some (vI l4), some (vI l5), none] [vI r12] M11
          refine RN_k (callX_det _) 1 _ _ _ _ (show (r12 = 0 → R210 sl sx d M0 P 98 [some (vR (some l0)), some (vI l1), some (vI l2), some (vI l3), some (vI l4), some (vI l5), none] [] M11) ∧ (¬ (r12 = 0) → R210 sl sx d M0 P 94 [some (vR (some l0)), some (vI l1), some (vI l2), some (vI l3), some (vI l4), some (vI l5), none] [] M11) from ⟨fun hc => ?_, fun hc => ?_⟩)
          · replace h := h.1 hc
            exact RN_weak (K := [none, some (vI l1), some (vI l2), none, none, none, none]) (callX_det _) (show _ ∧ _ ∧ True from ⟨rfl, rfl, trivial⟩) (t210_98  l1 l2 _ hM h)
          · replace h := h.2 hc
            refine RN_k (callX_det _) 2 _ _ _ _ (show R210 sl sx d M0 P 99 [some (vR (some l0)), some (vI l1), some (vI l2), some (vI l3), some (vI l4), some (vI l5), none] [vI (1 : Int32)] M11 from ?_)
            exact RN_weak (K := [none, some (vI l1), some (vI l2), none, none, none, none]) (callX_det _) (show _ ∧ _ ∧ True from ⟨rfl, rfl, trivial⟩) (t210_99  l1 l2 (1 : Int32) _ hM h)
      · replace h := h.2 hc
        refine RN_k (callX_det _) 5 _ _ _ _ (show kd M3 l0 10 ∧ callX TBg sl sx (d + 2) 180 [vR (some l0), vI l1] M3 (fun v M9 => R210 sl sx d M0 P 30 [some (vR (some l0)), some (vI l1), some (vI l2), some (vI l3), some (vI l4), some (vI l5), none] (pushO v [vI (0 : Int32), vI l4]) M9) from ⟨h.1, ?_⟩)
        replace h := h.2
        refine callX_mono (callX_len (d := (d + 2)) rfl rfl rfl (c180 (d := d) h)) ?_
        clear h
        rintro v9 M13 ⟨hl, r14, rfl, h⟩
        replace hM := lenT hM hl
        show R210 sl sx d M0 P 30 [some (vR (some l0)), some (vI l1), some (vI l2), some (vI l3), some (vI l4), some (vI l5), none] [vI r14, vI (0 : Int32), vI l4] M13
        refine RN_k (callX_det _) 3 _ _ _ _ (show callX TBg sl sx (d + 2) 166 [vI l4, vI (0 : Int32), vI (r14 - (1 : Int32))] M13 (fun v M9 => R210 sl sx d M0 P 35 [some (vR (some l0)), some (vI l1), some (vI l2), some (vI l3), some (vI l4), some (vI l5), none] (pushO v []) M9) from ?_)
        refine callX_mono (callX_len (d := (d + 2)) rfl rfl rfl (c166 (d := d + 1) h)) ?_
        clear h
        rintro v9 M15 ⟨hl, r16, rfl, h⟩
        replace hM := lenT hM hl
        show R210 sl sx d M0 P 35 [some (vR (some l0)), some (vI l1), some (vI l2), some (vI l3), some (vI l4), some (vI l5), none] [vI r16] M15
        refine RN_k (callX_det _) 1 _ _ _ _ (show (r16 = 0 → R210 sl sx d M0 P 58 [some (vR (some l0)), some (vI l1), some (vI l2), some (vI l3), some (vI l4), some (vI l5), none] [] M15) ∧ (¬ (r16 = 0) → R210 sl sx d M0 P 38 [some (vR (some l0)), some (vI l1), some (vI l2), some (vI l3), some (vI l4), some (vI l5), none] [] M15) from ⟨fun hc => ?_, fun hc => ?_⟩)
        · replace h := h.1 hc
          exact RN_weak (K := [none, some (vI l1), some (vI l2), none, none, none, none]) (callX_det _) (show _ ∧ _ ∧ True from ⟨rfl, rfl, trivial⟩) (t210_58  l1 l2 _ hM h)
        · replace h := h.2 hc
          refine RN_k (callX_det _) 5 _ _ _ _ (show kd M15 l0 10 ∧ callX TBg sl sx (d + 2) 180 [vR (some l0), vI l2] M15 (fun v M9 => R210 sl sx d M0 P 46 [some (vR (some l0)), some (vI l1), some (vI l2), some (vI l3), some (vI l4), some (vI l5), none] (pushO v [vI (0 : Int32), vI l5]) M9) from ⟨h.1, ?_⟩)
          replace h := h.2
          refine callX_mono (callX_len (d := (d + 2)) rfl rfl rfl (c180 (d := d) h)) ?_
          clear h
          rintro v9 M17 ⟨hl, r18, rfl, h⟩
          replace hM := lenT hM hl
          show R210 sl sx d M0 P 46 [some (vR (some l0)), some (vI l1), some (vI l2), some (vI l3), some (vI l4), some (vI l5), none] [vI r18, vI (0 : Int32), vI l5] M17
          refine RN_k (callX_det _) 3 _ _ _ _ (show callX TBg sl sx (d + 2) 166 [vI l5, vI (0 : Int32), vI (r18 - (2 : Int32))] M17 (fun v M9 => R210 sl sx d M0 P 51 [some (vR (some l0)), some (vI l1), some (vI l2), some (vI l3), some (vI l4), some (vI l5), none] (pushO v []) M9) from ?_)
          refine callX_mono (callX_len (d := (d + 2)) rfl rfl rfl (c166 (d := d + 1) h)) ?_
          clear h
          rintro v9 M19 ⟨hl, r20, rfl, h⟩
          replace hM := lenT hM hl
          show R210 sl sx d M0 P 51 [some (vR (some l0)), some (vI l1), some (vI l2), some (vI l3), some (vI l4), some (vI l5), none] [vI r20] M19
          refine RN_k (callX_det _) 1 _ _ _ _ (show (r20 = 0 → R210 sl sx d M0 P 58 [some (vR (some l0)), some (vI l1), some (vI l2), some (vI l3), some (vI l4), some (vI l5), none] [] M19) ∧ (¬ (r20 = 0) → R210 sl sx d M0 P 54 [some (vR (some l0)), some (vI l1), some (vI l2), some (vI l3), some (vI l4), some (vI l5), none] [] M19) from ⟨fun hc => ?_, fun hc => ?_⟩)
          · replace h := h.1 hc
            exact RN_weak (K := [none, some (vI l1), some (vI l2), none, none, none, none]) (callX_det _) (show _ ∧ _ ∧ True from ⟨rfl, rfl, trivial⟩) (t210_58  l1 l2 _ hM h)
          · replace h := h.2 hc
            refine RN_k (callX_det _) 2 _ _ _ _ (show R210 sl sx d M0 P 99 [some (vR (some l0)), some (vI l1), some (vI l2), some (vI l3), some (vI l4), some (vI l5), none] [vI (1 : Int32)] M19 from ?_)
            exact RN_weak (K := [none, some (vI l1), some (vI l2), none, none, none, none]) (callX_det _) (show _ ∧ _ ∧ True from ⟨rfl, rfl, trivial⟩) (t210_99  l1 l2 (1 : Int32) _ hM h)
    · replace h := h.2 hc
      exact RN_weak (K := [none, none, none, none, none, none, none]) (callX_det _) (show True from trivial) (t210_16   _ hM h)
theorem c210 {sl : Nat} {sx : Nat → Int32} {d : Nat} {l0 : Nat} {l1 : Int32} {l2 : Int32} {l3 : Int32} {l4 : Int32} {l5 : Int32} {M : MM} {P : Int32 → MM → Prop} (h : w210 l0 l1 l2 l3 l4 l5 M P) : callX TBg sl sx (d + 3) 210 [vR (some l0), vI l1, vI l2, vI l3, vI l4, vI l5] M (PI P) :=
  cX (d := d + 2) q210 (false, tb210) rfl rfl rfl (t210_E l0 l1 l2 l3 l4 l5 M lenR h)
-- TwoLeashModel.laysFirst(III)V
abbrev q212 : MQ7 := (4, 1, 5, 10, 0, 0, 0)
abbrev R212 (sl : Nat) (sx : Nat → Int32) (d : Nat) (M0 : MM) (P : MM → Prop) : Nat → LL → List VV → MM → Prop := RN 10 false (mS M0).length (mT M0) 0 0 sl sx (callX TBg sl sx (d + 2)) (rtW q212 M0 (PV P)) (as2 tb212)
def w212_56 (k8 : Nat → Int32 → Int32 → Int32 → MM → Prop) (l0 : Nat) (l1 : Int32) (l3 : Int32) (l4 : Int32) (M : MM) (P : MM → Prop) : Prop := k8 l0 l1 l3 (l4 + (1 : Int32)) M
theorem t212_56 {sl : Nat} {sx : Nat → Int32} {d : Nat} {M0 : MM} {P : MM → Prop} {k8 : Nat → Int32 → Int32 → Int32 → MM → Prop} (hk8 : ∀ (l0 : Nat) (l1 : Int32) (l3 : Int32) (l4 : Int32) (M : MM), lenO M0 M → k8 l0 l1 l3 l4 M → R212 sl sx d M0 P 8 [some (vR (some l0)), some (vI l1), none, some (vI l3), some (vI l4)] [] M) (l0 : Nat) (l1 : Int32) (l3 : Int32) (l4 : Int32) (M : MM) (hM : lenO M0 M) (h : w212_56 k8 l0 l1 l3 l4 M P) : R212 sl sx d M0 P 56 [some (vR (some l0)), some (vI l1), none, some (vI l3), some (vI l4)] [] M := by
  refine RN_k (callX_det _) 2 _ _ _ _ (show R212 sl sx d M0 P 8 [some (vR (some l0)), some (vI l1), none, some (vI l3), some (vI (l4 + (1 : Int32)))] [] M from ?_)
  exact RN_weak (K := [some (vR (some l0)), some (vI l1), none, some (vI l3), some (vI (l4 + (1 : Int32)))]) (callX_det _) (show _ ∧ _ ∧ _ ∧ _ ∧ True from ⟨rfl, rfl, rfl, rfl, trivial⟩) (hk8 l0 l1 l3 (l4 + (1 : Int32)) _ hM h)
def w212_8 : Nat → Nat → Int32 → Int32 → Int32 → MM → (MM → Prop) → Prop
  | 0 => fun _ _ _ _ _ _ => False
  | n + 1 => fun l0 l1 l3 l4 M P => (l3 < l4 → (P M)) ∧ (¬ (l3 < l4) → (kd M l0 10 ∧ (kd M l0 10 ∧ (kd M l0 10 ∧ w184 l0 l1 l4 M (fun r2 M1 => ∃ a3, mR M l0 23 = some a3 ∧ (inb M1 a3 11 (mI M l0 27) ∧ (kd (sI M1 a3 (mI M l0 27).toNatClampNeg r2) l0 10 ∧ (kd (sI M1 a3 (mI M l0 27).toNatClampNeg r2) l0 10 ∧ (kd (sI M1 a3 (mI M l0 27).toNatClampNeg r2) l0 10 ∧ w185 l0 l1 l4 (sI M1 a3 (mI M l0 27).toNatClampNeg r2) (fun r5 M4 => ∃ a6, mR (sI M1 a3 (mI M l0 27).toNatClampNeg r2) l0 24 = some a6 ∧ (inb M4 a6 11 (mI (sI M1 a3 (mI M l0 27).toNatClampNeg r2) l0 27) ∧ (kd (sI M4 a6 (mI (sI M1 a3 (mI M l0 27).toNatClampNeg r2) l0 27).toNatClampNeg r5) l0 10 ∧ (kd (sI M4 a6 (mI (sI M1 a3 (mI M l0 27).toNatClampNeg r2) l0 27).toNatClampNeg r5) l0 10 ∧ (w212_56 (fun z0 z1 z2 z3 z4 => w212_8  n z0 z1 z2 z3 z4 P) l0 l1 l3 l4 (sI (sI M4 a6 (mI (sI M1 a3 (mI M l0 27).toNatClampNeg r2) l0 27).toNatClampNeg r5) l0 27 ((mI (sI M4 a6 (mI (sI M1 a3 (mI M l0 27).toNatClampNeg r2) l0 27).toNatClampNeg r5) l0 27) + (1 : Int32))) P))))))))))))))
theorem t212_8 {sl : Nat} {sx : Nat → Int32} {d : Nat} {M0 : MM} {P : MM → Prop} (n : Nat) : ∀ (l0 : Nat) (l1 : Int32) (l3 : Int32) (l4 : Int32) (M : MM) (_ : lenO M0 M) (_ : w212_8  n l0 l1 l3 l4 M P), R212 sl sx d M0 P 8 [some (vR (some l0)), some (vI l1), none, some (vI l3), some (vI l4)] [] M := by
  induction n with
  | zero => intro l0 l1 l3 l4 M hM h; cases h
  | succ n ih =>
    intro l0 l1 l3 l4 M hM h
    refine RN_k (callX_det _) 3 _ _ _ _ (show (l3 < l4 → R212 sl sx d M0 P 62 [some (vR (some l0)), some (vI l1), none, some (vI l3), some (vI l4)] [] M) ∧ (¬ (l3 < l4) → R212 sl sx d M0 P 14 [some (vR (some l0)), some (vI l1), none, some (vI l3), some (vI l4)] [] M) from ⟨fun hc => ?_, fun hc => ?_⟩)
    · replace h := h.1 hc
      exact RN_k (callX_det _) 1 _ _ _ _ (show rtW q212 M0 (PV P) none M from ⟨rfl, hM.1, hM.2, rfl, h⟩)
    · replace h := h.2 hc
      refine RN_k (callX_det _) 2 _ _ _ _ (show kd M l0 10 ∧ R212 sl sx d M0 P 18 [some (vR (some l0)), some (vI l1), none, some (vI l3), some (vI l4)] [vR (mR M l0 23)] M from ⟨h.1, ?_⟩)
      replace h := h.2
      refine RN_k (callX_det _) 2 _ _ _ _ (show kd M l0 10 ∧ R212 sl sx d M0 P 22 [some (vR (some l0)), some (vI l1), none, some (vI l3), some (vI l4)] [vI (mI M l0 27), vR (mR M l0 23)] M from ⟨h.1, ?_⟩)
      replace h := h.2
      refine RN_k (callX_det _) 4 _ _ _ _ (show kd M l0 10 ∧ callX TBg sl sx (d + 2) 184 [vR (some l0), vI l1, vI l4] M (fun v M9 => R212 sl sx d M0 P 29 [some (vR (some l0)), some (vI l1), none, some (vI l3), some (vI l4)] (pushO v [vI (mI M l0 27), vR (mR M l0 23)]) M9) from ⟨h.1, ?_⟩)
      replace h := h.2
      refine callX_mono (callX_len (d := (d + 2)) rfl rfl rfl (c184 (d := d) h)) ?_
      clear h
      rintro v9 M1 ⟨hl, r2, rfl, h⟩
      replace hM := lenT hM hl
      show R212 sl sx d M0 P 29 [some (vR (some l0)), some (vI l1), none, some (vI l3), some (vI l4)] [vI r2, vI (mI M l0 27), vR (mR M l0 23)] M1
      obtain ⟨a3, he, h⟩ := h
      rw [he]
      refine RN_k (callX_det _) 1 _ _ _ _ (show inb M1 a3 11 (mI M l0 27) ∧ R212 sl sx d M0 P 30 [some (vR (some l0)), some (vI l1), none, some (vI l3), some (vI l4)] [] (sI M1 a3 (mI M l0 27).toNatClampNeg r2) from ⟨h.1, ?_⟩)
      replace h := h.2
      refine RN_k (callX_det _) 2 _ _ _ _ (show kd (sI M1 a3 (mI M l0 27).toNatClampNeg r2) l0 10 ∧ R212 sl sx d M0 P 34 [some (vR (some l0)), some (vI l1), none, some (vI l3), some (vI l4)] [vR (mR (sI M1 a3 (mI M l0 27).toNatClampNeg r2) l0 24)] (sI M1 a3 (mI M l0 27).toNatClampNeg r2) from ⟨h.1, ?_⟩)
      replace h := h.2
      refine RN_k (callX_det _) 2 _ _ _ _ (show kd (sI M1 a3 (mI M l0 27).toNatClampNeg r2) l0 10 ∧ R212 sl sx d M0 P 38 [some (vR (some l0)), some (vI l1), none, some (vI l3), some (vI l4)] [vI (mI (sI M1 a3 (mI M l0 27).toNatClampNeg r2) l0 27), vR (mR (sI M1 a3 (mI M l0 27).toNatClampNeg r2) l0 24)] (sI M1 a3 (mI M l0 27).toNatClampNeg r2) from ⟨h.1, ?_⟩)
      replace h := h.2
      refine RN_k (callX_det _) 4 _ _ _ _ (show kd (sI M1 a3 (mI M l0 27).toNatClampNeg r2) l0 10 ∧ callX TBg sl sx (d + 2) 185 [vR (some l0), vI l1, vI l4] (sI M1 a3 (mI M l0 27).toNatClampNeg r2) (fun v M9 => R212 sl sx d M0 P 45 [some (vR (some l0)), some (vI l1), none, some (vI l3), some (vI l4)] (pushO v [vI (mI (sI M1 a3 (mI M l0 27).toNatClampNeg r2) l0 27), vR (mR (sI M1 a3 (mI M l0 27).toNatClampNeg r2) l0 24)]) M9) from ⟨h.1, ?_⟩)
      replace h := h.2
      refine callX_mono (callX_len (d := (d + 2)) rfl rfl rfl (c185 (d := d) h)) ?_
      clear h
      rintro v9 M4 ⟨hl, r5, rfl, h⟩
      replace hM := lenT hM hl
      show R212 sl sx d M0 P 45 [some (vR (some l0)), some (vI l1), none, some (vI l3), some (vI l4)] [vI r5, vI (mI (sI M1 a3 (mI M l0 27).toNatClampNeg r2) l0 27), vR (mR (sI M1 a3 (mI M l0 27).toNatClampNeg r2) l0 24)] M4
      obtain ⟨a6, he, h⟩ := h
      rw [he]
      refine RN_k (callX_det _) 1 _ _ _ _ (show inb M4 a6 11 (mI (sI M1 a3 (mI M l0 27).toNatClampNeg r2) l0 27) ∧ R212 sl sx d M0 P 46 [some (vR (some l0)), some (vI l1), none, some (vI l3), some (vI l4)] [] (sI M4 a6 (mI (sI M1 a3 (mI M l0 27).toNatClampNeg r2) l0 27).toNatClampNeg r5) from ⟨h.1, ?_⟩)
      replace h := h.2
      refine RN_k (callX_det _) 3 _ _ _ _ (show kd (sI M4 a6 (mI (sI M1 a3 (mI M l0 27).toNatClampNeg r2) l0 27).toNatClampNeg r5) l0 10 ∧ R212 sl sx d M0 P 51 [some (vR (some l0)), some (vI l1), none, some (vI l3), some (vI l4)] [vI (mI (sI M4 a6 (mI (sI M1 a3 (mI M l0 27).toNatClampNeg r2) l0 27).toNatClampNeg r5) l0 27), vR (some l0)] (sI M4 a6 (mI (sI M1 a3 (mI M l0 27).toNatClampNeg r2) l0 27).toNatClampNeg r5) from ⟨h.1, ?_⟩)
      replace h := h.2
      refine RN_k (callX_det _) 3 _ _ _ _ (show kd (sI M4 a6 (mI (sI M1 a3 (mI M l0 27).toNatClampNeg r2) l0 27).toNatClampNeg r5) l0 10 ∧ R212 sl sx d M0 P 56 [some (vR (some l0)), some (vI l1), none, some (vI l3), some (vI l4)] [] (sI (sI M4 a6 (mI (sI M1 a3 (mI M l0 27).toNatClampNeg r2) l0 27).toNatClampNeg r5) l0 27 ((mI (sI M4 a6 (mI (sI M1 a3 (mI M l0 27).toNatClampNeg r2) l0 27).toNatClampNeg r5) l0 27) + (1 : Int32))) from ⟨h.1, ?_⟩)
      replace h := h.2
      exact RN_weak (K := [some (vR (some l0)), some (vI l1), none, some (vI l3), some (vI l4)]) (callX_det _) (show _ ∧ _ ∧ _ ∧ _ ∧ True from ⟨rfl, rfl, rfl, rfl, trivial⟩) (t212_56 ih l0 l1 l3 l4 _ hM h)
def w212 (l0 : Nat) (l1 : Int32) (l2 : Int32) (l3 : Int32) (M : MM) (P : MM → Prop) : Prop := kd M l0 10 ∧ (∃ n2, w212_8  n2 l0 l1 l3 l2 (sI M l0 27 (0 : Int32)) P)
theorem t212_E {sl : Nat} {sx : Nat → Int32} {d : Nat} {M0 : MM} {P : MM → Prop} (l0 : Nat) (l1 : Int32) (l2 : Int32) (l3 : Int32) (M : MM) (hM : lenO M0 M) (h : w212  l0 l1 l2 l3 M P) : R212 sl sx d M0 P 0 [some (vR (some l0)), some (vI l1), some (vI l2), some (vI l3), none] [] M := by
  refine RN_k (callX_det _) 3 _ _ _ _ (show kd M l0 10 ∧ R212 sl sx d M0 P 5 [some (vR (some l0)), some (vI l1), some (vI l2), some (vI l3), none] [] (sI M l0 27 (0 : Int32)) from ⟨h.1, ?_⟩)
  replace h := h.2
  refine RN_k (callX_det _) 2 _ _ _ _ (show R212 sl sx d M0 P 8 [some (vR (some l0)), some (vI l1), some (vI l2), some (vI l3), some (vI l2)] [] (sI M l0 27 (0 : Int32)) from ?_)
  obtain ⟨n2, h⟩ := h
  exact RN_weak (K := [some (vR (some l0)), some (vI l1), none, some (vI l3), some (vI l2)]) (callX_det _) (show _ ∧ _ ∧ _ ∧ _ ∧ True from ⟨rfl, rfl, rfl, rfl, trivial⟩) (t212_8  n2 l0 l1 l3 l2 _ hM h)
theorem c212 {sl : Nat} {sx : Nat → Int32} {d : Nat} {l0 : Nat} {l1 : Int32} {l2 : Int32} {l3 : Int32} {M : MM} {P : MM → Prop} (h : w212 l0 l1 l2 l3 M P) : callX TBg sl sx (d + 3) 212 [vR (some l0), vI l1, vI l2, vI l3] M (PV P) :=
  cX (d := d + 2) q212 (false, tb212) rfl rfl rfl (t212_E l0 l1 l2 l3 M lenR h)
-- TwoLeashModel.putsOther(II)V
abbrev q214 : MQ7 := (3, 1, 3, 10, 0, 0, 0)
abbrev R214 (sl : Nat) (sx : Nat → Int32) (d : Nat) (M0 : MM) (P : MM → Prop) : Nat → LL → List VV → MM → Prop := RN 10 false (mS M0).length (mT M0) 0 0 sl sx (callX TBg sl sx (d + 2)) (rtW q214 M0 (PV P)) (as2 tb214)
def w214_40 (M : MM) (P : MM → Prop) : Prop := P M
theorem t214_40 {sl : Nat} {sx : Nat → Int32} {d : Nat} {M0 : MM} {P : MM → Prop}  (M : MM) (hM : lenO M0 M) (h : w214_40   M P) : R214 sl sx d M0 P 40 [none, none, none] [] M := by
  exact RN_k (callX_det _) 1 _ _ _ _ (show rtW q214 M0 (PV P) none M from ⟨rfl, hM.1, hM.2, rfl, h⟩)
def w214 (l0 : Nat) (l1 : Int32) (l2 : Int32) (M : MM) (P : MM → Prop) : Prop := kd M l0 10 ∧ (kd M l0 10 ∧ (kd M l0 10 ∧ w184 l0 l1 l2 M (fun r2 M1 => ∃ a3, mR M l0 25 = some a3 ∧ (inb M1 a3 11 (mI M l0 28) ∧ (kd (sI M1 a3 (mI M l0 28).toNatClampNeg r2) l0 10 ∧ (kd (sI M1 a3 (mI M l0 28).toNatClampNeg r2) l0 10 ∧ (kd (sI M1 a3 (mI M l0 28).toNatClampNeg r2) l0 10 ∧ w185 l0 l1 l2 (sI M1 a3 (mI M l0 28).toNatClampNeg r2) (fun r5 M4 => ∃ a6, mR (sI M1 a3 (mI M l0 28).toNatClampNeg r2) l0 26 = some a6 ∧ (inb M4 a6 11 (mI (sI M1 a3 (mI M l0 28).toNatClampNeg r2) l0 28) ∧ (kd (sI M4 a6 (mI (sI M1 a3 (mI M l0 28).toNatClampNeg r2) l0 28).toNatClampNeg r5) l0 10 ∧ (kd (sI M4 a6 (mI (sI M1 a3 (mI M l0 28).toNatClampNeg r2) l0 28).toNatClampNeg r5) l0 10 ∧ (w214_40  (sI (sI M4 a6 (mI (sI M1 a3 (mI M l0 28).toNatClampNeg r2) l0 28).toNatClampNeg r5) l0 28 ((mI (sI M4 a6 (mI (sI M1 a3 (mI M l0 28).toNatClampNeg r2) l0 28).toNatClampNeg r5) l0 28) + (1 : Int32))) P))))))))))))
theorem t214_E {sl : Nat} {sx : Nat → Int32} {d : Nat} {M0 : MM} {P : MM → Prop} (l0 : Nat) (l1 : Int32) (l2 : Int32) (M : MM) (hM : lenO M0 M) (h : w214  l0 l1 l2 M P) : R214 sl sx d M0 P 0 [some (vR (some l0)), some (vI l1), some (vI l2)] [] M := by
  refine RN_k (callX_det _) 2 _ _ _ _ (show kd M l0 10 ∧ R214 sl sx d M0 P 4 [some (vR (some l0)), some (vI l1), some (vI l2)] [vR (mR M l0 25)] M from ⟨h.1, ?_⟩)
  replace h := h.2
  refine RN_k (callX_det _) 2 _ _ _ _ (show kd M l0 10 ∧ R214 sl sx d M0 P 8 [some (vR (some l0)), some (vI l1), some (vI l2)] [vI (mI M l0 28), vR (mR M l0 25)] M from ⟨h.1, ?_⟩)
  replace h := h.2
  refine RN_k (callX_det _) 4 _ _ _ _ (show kd M l0 10 ∧ callX TBg sl sx (d + 2) 184 [vR (some l0), vI l1, vI l2] M (fun v M9 => R214 sl sx d M0 P 14 [some (vR (some l0)), some (vI l1), some (vI l2)] (pushO v [vI (mI M l0 28), vR (mR M l0 25)]) M9) from ⟨h.1, ?_⟩)
  replace h := h.2
  refine callX_mono (callX_len (d := (d + 2)) rfl rfl rfl (c184 (d := d) h)) ?_
  clear h
  rintro v9 M1 ⟨hl, r2, rfl, h⟩
  replace hM := lenT hM hl
  show R214 sl sx d M0 P 14 [some (vR (some l0)), some (vI l1), some (vI l2)] [vI r2, vI (mI M l0 28), vR (mR M l0 25)] M1
  obtain ⟨a3, he, h⟩ := h
  rw [he]
  refine RN_k (callX_det _) 1 _ _ _ _ (show inb M1 a3 11 (mI M l0 28) ∧ R214 sl sx d M0 P 15 [some (vR (some l0)), some (vI l1), some (vI l2)] [] (sI M1 a3 (mI M l0 28).toNatClampNeg r2) from ⟨h.1, ?_⟩)
  replace h := h.2
  refine RN_k (callX_det _) 2 _ _ _ _ (show kd (sI M1 a3 (mI M l0 28).toNatClampNeg r2) l0 10 ∧ R214 sl sx d M0 P 19 [some (vR (some l0)), some (vI l1), some (vI l2)] [vR (mR (sI M1 a3 (mI M l0 28).toNatClampNeg r2) l0 26)] (sI M1 a3 (mI M l0 28).toNatClampNeg r2) from ⟨h.1, ?_⟩)
  replace h := h.2
  refine RN_k (callX_det _) 2 _ _ _ _ (show kd (sI M1 a3 (mI M l0 28).toNatClampNeg r2) l0 10 ∧ R214 sl sx d M0 P 23 [some (vR (some l0)), some (vI l1), some (vI l2)] [vI (mI (sI M1 a3 (mI M l0 28).toNatClampNeg r2) l0 28), vR (mR (sI M1 a3 (mI M l0 28).toNatClampNeg r2) l0 26)] (sI M1 a3 (mI M l0 28).toNatClampNeg r2) from ⟨h.1, ?_⟩)
  replace h := h.2
  refine RN_k (callX_det _) 4 _ _ _ _ (show kd (sI M1 a3 (mI M l0 28).toNatClampNeg r2) l0 10 ∧ callX TBg sl sx (d + 2) 185 [vR (some l0), vI l1, vI l2] (sI M1 a3 (mI M l0 28).toNatClampNeg r2) (fun v M9 => R214 sl sx d M0 P 29 [some (vR (some l0)), some (vI l1), some (vI l2)] (pushO v [vI (mI (sI M1 a3 (mI M l0 28).toNatClampNeg r2) l0 28), vR (mR (sI M1 a3 (mI M l0 28).toNatClampNeg r2) l0 26)]) M9) from ⟨h.1, ?_⟩)
  replace h := h.2
  refine callX_mono (callX_len (d := (d + 2)) rfl rfl rfl (c185 (d := d) h)) ?_
  clear h
  rintro v9 M4 ⟨hl, r5, rfl, h⟩
  replace hM := lenT hM hl
  show R214 sl sx d M0 P 29 [some (vR (some l0)), some (vI l1), some (vI l2)] [vI r5, vI (mI (sI M1 a3 (mI M l0 28).toNatClampNeg r2) l0 28), vR (mR (sI M1 a3 (mI M l0 28).toNatClampNeg r2) l0 26)] M4
  obtain ⟨a6, he, h⟩ := h
  rw [he]
  refine RN_k (callX_det _) 1 _ _ _ _ (show inb M4 a6 11 (mI (sI M1 a3 (mI M l0 28).toNatClampNeg r2) l0 28) ∧ R214 sl sx d M0 P 30 [some (vR (some l0)), some (vI l1), some (vI l2)] [] (sI M4 a6 (mI (sI M1 a3 (mI M l0 28).toNatClampNeg r2) l0 28).toNatClampNeg r5) from ⟨h.1, ?_⟩)
  replace h := h.2
  refine RN_k (callX_det _) 3 _ _ _ _ (show kd (sI M4 a6 (mI (sI M1 a3 (mI M l0 28).toNatClampNeg r2) l0 28).toNatClampNeg r5) l0 10 ∧ R214 sl sx d M0 P 35 [some (vR (some l0)), some (vI l1), some (vI l2)] [vI (mI (sI M4 a6 (mI (sI M1 a3 (mI M l0 28).toNatClampNeg r2) l0 28).toNatClampNeg r5) l0 28), vR (some l0)] (sI M4 a6 (mI (sI M1 a3 (mI M l0 28).toNatClampNeg r2) l0 28).toNatClampNeg r5) from ⟨h.1, ?_⟩)
  replace h := h.2
  refine RN_k (callX_det _) 3 _ _ _ _ (show kd (sI M4 a6 (mI (sI M1 a3 (mI M l0 28).toNatClampNeg r2) l0 28).toNatClampNeg r5) l0 10 ∧ R214 sl sx d M0 P 40 [some (vR (some l0)), some (vI l1), some (vI l2)] [] (sI (sI M4 a6 (mI (sI M1 a3 (mI M l0 28).toNatClampNeg r2) l0 28).toNatClampNeg r5) l0 28 ((mI (sI M4 a6 (mI (sI M1 a3 (mI M l0 28).toNatClampNeg r2) l0 28).toNatClampNeg r5) l0 28) + (1 : Int32))) from ⟨h.1, ?_⟩)
  replace h := h.2
  exact RN_weak (K := [none, none, none]) (callX_det _) (show True from trivial) (t214_40   _ hM h)
theorem c214 {sl : Nat} {sx : Nat → Int32} {d : Nat} {l0 : Nat} {l1 : Int32} {l2 : Int32} {M : MM} {P : MM → Prop} (h : w214 l0 l1 l2 M P) : callX TBg sl sx (d + 3) 214 [vR (some l0), vI l1, vI l2] M (PV P) :=
  cX (d := d + 2) q214 (false, tb214) rfl rfl rfl (t214_E l0 l1 l2 M lenR h)
-- TwoLeashModel.laysOther(III)V
abbrev q213 : MQ7 := (4, 1, 5, 10, 0, 0, 0)
abbrev R213 (sl : Nat) (sx : Nat → Int32) (d : Nat) (M0 : MM) (P : MM → Prop) : Nat → LL → List VV → MM → Prop := RN 10 false (mS M0).length (mT M0) 0 0 sl sx (callX TBg sl sx (d + 3)) (rtW q213 M0 (PV P)) (as2 tb213)
def w213_8 : Nat → Nat → Int32 → Int32 → Int32 → MM → (MM → Prop) → Prop
  | 0 => fun _ _ _ _ _ _ => False
  | n + 1 => fun l0 l1 l3 l4 M P => (l3 < l4 → (P M)) ∧ (¬ (l3 < l4) → (kd M l0 10 ∧ w214 l0 l1 l4 M (fun M1 => w213_8  n l0 l1 l3 (l4 + (1 : Int32)) M1 P)))
theorem t213_8 {sl : Nat} {sx : Nat → Int32} {d : Nat} {M0 : MM} {P : MM → Prop} (n : Nat) : ∀ (l0 : Nat) (l1 : Int32) (l3 : Int32) (l4 : Int32) (M : MM) (_ : lenO M0 M) (_ : w213_8  n l0 l1 l3 l4 M P), R213 sl sx d M0 P 8 [some (vR (some l0)), some (vI l1), none, some (vI l3), some (vI l4)] [] M := by
  induction n with
  | zero => intro l0 l1 l3 l4 M hM h; cases h
  | succ n ih =>
    intro l0 l1 l3 l4 M hM h
    refine RN_k (callX_det _) 3 _ _ _ _ (show (l3 < l4 → R213 sl sx d M0 P 27 [some (vR (some l0)), some (vI l1), none, some (vI l3), some (vI l4)] [] M) ∧ (¬ (l3 < l4) → R213 sl sx d M0 P 14 [some (vR (some l0)), some (vI l1), none, some (vI l3), some (vI l4)] [] M) from ⟨fun hc => ?_, fun hc => ?_⟩)
    · replace h := h.1 hc
      exact RN_k (callX_det _) 1 _ _ _ _ (show rtW q213 M0 (PV P) none M from ⟨rfl, hM.1, hM.2, rfl, h⟩)
    · replace h := h.2 hc
      refine RN_k (callX_det _) 4 _ _ _ _ (show kd M l0 10 ∧ callX TBg sl sx (d + 3) 214 [vR (some l0), vI l1, vI l4] M (fun v M9 => R213 sl sx d M0 P 21 [some (vR (some l0)), some (vI l1), none, some (vI l3), some (vI l4)] (pushO v []) M9) from ⟨h.1, ?_⟩)
      replace h := h.2
      refine callX_mono (callX_len (d := (d + 3)) rfl rfl rfl (c214 (d := d) h)) ?_
      clear h
      rintro v9 M1 ⟨hl, rfl, h⟩
      replace hM := lenT hM hl
      show R213 sl sx d M0 P 21 [some (vR (some l0)), some (vI l1), none, some (vI l3), some (vI l4)] [] M1
      refine RN_k (callX_det _) 2 _ _ _ _ (show R213 sl sx d M0 P 8 [some (vR (some l0)), some (vI l1), none, some (vI l3), some (vI (l4 + (1 : Int32)))] [] M1 from ?_)
      exact RN_weak (K := [some (vR (some l0)), some (vI l1), none, some (vI l3), some (vI (l4 + (1 : Int32)))]) (callX_det _) (show _ ∧ _ ∧ _ ∧ _ ∧ True from ⟨rfl, rfl, rfl, rfl, trivial⟩) (ih l0 l1 l3 (l4 + (1 : Int32)) _ hM h)
def w213 (l0 : Nat) (l1 : Int32) (l2 : Int32) (l3 : Int32) (M : MM) (P : MM → Prop) : Prop := kd M l0 10 ∧ (∃ n2, w213_8  n2 l0 l1 l3 l2 (sI M l0 28 (0 : Int32)) P)
theorem t213_E {sl : Nat} {sx : Nat → Int32} {d : Nat} {M0 : MM} {P : MM → Prop} (l0 : Nat) (l1 : Int32) (l2 : Int32) (l3 : Int32) (M : MM) (hM : lenO M0 M) (h : w213  l0 l1 l2 l3 M P) : R213 sl sx d M0 P 0 [some (vR (some l0)), some (vI l1), some (vI l2), some (vI l3), none] [] M := by
  refine RN_k (callX_det _) 3 _ _ _ _ (show kd M l0 10 ∧ R213 sl sx d M0 P 5 [some (vR (some l0)), some (vI l1), some (vI l2), some (vI l3), none] [] (sI M l0 28 (0 : Int32)) from ⟨h.1, ?_⟩)
  replace h := h.2
  refine RN_k (callX_det _) 2 _ _ _ _ (show R213 sl sx d M0 P 8 [some (vR (some l0)), some (vI l1), some (vI l2), some (vI l3), some (vI l2)] [] (sI M l0 28 (0 : Int32)) from ?_)
  obtain ⟨n2, h⟩ := h
  exact RN_weak (K := [some (vR (some l0)), some (vI l1), none, some (vI l3), some (vI l2)]) (callX_det _) (show _ ∧ _ ∧ _ ∧ _ ∧ True from ⟨rfl, rfl, rfl, rfl, trivial⟩) (t213_8  n2 l0 l1 l3 l2 _ hM h)
theorem c213 {sl : Nat} {sx : Nat → Int32} {d : Nat} {l0 : Nat} {l1 : Int32} {l2 : Int32} {l3 : Int32} {M : MM} {P : MM → Prop} (h : w213 l0 l1 l2 l3 M P) : callX TBg sl sx (d + 4) 213 [vR (some l0), vI l1, vI l2, vI l3] M (PV P) :=
  cX (d := d + 3) q213 (false, tb213) rfl rfl rfl (t213_E l0 l1 l2 l3 M lenR h)
-- TwoLeashModel.laysBoth(II)V
abbrev q211 : MQ7 := (3, 1, 3, 10, 0, 0, 0)
abbrev R211 (sl : Nat) (sx : Nat → Int32) (d : Nat) (M0 : MM) (P : MM → Prop) : Nat → LL → List VV → MM → Prop := RN 10 false (mS M0).length (mT M0) 0 0 sl sx (callX TBg sl sx (d + 4)) (rtW q211 M0 (PV P)) (as2 tb211)
def w211 (l0 : Nat) (l1 : Int32) (l2 : Int32) (M : MM) (P : MM → Prop) : Prop := kd M l0 10 ∧ w180 l0 l1 M (fun r2 M1 => kd M1 l0 10 ∧ w212 l0 l1 (0 : Int32) (r2 - (1 : Int32)) M1 (fun M3 => kd M3 l0 10 ∧ w180 l0 l2 M3 (fun r5 M4 => kd M4 l0 10 ∧ w213 l0 l2 (0 : Int32) (r5 - (1 : Int32)) M4 (fun M6 => P M6))))
theorem t211_E {sl : Nat} {sx : Nat → Int32} {d : Nat} {M0 : MM} {P : MM → Prop} (l0 : Nat) (l1 : Int32) (l2 : Int32) (M : MM) (hM : lenO M0 M) (h : w211  l0 l1 l2 M P) : R211 sl sx d M0 P 0 [some (vR (some l0)), some (vI l1), some (vI l2)] [] M := by
  refine RN_k (callX_det _) 6 _ _ _ _ (show kd M l0 10 ∧ callX TBg sl sx (d + 4) 180 [vR (some l0), vI l1] M (fun v M9 => R211 sl sx d M0 P 8 [some (vR (some l0)), some (vI l1), some (vI l2)] (pushO v [vI (0 : Int32), vI l1, vR (some l0)]) M9) from ⟨h.1, ?_⟩)
  replace h := h.2
  refine callX_mono (callX_len (d := (d + 4)) rfl rfl rfl (c180 (d := d + 2) h)) ?_
  clear h
  rintro v9 M1 ⟨hl, r2, rfl, h⟩
  replace hM := lenT hM hl
  show R211 sl sx d M0 P 8 [some (vR (some l0)), some (vI l1), some (vI l2)] [vI r2, vI (0 : Int32), vI l1, vR (some l0)] M1
  refine RN_k (callX_det _) 3 _ _ _ _ (show kd M1 l0 10 ∧ callX TBg sl sx (d + 4) 212 [vR (some l0), vI l1, vI (0 : Int32), vI (r2 - (1 : Int32))] M1 (fun v M9 => R211 sl sx d M0 P 13 [some (vR (some l0)), some (vI l1), some (vI l2)] (pushO v []) M9) from ⟨h.1, ?_⟩)
  replace h := h.2
  refine callX_mono (callX_len (d := (d + 4)) rfl rfl rfl (c212 (d := d + 1) h)) ?_
  clear h
  rintro v9 M3 ⟨hl, rfl, h⟩
  replace hM := lenT hM hl
  show R211 sl sx d M0 P 13 [some (vR (some l0)), some (vI l1), some (vI l2)] [] M3
  refine RN_k (callX_det _) 6 _ _ _ _ (show kd M3 l0 10 ∧ callX TBg sl sx (d + 4) 180 [vR (some l0), vI l2] M3 (fun v M9 => R211 sl sx d M0 P 21 [some (vR (some l0)), some (vI l1), some (vI l2)] (pushO v [vI (0 : Int32), vI l2, vR (some l0)]) M9) from ⟨h.1, ?_⟩)
  replace h := h.2
  refine callX_mono (callX_len (d := (d + 4)) rfl rfl rfl (c180 (d := d + 2) h)) ?_
  clear h
  rintro v9 M4 ⟨hl, r5, rfl, h⟩
  replace hM := lenT hM hl
  show R211 sl sx d M0 P 21 [some (vR (some l0)), some (vI l1), some (vI l2)] [vI r5, vI (0 : Int32), vI l2, vR (some l0)] M4
  refine RN_k (callX_det _) 3 _ _ _ _ (show kd M4 l0 10 ∧ callX TBg sl sx (d + 4) 213 [vR (some l0), vI l2, vI (0 : Int32), vI (r5 - (1 : Int32))] M4 (fun v M9 => R211 sl sx d M0 P 26 [some (vR (some l0)), some (vI l1), some (vI l2)] (pushO v []) M9) from ⟨h.1, ?_⟩)
  replace h := h.2
  refine callX_mono (callX_len (d := (d + 4)) rfl rfl rfl (c213 (d := d) h)) ?_
  clear h
  rintro v9 M6 ⟨hl, rfl, h⟩
  replace hM := lenT hM hl
  show R211 sl sx d M0 P 26 [some (vR (some l0)), some (vI l1), some (vI l2)] [] M6
  exact RN_k (callX_det _) 1 _ _ _ _ (show rtW q211 M0 (PV P) none M6 from ⟨rfl, hM.1, hM.2, rfl, h⟩)
theorem c211 {sl : Nat} {sx : Nat → Int32} {d : Nat} {l0 : Nat} {l1 : Int32} {l2 : Int32} {M : MM} {P : MM → Prop} (h : w211 l0 l1 l2 M P) : callX TBg sl sx (d + 5) 211 [vR (some l0), vI l1, vI l2] M (PV P) :=
  cX (d := d + 4) q211 (false, tb211) rfl rfl rfl (t211_E l0 l1 l2 M lenR h)
-- TwoLeashModel.leash(II)V
abbrev q215 : MQ7 := (3, 1, 3, 10, 0, 0, 0)
abbrev R215 (sl : Nat) (sx : Nat → Int32) (d : Nat) (M0 : MM) (P : MM → Prop) : Nat → LL → List VV → MM → Prop := RN 10 false (mS M0).length (mT M0) 0 0 sl sx (callX TBg sl sx (d + 0)) (rtW q215 M0 (PV P)) (as2 tb215)
def w215 (l0 : Nat) (l1 : Int32) (l2 : Int32) (M : MM) (P : MM → Prop) : Prop := kd M l0 10 ∧ (kd (sL M l0 29 l1.toInt64) l0 10 ∧ (P (sL (sL M l0 29 l1.toInt64) l0 30 l2.toInt64)))
theorem t215_E {sl : Nat} {sx : Nat → Int32} {d : Nat} {M0 : MM} {P : MM → Prop} (l0 : Nat) (l1 : Int32) (l2 : Int32) (M : MM) (hM : lenO M0 M) (h : w215  l0 l1 l2 M P) : R215 sl sx d M0 P 0 [some (vR (some l0)), some (vI l1), some (vI l2)] [] M := by
  refine RN_k (callX_det _) 4 _ _ _ _ (show kd M l0 10 ∧ R215 sl sx d M0 P 6 [some (vR (some l0)), some (vI l1), some (vI l2)] [] (sL M l0 29 l1.toInt64) from ⟨h.1, ?_⟩)
  replace h := h.2
  refine RN_k (callX_det _) 4 _ _ _ _ (show kd (sL M l0 29 l1.toInt64) l0 10 ∧ R215 sl sx d M0 P 12 [some (vR (some l0)), some (vI l1), some (vI l2)] [] (sL (sL M l0 29 l1.toInt64) l0 30 l2.toInt64) from ⟨h.1, ?_⟩)
  replace h := h.2
  exact RN_k (callX_det _) 1 _ _ _ _ (show rtW q215 M0 (PV P) none (sL (sL M l0 29 l1.toInt64) l0 30 l2.toInt64) from ⟨rfl, hM.1, hM.2, rfl, h⟩)
theorem c215 {sl : Nat} {sx : Nat → Int32} {d : Nat} {l0 : Nat} {l1 : Int32} {l2 : Int32} {M : MM} {P : MM → Prop} (h : w215 l0 l1 l2 M P) : callX TBg sl sx (d + 1) 215 [vR (some l0), vI l1, vI l2] M (PV P) :=
  cX (d := d + 0) q215 (false, tb215) rfl rfl rfl (t215_E l0 l1 l2 M lenR h)
-- TwoLeashModel.sideAt(ZII)I
abbrev q218 : MQ7 := (3, 0, 3, 10, 0, 0, 1)
abbrev R218 (sl : Nat) (sx : Nat → Int32) (d : Nat) (M0 : MM) (P : Int32 → MM → Prop) : Nat → LL → List VV → MM → Prop := RN 10 false (mS M0).length (mT M0) 0 0 sl sx (callX TBg sl sx (d + 0)) (rtW q218 M0 (PI P)) (as2 tb218)
def w218_10 (l1 : Int32) (l2 : Int32) (s0 : Int32) (M : MM) (P : Int32 → MM → Prop) : Prop := P ((s0 + ((8 : Int32) * l1)) + l2) M
theorem t218_10 {sl : Nat} {sx : Nat → Int32} {d : Nat} {M0 : MM} {P : Int32 → MM → Prop} (l1 : Int32) (l2 : Int32) (s0 : Int32) (M : MM) (hM : lenO M0 M) (h : w218_10  l1 l2 s0 M P) : R218 sl sx d M0 P 10 [none, some (vI l1), some (vI l2)] [vI s0] M := by
  exact RN_k (callX_det _) 7 _ _ _ _ (show rtW q218 M0 (PI P) (some (vI ((s0 + ((8 : Int32) * l1)) + l2))) M from ⟨⟨_, rfl⟩, hM.1, hM.2, _, rfl, h⟩)
def w218 (l0 : Int32) (l1 : Int32) (l2 : Int32) (M : MM) (P : Int32 → MM → Prop) : Prop := (l0 = 0 → (w218_10  l1 l2 (64 : Int32) M P)) ∧ (¬ (l0 = 0) → (w218_10  l1 l2 (0 : Int32) M P))
theorem t218_E {sl : Nat} {sx : Nat → Int32} {d : Nat} {M0 : MM} {P : Int32 → MM → Prop} (l0 : Int32) (l1 : Int32) (l2 : Int32) (M : MM) (hM : lenO M0 M) (h : w218  l0 l1 l2 M P) : R218 sl sx d M0 P 0 [some (vI l0), some (vI l1), some (vI l2)] [] M := by
  refine RN_k (callX_det _) 2 _ _ _ _ (show (l0 = 0 → R218 sl sx d M0 P 8 [some (vI l0), some (vI l1), some (vI l2)] [] M) ∧ (¬ (l0 = 0) → R218 sl sx d M0 P 4 [some (vI l0), some (vI l1), some (vI l2)] [] M) from ⟨fun hc => ?_, fun hc => ?_⟩)
  · replace h := h.1 hc
    refine RN_k (callX_det _) 1 _ _ _ _ (show R218 sl sx d M0 P 10 [some (vI l0), some (vI l1), some (vI l2)] [vI (64 : Int32)] M from ?_)
    exact RN_weak (K := [none, some (vI l1), some (vI l2)]) (callX_det _) (show _ ∧ _ ∧ True from ⟨rfl, rfl, trivial⟩) (t218_10  l1 l2 (64 : Int32) _ hM h)
  · replace h := h.2 hc
    refine RN_k (callX_det _) 2 _ _ _ _ (show R218 sl sx d M0 P 10 [some (vI l0), some (vI l1), some (vI l2)] [vI (0 : Int32)] M from ?_)
    exact RN_weak (K := [none, some (vI l1), some (vI l2)]) (callX_det _) (show _ ∧ _ ∧ True from ⟨rfl, rfl, trivial⟩) (t218_10  l1 l2 (0 : Int32) _ hM h)
theorem c218 {sl : Nat} {sx : Nat → Int32} {d : Nat} {l0 : Int32} {l1 : Int32} {l2 : Int32} {M : MM} {P : Int32 → MM → Prop} (h : w218 l0 l1 l2 M P) : callX TBg sl sx (d + 1) 218 [vI l0, vI l1, vI l2] M (PI P) :=
  cX (d := d + 0) q218 (false, tb218) rfl rfl rfl (t218_E l0 l1 l2 M lenR h)
-- TwoLeashModel.laysSide(ZII)V
abbrev q219 : MQ7 := (4, 1, 4, 10, 0, 0, 0)
abbrev R219 (sl : Nat) (sx : Nat → Int32) (d : Nat) (M0 : MM) (P : MM → Prop) : Nat → LL → List VV → MM → Prop := RN 10 false (mS M0).length (mT M0) 0 0 sl sx (callX TBg sl sx (d + 1)) (rtW q219 M0 (PV P)) (as2 tb219)
def w219_95 (M : MM) (P : MM → Prop) : Prop := P M
theorem t219_95 {sl : Nat} {sx : Nat → Int32} {d : Nat} {M0 : MM} {P : MM → Prop}  (M : MM) (hM : lenO M0 M) (h : w219_95   M P) : R219 sl sx d M0 P 95 [none, none, none, none] [] M := by
  exact RN_k (callX_det _) 1 _ _ _ _ (show rtW q219 M0 (PV P) none M from ⟨rfl, hM.1, hM.2, rfl, h⟩)
def w219 (l0 : Nat) (l1 : Int32) (l2 : Int32) (l3 : Int32) (M : MM) (P : MM → Prop) : Prop := (l1 = 0 → (kd M l0 10 ∧ (∃ a1, mR M l0 25 = some a1 ∧ (inb M a1 11 l3 ∧ (kd M l0 10 ∧ (∃ a2, mR M l0 26 = some a2 ∧ (inb M a2 11 l3 ∧ (kd M l0 10 ∧ (∃ a3, mR M l0 23 = some a3 ∧ (inb M a3 11 l2 ∧ (kd M l0 10 ∧ (∃ a4, mR M l0 24 = some a4 ∧ (inb M a4 11 l2 ∧ (kd M l0 10 ∧ (∃ a5, mR M l0 23 = some a5 ∧ (inb M a5 11 (l2 + (1 : Int32)) ∧ (kd M l0 10 ∧ (∃ a6, mR M l0 24 = some a6 ∧ (inb M a6 11 (l2 + (1 : Int32)) ∧ (kd M l0 10 ∧ w193 l0 (mI M a1 l3.toNatClampNeg) (mI M a2 l3.toNatClampNeg) (mI M a3 l2.toNatClampNeg) (mI M a4 l2.toNatClampNeg) (mI M a5 (l2 + (1 : Int32)).toNatClampNeg) (mI M a6 (l2 + (1 : Int32)).toNatClampNeg) M (fun M7 => w219_95  M7 P))))))))))))))))))))) ∧ (¬ (l1 = 0) → (kd M l0 10 ∧ (∃ a8, mR M l0 23 = some a8 ∧ (inb M a8 11 l2 ∧ (kd M l0 10 ∧ (∃ a9, mR M l0 24 = some a9 ∧ (inb M a9 11 l2 ∧ (kd M l0 10 ∧ (∃ a10, mR M l0 25 = some a10 ∧ (inb M a10 11 l3 ∧ (kd M l0 10 ∧ (∃ a11, mR M l0 26 = some a11 ∧ (inb M a11 11 l3 ∧ (kd M l0 10 ∧ (∃ a12, mR M l0 25 = some a12 ∧ (inb M a12 11 (l3 + (1 : Int32)) ∧ (kd M l0 10 ∧ (∃ a13, mR M l0 26 = some a13 ∧ (inb M a13 11 (l3 + (1 : Int32)) ∧ (kd M l0 10 ∧ w193 l0 (mI M a8 l2.toNatClampNeg) (mI M a9 l2.toNatClampNeg) (mI M a10 l3.toNatClampNeg) (mI M a11 l3.toNatClampNeg) (mI M a12 (l3 + (1 : Int32)).toNatClampNeg) (mI M a13 (l3 + (1 : Int32)).toNatClampNeg) M (fun M14 => w219_95  M14 P)))))))))))))))))))))
theorem t219_E {sl : Nat} {sx : Nat → Int32} {d : Nat} {M0 : MM} {P : MM → Prop} (l0 : Nat) (l1 : Int32) (l2 : Int32) (l3 : Int32) (M : MM) (hM : lenO M0 M) (h : w219  l0 l1 l2 l3 M P) : R219 sl sx d M0 P 0 [some (vR (some l0)), some (vI l1), some (vI l2), some (vI l3)] [] M := by
  refine RN_k (callX_det _) 2 _ _ _ _ (show (l1 = 0 → R219 sl sx d M0 P 51 [some (vR (some l0)), some (vI l1), some (vI l2), some (vI l3)] [] M) ∧ (¬ (l1 = 0) → R219 sl sx d M0 P 4 [some (vR (some l0)), some (vI l1), some (vI l2), some (vI l3)] [] M) from ⟨fun hc => ?_, fun hc => ?_⟩)
  · replace h := h.1 hc
    refine RN_k (callX_det _) 3 _ _ _ _ (show kd M l0 10 ∧ R219 sl sx d M0 P 56 [some (vR (some l0)), some (vI l1), some (vI l2), some (vI l3)] [vR (mR M l0 25), vR (some l0)] M from ⟨h.1, ?_⟩)
    replace h := h.2
    obtain ⟨a1, he, h⟩ := h
    refine RN_k (callX_det _) 1 _ _ _ _ (show R219 sl sx d M0 P 57 [some (vR (some l0)), some (vI l1), some (vI l2), some (vI l3)] [vI l3, vR (mR M l0 25), vR (some l0)] M from ?_)
    rw [he]
    refine RN_k (callX_det _) 1 _ _ _ _ (show inb M a1 11 l3 ∧ R219 sl sx d M0 P 58 [some (vR (some l0)), some (vI l1), some (vI l2), some (vI l3)] [vI (mI M a1 l3.toNatClampNeg), vR (some l0)] M from ⟨h.1, ?_⟩)
    replace h := h.2
    refine RN_k (callX_det _) 2 _ _ _ _ (show kd M l0 10 ∧ R219 sl sx d M0 P 62 [some (vR (some l0)), some (vI l1), some (vI l2), some (vI l3)] [vR (mR M l0 26), vI (mI M a1 l3.toNatClampNeg), vR (some l0)] M from ⟨h.1, ?_⟩)
    replace h := h.2
    obtain ⟨a2, he, h⟩ := h
    refine RN_k (callX_det _) 1 _ _ _ _ (show R219 sl sx d M0 P 63 [some (vR (some l0)), some (vI l1), some (vI l2), some (vI l3)] [vI l3, vR (mR M l0 26), vI (mI M a1 l3.toNatClampNeg), vR (some l0)] M from ?_)
    rw [he]
    refine RN_k (callX_det _) 1 _ _ _ _ (show inb M a2 11 l3 ∧ R219 sl sx d M0 P 64 [some (vR (some l0)), some (vI l1), some (vI l2), some (vI l3)] [vI (mI M a2 l3.toNatClampNeg), vI (mI M a1 l3.toNatClampNeg), vR (some l0)] M from ⟨h.1, ?_⟩)
    replace h := h.2
    refine RN_k (callX_det _) 2 _ _ _ _ (show kd M l0 10 ∧ R219 sl sx d M0 P 68 [some (vR (some l0)), some (vI l1), some (vI l2), some (vI l3)] [vR (mR M l0 23), vI (mI M a2 l3.toNatClampNeg), vI (mI M a1 l3.toNatClampNeg), vR (some l0)] M from ⟨h.1, ?_⟩)
    replace h := h.2
    obtain ⟨a3, he, h⟩ := h
    refine RN_k (callX_det _) 1 _ _ _ _ (show R219 sl sx d M0 P 69 [some (vR (some l0)), some (vI l1), some (vI l2), some (vI l3)] [vI l2, vR (mR M l0 23), vI (mI M a2 l3.toNatClampNeg), vI (mI M a1 l3.toNatClampNeg), vR (some l0)] M from ?_)
    rw [he]
    refine RN_k (callX_det _) 1 _ _ _ _ (show inb M a3 11 l2 ∧ R219 sl sx d M0 P 70 [some (vR (some l0)), some (vI l1), some (vI l2), some (vI l3)] [vI (mI M a3 l2.toNatClampNeg), vI (mI M a2 l3.toNatClampNeg), vI (mI M a1 l3.toNatClampNeg), vR (some l0)] M from ⟨h.1, ?_⟩)
    replace h := h.2
    refine RN_k (callX_det _) 2 _ _ _ _ (show kd M l0 10 ∧ R219 sl sx d M0 P 74 [some (vR (some l0)), some (vI l1), some (vI l2), some (vI l3)] [vR (mR M l0 24), vI (mI M a3 l2.toNatClampNeg), vI (mI M a2 l3.toNatClampNeg), vI (mI M a1 l3.toNatClampNeg), vR (some l0)] M from ⟨h.1, ?_⟩)
    replace h := h.2
    obtain ⟨a4, he, h⟩ := h
    refine RN_k (callX_det _) 1 _ _ _ _ (show R219 sl sx d M0 P 75 [some (vR (some l0)), some (vI l1), some (vI l2), some (vI l3)] [vI l2, vR (mR M l0 24), vI (mI M a3 l2.toNatClampNeg), vI (mI M a2 l3.toNatClampNeg), vI (mI M a1 l3.toNatClampNeg), vR (some l0)] M from ?_)
    rw [he]
    refine RN_k (callX_det _) 1 _ _ _ _ (show inb M a4 11 l2 ∧ R219 sl sx d M0 P 76 [some (vR (some l0)), some (vI l1), some (vI l2), some (vI l3)] [vI (mI M a4 l2.toNatClampNeg), vI (mI M a3 l2.toNatClampNeg), vI (mI M a2 l3.toNatClampNeg), vI (mI M a1 l3.toNatClampNeg), vR (some l0)] M from ⟨h.1, ?_⟩)
    replace h := h.2
    refine RN_k (callX_det _) 2 _ _ _ _ (show kd M l0 10 ∧ R219 sl sx d M0 P 80 [some (vR (some l0)), some (vI l1), some (vI l2), some (vI l3)] [vR (mR M l0 23), vI (mI M a4 l2.toNatClampNeg), vI (mI M a3 l2.toNatClampNeg), vI (mI M a2 l3.toNatClampNeg), vI (mI M a1 l3.toNatClampNeg), vR (some l0)] M from ⟨h.1, ?_⟩)
    replace h := h.2
    obtain ⟨a5, he, h⟩ := h
    refine RN_k (callX_det _) 3 _ _ _ _ (show R219 sl sx d M0 P 83 [some (vR (some l0)), some (vI l1), some (vI l2), some (vI l3)] [vI (l2 + (1 : Int32)), vR (mR M l0 23), vI (mI M a4 l2.toNatClampNeg), vI (mI M a3 l2.toNatClampNeg), vI (mI M a2 l3.toNatClampNeg), vI (mI M a1 l3.toNatClampNeg), vR (some l0)] M from ?_)
    rw [he]
    refine RN_k (callX_det _) 1 _ _ _ _ (show inb M a5 11 (l2 + (1 : Int32)) ∧ R219 sl sx d M0 P 84 [some (vR (some l0)), some (vI l1), some (vI l2), some (vI l3)] [vI (mI M a5 (l2 + (1 : Int32)).toNatClampNeg), vI (mI M a4 l2.toNatClampNeg), vI (mI M a3 l2.toNatClampNeg), vI (mI M a2 l3.toNatClampNeg), vI (mI M a1 l3.toNatClampNeg), vR (some l0)] M from ⟨h.1, ?_⟩)
    replace h := h.2
    refine RN_k (callX_det _) 2 _ _ _ _ (show kd M l0 10 ∧ R219 sl sx d M0 P 88 [some (vR (some l0)), some (vI l1), some (vI l2), some (vI l3)] [vR (mR M l0 24), vI (mI M a5 (l2 + (1 : Int32)).toNatClampNeg), vI (mI M a4 l2.toNatClampNeg), vI (mI M a3 l2.toNatClampNeg), vI (mI M a2 l3.toNatClampNeg), vI (mI M a1 l3.toNatClampNeg), vR (some l0)] M from ⟨h.1, ?_⟩)
    replace h := h.2
    obtain ⟨a6, he, h⟩ := h
    refine RN_k (callX_det _) 3 _ _ _ _ (show R219 sl sx d M0 P 91 [some (vR (some l0)), some (vI l1), some (vI l2), some (vI l3)] [vI (l2 + (1 : Int32)), vR (mR M l0 24), vI (mI M a5 (l2 + (1 : Int32)).toNatClampNeg), vI (mI M a4 l2.toNatClampNeg), vI (mI M a3 l2.toNatClampNeg), vI (mI M a2 l3.toNatClampNeg), vI (mI M a1 l3.toNatClampNeg), vR (some l0)] M from ?_)
    rw [he]
    refine RN_k (callX_det _) 1 _ _ _ _ (show inb M a6 11 (l2 + (1 : Int32)) ∧ R219 sl sx d M0 P 92 [some (vR (some l0)), some (vI l1), some (vI l2), some (vI l3)] [vI (mI M a6 (l2 + (1 : Int32)).toNatClampNeg), vI (mI M a5 (l2 + (1 : Int32)).toNatClampNeg), vI (mI M a4 l2.toNatClampNeg), vI (mI M a3 l2.toNatClampNeg), vI (mI M a2 l3.toNatClampNeg), vI (mI M a1 l3.toNatClampNeg), vR (some l0)] M from ⟨h.1, ?_⟩)
    replace h := h.2
    refine RN_k (callX_det _) 1 _ _ _ _ (show kd M l0 10 ∧ callX TBg sl sx (d + 1) 193 [vR (some l0), vI (mI M a1 l3.toNatClampNeg), vI (mI M a2 l3.toNatClampNeg), vI (mI M a3 l2.toNatClampNeg), vI (mI M a4 l2.toNatClampNeg), vI (mI M a5 (l2 + (1 : Int32)).toNatClampNeg), vI (mI M a6 (l2 + (1 : Int32)).toNatClampNeg)] M (fun v M9 => R219 sl sx d M0 P 95 [some (vR (some l0)), some (vI l1), some (vI l2), some (vI l3)] (pushO v []) M9) from ⟨h.1, ?_⟩)
    replace h := h.2
    refine callX_mono (callX_len (d := (d + 1)) rfl rfl rfl (c193 (d := d) h)) ?_
    clear h
    rintro v9 M7 ⟨hl, rfl, h⟩
    replace hM := lenT hM hl
    show R219 sl sx d M0 P 95 [some (vR (some l0)), some (vI l1), some (vI l2), some (vI l3)] [] M7
    exact RN_weak (K := [none, none, none, none]) (callX_det _) (show True from trivial) (t219_95   _ hM h)
  · replace h := h.2 hc
    refine RN_k (callX_det _) 3 _ _ _ _ (show kd M l0 10 ∧ R219 sl sx d M0 P 9 [some (vR (some l0)), some (vI l1), some (vI l2), some (vI l3)] [vR (mR M l0 23), vR (some l0)] M from ⟨h.1, ?_⟩)
    replace h := h.2
    obtain ⟨a8, he, h⟩ := h
    refine RN_k (callX_det _) 1 _ _ _ _ (show R219 sl sx d M0 P 10 [some (vR (some l0)), some (vI l1), some (vI l2), some (vI l3)] [vI l2, vR (mR M l0 23), vR (some l0)] M from ?_)
    rw [he]
    refine RN_k (callX_det _) 1 _ _ _ _ (show inb M a8 11 l2 ∧ R219 sl sx d M0 P 11 [some (vR (some l0)), some (vI l1), some (vI l2), some (vI l3)] [vI (mI M a8 l2.toNatClampNeg), vR (some l0)] M from ⟨h.1, ?_⟩)
    replace h := h.2
    refine RN_k (callX_det _) 2 _ _ _ _ (show kd M l0 10 ∧ R219 sl sx d M0 P 15 [some (vR (some l0)), some (vI l1), some (vI l2), some (vI l3)] [vR (mR M l0 24), vI (mI M a8 l2.toNatClampNeg), vR (some l0)] M from ⟨h.1, ?_⟩)
    replace h := h.2
    obtain ⟨a9, he, h⟩ := h
    refine RN_k (callX_det _) 1 _ _ _ _ (show R219 sl sx d M0 P 16 [some (vR (some l0)), some (vI l1), some (vI l2), some (vI l3)] [vI l2, vR (mR M l0 24), vI (mI M a8 l2.toNatClampNeg), vR (some l0)] M from ?_)
    rw [he]
    refine RN_k (callX_det _) 1 _ _ _ _ (show inb M a9 11 l2 ∧ R219 sl sx d M0 P 17 [some (vR (some l0)), some (vI l1), some (vI l2), some (vI l3)] [vI (mI M a9 l2.toNatClampNeg), vI (mI M a8 l2.toNatClampNeg), vR (some l0)] M from ⟨h.1, ?_⟩)
    replace h := h.2
    refine RN_k (callX_det _) 2 _ _ _ _ (show kd M l0 10 ∧ R219 sl sx d M0 P 21 [some (vR (some l0)), some (vI l1), some (vI l2), some (vI l3)] [vR (mR M l0 25), vI (mI M a9 l2.toNatClampNeg), vI (mI M a8 l2.toNatClampNeg), vR (some l0)] M from ⟨h.1, ?_⟩)
    replace h := h.2
    obtain ⟨a10, he, h⟩ := h
    refine RN_k (callX_det _) 1 _ _ _ _ (show R219 sl sx d M0 P 22 [some (vR (some l0)), some (vI l1), some (vI l2), some (vI l3)] [vI l3, vR (mR M l0 25), vI (mI M a9 l2.toNatClampNeg), vI (mI M a8 l2.toNatClampNeg), vR (some l0)] M from ?_)
    rw [he]
    refine RN_k (callX_det _) 1 _ _ _ _ (show inb M a10 11 l3 ∧ R219 sl sx d M0 P 23 [some (vR (some l0)), some (vI l1), some (vI l2), some (vI l3)] [vI (mI M a10 l3.toNatClampNeg), vI (mI M a9 l2.toNatClampNeg), vI (mI M a8 l2.toNatClampNeg), vR (some l0)] M from ⟨h.1, ?_⟩)
    replace h := h.2
    refine RN_k (callX_det _) 2 _ _ _ _ (show kd M l0 10 ∧ R219 sl sx d M0 P 27 [some (vR (some l0)), some (vI l1), some (vI l2), some (vI l3)] [vR (mR M l0 26), vI (mI M a10 l3.toNatClampNeg), vI (mI M a9 l2.toNatClampNeg), vI (mI M a8 l2.toNatClampNeg), vR (some l0)] M from ⟨h.1, ?_⟩)
    replace h := h.2
    obtain ⟨a11, he, h⟩ := h
    refine RN_k (callX_det _) 1 _ _ _ _ (show R219 sl sx d M0 P 28 [some (vR (some l0)), some (vI l1), some (vI l2), some (vI l3)] [vI l3, vR (mR M l0 26), vI (mI M a10 l3.toNatClampNeg), vI (mI M a9 l2.toNatClampNeg), vI (mI M a8 l2.toNatClampNeg), vR (some l0)] M from ?_)
    rw [he]
    refine RN_k (callX_det _) 1 _ _ _ _ (show inb M a11 11 l3 ∧ R219 sl sx d M0 P 29 [some (vR (some l0)), some (vI l1), some (vI l2), some (vI l3)] [vI (mI M a11 l3.toNatClampNeg), vI (mI M a10 l3.toNatClampNeg), vI (mI M a9 l2.toNatClampNeg), vI (mI M a8 l2.toNatClampNeg), vR (some l0)] M from ⟨h.1, ?_⟩)
    replace h := h.2
    refine RN_k (callX_det _) 2 _ _ _ _ (show kd M l0 10 ∧ R219 sl sx d M0 P 33 [some (vR (some l0)), some (vI l1), some (vI l2), some (vI l3)] [vR (mR M l0 25), vI (mI M a11 l3.toNatClampNeg), vI (mI M a10 l3.toNatClampNeg), vI (mI M a9 l2.toNatClampNeg), vI (mI M a8 l2.toNatClampNeg), vR (some l0)] M from ⟨h.1, ?_⟩)
    replace h := h.2
    obtain ⟨a12, he, h⟩ := h
    refine RN_k (callX_det _) 3 _ _ _ _ (show R219 sl sx d M0 P 36 [some (vR (some l0)), some (vI l1), some (vI l2), some (vI l3)] [vI (l3 + (1 : Int32)), vR (mR M l0 25), vI (mI M a11 l3.toNatClampNeg), vI (mI M a10 l3.toNatClampNeg), vI (mI M a9 l2.toNatClampNeg), vI (mI M a8 l2.toNatClampNeg), vR (some l0)] M from ?_)
    rw [he]
    refine RN_k (callX_det _) 1 _ _ _ _ (show inb M a12 11 (l3 + (1 : Int32)) ∧ R219 sl sx d M0 P 37 [some (vR (some l0)), some (vI l1), some (vI l2), some (vI l3)] [vI (mI M a12 (l3 + (1 : Int32)).toNatClampNeg), vI (mI M a11 l3.toNatClampNeg), vI (mI M a10 l3.toNatClampNeg), vI (mI M a9 l2.toNatClampNeg), vI (mI M a8 l2.toNatClampNeg), vR (some l0)] M from ⟨h.1, ?_⟩)
    replace h := h.2
    refine RN_k (callX_det _) 2 _ _ _ _ (show kd M l0 10 ∧ R219 sl sx d M0 P 41 [some (vR (some l0)), some (vI l1), some (vI l2), some (vI l3)] [vR (mR M l0 26), vI (mI M a12 (l3 + (1 : Int32)).toNatClampNeg), vI (mI M a11 l3.toNatClampNeg), vI (mI M a10 l3.toNatClampNeg), vI (mI M a9 l2.toNatClampNeg), vI (mI M a8 l2.toNatClampNeg), vR (some l0)] M from ⟨h.1, ?_⟩)
    replace h := h.2
    obtain ⟨a13, he, h⟩ := h
    refine RN_k (callX_det _) 3 _ _ _ _ (show R219 sl sx d M0 P 44 [some (vR (some l0)), some (vI l1), some (vI l2), some (vI l3)] [vI (l3 + (1 : Int32)), vR (mR M l0 26), vI (mI M a12 (l3 + (1 : Int32)).toNatClampNeg), vI (mI M a11 l3.toNatClampNeg), vI (mI M a10 l3.toNatClampNeg), vI (mI M a9 l2.toNatClampNeg), vI (mI M a8 l2.toNatClampNeg), vR (some l0)] M from ?_)
    rw [he]
    refine RN_k (callX_det _) 1 _ _ _ _ (show inb M a13 11 (l3 + (1 : Int32)) ∧ R219 sl sx d M0 P 45 [some (vR (some l0)), some (vI l1), some (vI l2), some (vI l3)] [vI (mI M a13 (l3 + (1 : Int32)).toNatClampNeg), vI (mI M a12 (l3 + (1 : Int32)).toNatClampNeg), vI (mI M a11 l3.toNatClampNeg), vI (mI M a10 l3.toNatClampNeg), vI (mI M a9 l2.toNatClampNeg), vI (mI M a8 l2.toNatClampNeg), vR (some l0)] M from ⟨h.1, ?_⟩)
    replace h := h.2
    refine RN_k (callX_det _) 1 _ _ _ _ (show kd M l0 10 ∧ callX TBg sl sx (d + 1) 193 [vR (some l0), vI (mI M a8 l2.toNatClampNeg), vI (mI M a9 l2.toNatClampNeg), vI (mI M a10 l3.toNatClampNeg), vI (mI M a11 l3.toNatClampNeg), vI (mI M a12 (l3 + (1 : Int32)).toNatClampNeg), vI (mI M a13 (l3 + (1 : Int32)).toNatClampNeg)] M (fun v M9 => R219 sl sx d M0 P 48 [some (vR (some l0)), some (vI l1), some (vI l2), some (vI l3)] (pushO v []) M9) from ⟨h.1, ?_⟩)
    replace h := h.2
    refine callX_mono (callX_len (d := (d + 1)) rfl rfl rfl (c193 (d := d) h)) ?_
    clear h
    rintro v9 M14 ⟨hl, rfl, h⟩
    replace hM := lenT hM hl
    show R219 sl sx d M0 P 48 [some (vR (some l0)), some (vI l1), some (vI l2), some (vI l3)] [] M14
    refine RN_k (callX_det _) 1 _ _ _ _ (show R219 sl sx d M0 P 95 [some (vR (some l0)), some (vI l1), some (vI l2), some (vI l3)] [] M14 from ?_)
    exact RN_weak (K := [none, none, none, none]) (callX_det _) (show True from trivial) (t219_95   _ hM h)
theorem c219 {sl : Nat} {sx : Nat → Int32} {d : Nat} {l0 : Nat} {l1 : Int32} {l2 : Int32} {l3 : Int32} {M : MM} {P : MM → Prop} (h : w219 l0 l1 l2 l3 M P) : callX TBg sl sx (d + 2) 219 [vR (some l0), vI l1, vI l2, vI l3] M (PV P) :=
  cX (d := d + 1) q219 (false, tb219) rfl rfl rfl (t219_E l0 l1 l2 l3 M lenR h)
-- TwoLeashModel.signOfTwo(IJIJ)I
abbrev q221 : MQ7 := (4, 0, 8, 10, 0, 0, 1)
abbrev R221 (sl : Nat) (sx : Nat → Int32) (d : Nat) (M0 : MM) (P : Int32 → MM → Prop) : Nat → LL → List VV → MM → Prop := RN 10 false (mS M0).length (mT M0) 0 0 sl sx (callX TBg sl sx (d + 0)) (rtW q221 M0 (PI P)) (as2 tb221)
def w221_83 (s0 : Int32) (M : MM) (P : Int32 → MM → Prop) : Prop := P s0 M
theorem t221_83 {sl : Nat} {sx : Nat → Int32} {d : Nat} {M0 : MM} {P : Int32 → MM → Prop} (s0 : Int32) (M : MM) (hM : lenO M0 M) (h : w221_83  s0 M P) : R221 sl sx d M0 P 83 [none, none, none, none, none, none, none, none] [vI s0] M := by
  exact RN_k (callX_det _) 1 _ _ _ _ (show rtW q221 M0 (PI P) (some (vI s0)) M from ⟨⟨_, rfl⟩, hM.1, hM.2, _, rfl, h⟩)
def w221_57 (s0 : Int32) (M : MM) (P : Int32 → MM → Prop) : Prop := P s0 M
theorem t221_57 {sl : Nat} {sx : Nat → Int32} {d : Nat} {M0 : MM} {P : Int32 → MM → Prop} (s0 : Int32) (M : MM) (hM : lenO M0 M) (h : w221_57  s0 M P) : R221 sl sx d M0 P 57 [none, none, none, none, none, none, none, none] [vI s0] M := by
  exact RN_k (callX_det _) 1 _ _ _ _ (show rtW q221 M0 (PI P) (some (vI s0)) M from ⟨⟨_, rfl⟩, hM.1, hM.2, _, rfl, h⟩)
def w221_45 (l6 : Int32) (l7 : Int32) (M : MM) (P : Int32 → MM → Prop) : Prop := (l6 ≠ 0 → (w221_57  l6 M P)) ∧ (¬ (l6 ≠ 0) → (w221_57  l7 M P))
theorem t221_45 {sl : Nat} {sx : Nat → Int32} {d : Nat} {M0 : MM} {P : Int32 → MM → Prop} (l6 : Int32) (l7 : Int32) (M : MM) (hM : lenO M0 M) (h : w221_45  l6 l7 M P) : R221 sl sx d M0 P 45 [none, none, none, none, none, none, some (vI l6), some (vI l7)] [] M := by
  refine RN_k (callX_det _) 2 _ _ _ _ (show (l6 ≠ 0 → R221 sl sx d M0 P 55 [none, none, none, none, none, none, some (vI l6), some (vI l7)] [] M) ∧ (¬ (l6 ≠ 0) → R221 sl sx d M0 P 50 [none, none, none, none, none, none, some (vI l6), some (vI l7)] [] M) from ⟨fun hc => ?_, fun hc => ?_⟩)
  · replace h := h.1 hc
    refine RN_k (callX_det _) 1 _ _ _ _ (show R221 sl sx d M0 P 57 [none, none, none, none, none, none, some (vI l6), some (vI l7)] [vI l6] M from ?_)
    exact RN_weak (K := [none, none, none, none, none, none, none, none]) (callX_det _) (show True from trivial) (t221_57  l6 _ hM h)
  · replace h := h.2 hc
    refine RN_k (callX_det _) 2 _ _ _ _ (show R221 sl sx d M0 P 57 [none, none, none, none, none, none, some (vI l6), some (vI l7)] [vI l7] M from ?_)
    exact RN_weak (K := [none, none, none, none, none, none, none, none]) (callX_det _) (show True from trivial) (t221_57  l7 _ hM h)
def w221_26 (l1 : Int64) (l4 : Int64) (l6 : Int32) (s0 : Int32) (M : MM) (P : Int32 → MM → Prop) : Prop := (l6 = 0 → (w221_45  l6 s0 M P)) ∧ (¬ (l6 = 0) → ((s0 = 0 → (w221_45  l6 s0 M P)) ∧ (¬ (s0 = 0) → ((l6 ≠ s0 → (((lg_cmp l1 l4) ≠ 0 → (((lg_cmp l1 l4) ≤ 0 → (w221_83  s0 M P)) ∧ (¬ ((lg_cmp l1 l4) ≤ 0) → (w221_83  l6 M P)))) ∧ (¬ ((lg_cmp l1 l4) ≠ 0) → (w221_83  (0 : Int32) M P)))) ∧ (¬ (l6 ≠ s0) → (w221_45  l6 s0 M P))))))
theorem t221_26 {sl : Nat} {sx : Nat → Int32} {d : Nat} {M0 : MM} {P : Int32 → MM → Prop} (l1 : Int64) (l4 : Int64) (l6 : Int32) (s0 : Int32) (M : MM) (hM : lenO M0 M) (h : w221_26  l1 l4 l6 s0 M P) : R221 sl sx d M0 P 26 [none, some (vL l1), none, none, some (vL l4), none, some (vI l6), none] [vI s0] M := by
  refine RN_k (callX_det _) 3 _ _ _ _ (show (l6 = 0 → R221 sl sx d M0 P 45 [none, some (vL l1), none, none, some (vL l4), none, some (vI l6), some (vI s0)] [] M) ∧ (¬ (l6 = 0) → R221 sl sx d M0 P 33 [none, some (vL l1), none, none, some (vL l4), none, some (vI l6), some (vI s0)] [] M) from ⟨fun hc => ?_, fun hc => ?_⟩)
  · replace h := h.1 hc
    exact RN_weak (K := [none, none, none, none, none, none, some (vI l6), some (vI s0)]) (callX_det _) (show _ ∧ _ ∧ True from ⟨rfl, rfl, trivial⟩) (t221_45  l6 s0 _ hM h)
  · replace h := h.2 hc
    refine RN_k (callX_det _) 2 _ _ _ _ (show (s0 = 0 → R221 sl sx d M0 P 45 [none, some (vL l1), none, none, some (vL l4), none, some (vI l6), some (vI s0)] [] M) ∧ (¬ (s0 = 0) → R221 sl sx d M0 P 38 [none, some (vL l1), none, none, some (vL l4), none, some (vI l6), some (vI s0)] [] M) from ⟨fun hc => ?_, fun hc => ?_⟩)
    · replace h := h.1 hc
      exact RN_weak (K := [none, none, none, none, none, none, some (vI l6), some (vI s0)]) (callX_det _) (show _ ∧ _ ∧ True from ⟨rfl, rfl, trivial⟩) (t221_45  l6 s0 _ hM h)
    · replace h := h.2 hc
      refine RN_k (callX_det _) 3 _ _ _ _ (show (l6 ≠ s0 → R221 sl sx d M0 P 58 [none, some (vL l1), none, none, some (vL l4), none, some (vI l6), some (vI s0)] [] M) ∧ (¬ (l6 ≠ s0) → R221 sl sx d M0 P 45 [none, some (vL l1), none, none, some (vL l4), none, some (vI l6), some (vI s0)] [] M) from ⟨fun hc => ?_, fun hc => ?_⟩)
      · replace h := h.1 hc
        refine RN_k (callX_det _) 4 _ _ _ _ (show ((lg_cmp l1 l4) ≠ 0 → R221 sl sx d M0 P 69 [none, some (vL l1), none, none, some (vL l4), none, some (vI l6), some (vI s0)] [] M) ∧ (¬ ((lg_cmp l1 l4) ≠ 0) → R221 sl sx d M0 P 65 [none, some (vL l1), none, none, some (vL l4), none, some (vI l6), some (vI s0)] [] M) from ⟨fun hc => ?_, fun hc => ?_⟩)
        · replace h := h.1 hc
          refine RN_k (callX_det _) 4 _ _ _ _ (show ((lg_cmp l1 l4) ≤ 0 → R221 sl sx d M0 P 81 [none, some (vL l1), none, none, some (vL l4), none, some (vI l6), some (vI s0)] [] M) ∧ (¬ ((lg_cmp l1 l4) ≤ 0) → R221 sl sx d M0 P 76 [none, some (vL l1), none, none, some (vL l4), none, some (vI l6), some (vI s0)] [] M) from ⟨fun hc => ?_, fun hc => ?_⟩)
          · replace h := h.1 hc
            refine RN_k (callX_det _) 1 _ _ _ _ (show R221 sl sx d M0 P 83 [none, some (vL l1), none, none, some (vL l4), none, some (vI l6), some (vI s0)] [vI s0] M from ?_)
            exact RN_weak (K := [none, none, none, none, none, none, none, none]) (callX_det _) (show True from trivial) (t221_83  s0 _ hM h)
          · replace h := h.2 hc
            refine RN_k (callX_det _) 2 _ _ _ _ (show R221 sl sx d M0 P 83 [none, some (vL l1), none, none, some (vL l4), none, some (vI l6), some (vI s0)] [vI l6] M from ?_)
            exact RN_weak (K := [none, none, none, none, none, none, none, none]) (callX_det _) (show True from trivial) (t221_83  l6 _ hM h)
        · replace h := h.2 hc
          refine RN_k (callX_det _) 2 _ _ _ _ (show R221 sl sx d M0 P 83 [none, some (vL l1), none, none, some (vL l4), none, some (vI l6), some (vI s0)] [vI (0 : Int32)] M from ?_)
          exact RN_weak (K := [none, none, none, none, none, none, none, none]) (callX_det _) (show True from trivial) (t221_83  (0 : Int32) _ hM h)
      · replace h := h.2 hc
        exact RN_weak (K := [none, none, none, none, none, none, some (vI l6), some (vI s0)]) (callX_det _) (show _ ∧ _ ∧ True from ⟨rfl, rfl, trivial⟩) (t221_45  l6 s0 _ hM h)
def w221_11 (l1 : Int64) (l3 : Int32) (l4 : Int64) (s0 : Int32) (M : MM) (P : Int32 → MM → Prop) : Prop := ((lg_cmp l4 (0 : Int64)) ≠ 0 → (w221_26  l1 l4 s0 (-l3) M P)) ∧ (¬ ((lg_cmp l4 (0 : Int64)) ≠ 0) → (w221_26  l1 l4 s0 (0 : Int32) M P))
theorem t221_11 {sl : Nat} {sx : Nat → Int32} {d : Nat} {M0 : MM} {P : Int32 → MM → Prop} (l1 : Int64) (l3 : Int32) (l4 : Int64) (s0 : Int32) (M : MM) (hM : lenO M0 M) (h : w221_11  l1 l3 l4 s0 M P) : R221 sl sx d M0 P 11 [none, some (vL l1), none, some (vI l3), some (vL l4), none, none, none] [vI s0] M := by
  refine RN_k (callX_det _) 5 _ _ _ _ (show ((lg_cmp l4 (0 : Int64)) ≠ 0 → R221 sl sx d M0 P 24 [none, some (vL l1), none, some (vI l3), some (vL l4), none, some (vI s0), none] [] M) ∧ (¬ ((lg_cmp l4 (0 : Int64)) ≠ 0) → R221 sl sx d M0 P 20 [none, some (vL l1), none, some (vI l3), some (vL l4), none, some (vI s0), none] [] M) from ⟨fun hc => ?_, fun hc => ?_⟩)
  · replace h := h.1 hc
    refine RN_k (callX_det _) 2 _ _ _ _ (show R221 sl sx d M0 P 26 [none, some (vL l1), none, some (vI l3), some (vL l4), none, some (vI s0), none] [vI (-l3)] M from ?_)
    exact RN_weak (K := [none, some (vL l1), none, none, some (vL l4), none, some (vI s0), none]) (callX_det _) (show _ ∧ _ ∧ _ ∧ True from ⟨rfl, rfl, rfl, trivial⟩) (t221_26  l1 l4 s0 (-l3) _ hM h)
  · replace h := h.2 hc
    refine RN_k (callX_det _) 2 _ _ _ _ (show R221 sl sx d M0 P 26 [none, some (vL l1), none, some (vI l3), some (vL l4), none, some (vI s0), none] [vI (0 : Int32)] M from ?_)
    exact RN_weak (K := [none, some (vL l1), none, none, some (vL l4), none, some (vI s0), none]) (callX_det _) (show _ ∧ _ ∧ _ ∧ True from ⟨rfl, rfl, rfl, trivial⟩) (t221_26  l1 l4 s0 (0 : Int32) _ hM h)
def w221 (l0 : Int32) (l1 : Int64) (l3 : Int32) (l4 : Int64) (M : MM) (P : Int32 → MM → Prop) : Prop := ((lg_cmp l1 (0 : Int64)) ≠ 0 → (w221_11  l1 l3 l4 l0 M P)) ∧ (¬ ((lg_cmp l1 (0 : Int64)) ≠ 0) → (w221_11  l1 l3 l4 (0 : Int32) M P))
theorem t221_E {sl : Nat} {sx : Nat → Int32} {d : Nat} {M0 : MM} {P : Int32 → MM → Prop} (l0 : Int32) (l1 : Int64) (l3 : Int32) (l4 : Int64) (M : MM) (hM : lenO M0 M) (h : w221  l0 l1 l3 l4 M P) : R221 sl sx d M0 P 0 [some (vI l0), some (vL l1), none, some (vI l3), some (vL l4), none, none, none] [] M := by
  refine RN_k (callX_det _) 4 _ _ _ _ (show ((lg_cmp l1 (0 : Int64)) ≠ 0 → R221 sl sx d M0 P 10 [some (vI l0), some (vL l1), none, some (vI l3), some (vL l4), none, none, none] [] M) ∧ (¬ ((lg_cmp l1 (0 : Int64)) ≠ 0) → R221 sl sx d M0 P 6 [some (vI l0), some (vL l1), none, some (vI l3), some (vL l4), none, none, none] [] M) from ⟨fun hc => ?_, fun hc => ?_⟩)
  · replace h := h.1 hc
    refine RN_k (callX_det _) 1 _ _ _ _ (show R221 sl sx d M0 P 11 [some (vI l0), some (vL l1), none, some (vI l3), some (vL l4), none, none, none] [vI l0] M from ?_)
    exact RN_weak (K := [none, some (vL l1), none, some (vI l3), some (vL l4), none, none, none]) (callX_det _) (show _ ∧ _ ∧ _ ∧ True from ⟨rfl, rfl, rfl, trivial⟩) (t221_11  l1 l3 l4 l0 _ hM h)
  · replace h := h.2 hc
    refine RN_k (callX_det _) 2 _ _ _ _ (show R221 sl sx d M0 P 11 [some (vI l0), some (vL l1), none, some (vI l3), some (vL l4), none, none, none] [vI (0 : Int32)] M from ?_)
    exact RN_weak (K := [none, some (vL l1), none, some (vI l3), some (vL l4), none, none, none]) (callX_det _) (show _ ∧ _ ∧ _ ∧ True from ⟨rfl, rfl, rfl, trivial⟩) (t221_11  l1 l3 l4 (0 : Int32) _ hM h)
theorem c221 {sl : Nat} {sx : Nat → Int32} {d : Nat} {l0 : Int32} {l1 : Int64} {l3 : Int32} {l4 : Int64} {M : MM} {P : Int32 → MM → Prop} (h : w221 l0 l1 l3 l4 M P) : callX TBg sl sx (d + 1) 221 [vI l0, vL l1, vI l3, vL l4] M (PI P) :=
  cX (d := d + 0) q221 (false, tb221) rfl rfl rfl (t221_E l0 l1 l3 l4 M lenR h)
-- java/lang/Long.signum(J)I
abbrev q222 : MQ7 := (1, 0, 2, 13, 0, 0, 1)
abbrev R222 (sl : Nat) (sx : Nat → Int32) (d : Nat) (M0 : MM) (P : Int32 → MM → Prop) : Nat → LL → List VV → MM → Prop := RN 13 false (mS M0).length (mT M0) 0 0 sl sx (callX TBg sl sx (d + 0)) (rtW q222 M0 (PI P)) (as2 tb222)
def w222 (l0 : Int64) (M : MM) (P : Int32 → MM → Prop) : Prop := P (((l0 >>> ((63 : Int32).toInt64 &&& 63)) ||| (((-l0).toUInt64 >>> ((63 : Int32).toInt64.toUInt64 &&& Int64.toUInt64 63)).toInt64)).toInt32) M
theorem t222_E {sl : Nat} {sx : Nat → Int32} {d : Nat} {M0 : MM} {P : Int32 → MM → Prop} (l0 : Int64) (M : MM) (hM : lenO M0 M) (h : w222  l0 M P) : R222 sl sx d M0 P 0 [some (vL l0), none] [] M := by
  exact RN_k (callX_det _) 10 _ _ _ _ (show rtW q222 M0 (PI P) (some (vI (((l0 >>> ((63 : Int32).toInt64 &&& 63)) ||| (((-l0).toUInt64 >>> ((63 : Int32).toInt64.toUInt64 &&& Int64.toUInt64 63)).toInt64)).toInt32))) M from ⟨⟨_, rfl⟩, hM.1, hM.2, _, rfl, h⟩)
theorem c222 {sl : Nat} {sx : Nat → Int32} {d : Nat} {l0 : Int64} {M : MM} {P : Int32 → MM → Prop} (h : w222 l0 M P) : callX TBg sl sx (d + 1) 222 [vL l0] M (PI P) :=
  cX (d := d + 0) q222 (false, tb222) rfl rfl rfl (t222_E l0 M lenR h)
-- java/lang/Math.abs(J)J
abbrev q224 : MQ7 := (1, 0, 2, 14, 0, 0, 2)
abbrev R224 (sl : Nat) (sx : Nat → Int32) (d : Nat) (M0 : MM) (P : Int64 → MM → Prop) : Nat → LL → List VV → MM → Prop := RN 14 false (mS M0).length (mT M0) 0 0 sl sx (callX TBg sl sx (d + 0)) (rtW q224 M0 (PL P)) (as2 tb224)
def w224_12 (s0 : Int64) (M : MM) (P : Int64 → MM → Prop) : Prop := P s0 M
theorem t224_12 {sl : Nat} {sx : Nat → Int32} {d : Nat} {M0 : MM} {P : Int64 → MM → Prop} (s0 : Int64) (M : MM) (hM : lenO M0 M) (h : w224_12  s0 M P) : R224 sl sx d M0 P 12 [none, none] [vL s0] M := by
  exact RN_k (callX_det _) 1 _ _ _ _ (show rtW q224 M0 (PL P) (some (vL s0)) M from ⟨⟨_, rfl⟩, hM.1, hM.2, _, rfl, h⟩)
def w224 (l0 : Int64) (M : MM) (P : Int64 → MM → Prop) : Prop := (0 ≤ (lg_cmp l0 (0 : Int64)) → (w224_12  l0 M P)) ∧ (¬ (0 ≤ (lg_cmp l0 (0 : Int64))) → (w224_12  (-l0) M P))
theorem t224_E {sl : Nat} {sx : Nat → Int32} {d : Nat} {M0 : MM} {P : Int64 → MM → Prop} (l0 : Int64) (M : MM) (hM : lenO M0 M) (h : w224  l0 M P) : R224 sl sx d M0 P 0 [some (vL l0), none] [] M := by
  refine RN_k (callX_det _) 4 _ _ _ _ (show (0 ≤ (lg_cmp l0 (0 : Int64)) → R224 sl sx d M0 P 11 [some (vL l0), none] [] M) ∧ (¬ (0 ≤ (lg_cmp l0 (0 : Int64))) → R224 sl sx d M0 P 6 [some (vL l0), none] [] M) from ⟨fun hc => ?_, fun hc => ?_⟩)
  · replace h := h.1 hc
    refine RN_k (callX_det _) 1 _ _ _ _ (show R224 sl sx d M0 P 12 [some (vL l0), none] [vL l0] M from ?_)
    exact RN_weak (K := [none, none]) (callX_det _) (show True from trivial) (t224_12  l0 _ hM h)
  · replace h := h.2 hc
    refine RN_k (callX_det _) 3 _ _ _ _ (show R224 sl sx d M0 P 12 [some (vL l0), none] [vL (-l0)] M from ?_)
    exact RN_weak (K := [none, none]) (callX_det _) (show True from trivial) (t224_12  (-l0) _ hM h)
theorem c224 {sl : Nat} {sx : Nat → Int32} {d : Nat} {l0 : Int64} {M : MM} {P : Int64 → MM → Prop} (h : w224 l0 M P) : callX TBg sl sx (d + 1) 224 [vL l0] M (PL P) :=
  cX (d := d + 0) q224 (false, tb224) rfl rfl rfl (t224_E l0 M lenR h)
-- java/lang/Math.multiplyHigh(JJ)J
abbrev q226 : MQ7 := (2, 0, 20, 14, 0, 0, 2)
abbrev R226 (sl : Nat) (sx : Nat → Int32) (d : Nat) (M0 : MM) (P : Int64 → MM → Prop) : Nat → LL → List VV → MM → Prop := RN 14 false (mS M0).length (mT M0) 0 0 sl sx (callX TBg sl sx (d + 0)) (rtW q226 M0 (PL P)) (as2 tb226)
def w226_71 (l4 : Int64) (l8 : Int64) (l16 : Int64) (l18 : Int64) (M : MM) (P : Int64 → MM → Prop) : Prop := P (((l4 * l8) + l18) + (l16 >>> ((32 : Int32).toInt64 &&& 63))) M
theorem t226_71 {sl : Nat} {sx : Nat → Int32} {d : Nat} {M0 : MM} {P : Int64 → MM → Prop} (l4 : Int64) (l8 : Int64) (l16 : Int64) (l18 : Int64) (M : MM) (hM : lenO M0 M) (h : w226_71  l4 l8 l16 l18 M P) : R226 sl sx d M0 P 71 [none, none, none, none, some (vL l4), none, none, none, some (vL l8), none, none, none, none, none, none, none, some (vL l16), none, some (vL l18), none] [] M := by
  exact RN_k (callX_det _) 10 _ _ _ _ (show rtW q226 M0 (PL P) (some (vL (((l4 * l8) + l18) + (l16 >>> ((32 : Int32).toInt64 &&& 63))))) M from ⟨⟨_, rfl⟩, hM.1, hM.2, _, rfl, h⟩)
def w226_61 (l4 : Int64) (l6 : Int64) (l8 : Int64) (l16 : Int64) (l18 : Int64) (M : MM) (P : Int64 → MM → Prop) : Prop := w226_71  l4 l8 (l16 + (l6 * l8)) l18 M P
theorem t226_61 {sl : Nat} {sx : Nat → Int32} {d : Nat} {M0 : MM} {P : Int64 → MM → Prop} (l4 : Int64) (l6 : Int64) (l8 : Int64) (l16 : Int64) (l18 : Int64) (M : MM) (hM : lenO M0 M) (h : w226_61  l4 l6 l8 l16 l18 M P) : R226 sl sx d M0 P 61 [none, none, none, none, some (vL l4), none, some (vL l6), none, some (vL l8), none, none, none, none, none, none, none, some (vL l16), none, some (vL l18), none] [] M := by
  refine RN_k (callX_det _) 6 _ _ _ _ (show R226 sl sx d M0 P 71 [none, none, none, none, some (vL l4), none, some (vL l6), none, some (vL l8), none, none, none, none, none, none, none, some (vL (l16 + (l6 * l8))), none, some (vL l18), none] [] M from ?_)
  exact RN_weak (K := [none, none, none, none, some (vL l4), none, none, none, some (vL l8), none, none, none, none, none, none, none, some (vL (l16 + (l6 * l8))), none, some (vL l18), none]) (callX_det _) (show _ ∧ _ ∧ _ ∧ _ ∧ True from ⟨rfl, rfl, rfl, rfl, trivial⟩) (t226_71  l4 l8 (l16 + (l6 * l8)) l18 _ hM h)
def w226_54 (l4 : Int64) (l6 : Int64) (l8 : Int64) (l14 : Int64) (l16 : Int64) (M : MM) (P : Int64 → MM → Prop) : Prop := w226_61  l4 l6 l8 l16 (l14 >>> ((32 : Int32).toInt64 &&& 63)) M P
theorem t226_54 {sl : Nat} {sx : Nat → Int32} {d : Nat} {M0 : MM} {P : Int64 → MM → Prop} (l4 : Int64) (l6 : Int64) (l8 : Int64) (l14 : Int64) (l16 : Int64) (M : MM) (hM : lenO M0 M) (h : w226_54  l4 l6 l8 l14 l16 M P) : R226 sl sx d M0 P 54 [none, none, none, none, some (vL l4), none, some (vL l6), none, some (vL l8), none, none, none, none, none, some (vL l14), none, some (vL l16), none, none, none] [] M := by
  refine RN_k (callX_det _) 4 _ _ _ _ (show R226 sl sx d M0 P 61 [none, none, none, none, some (vL l4), none, some (vL l6), none, some (vL l8), none, none, none, none, none, some (vL l14), none, some (vL l16), none, some (vL (l14 >>> ((32 : Int32).toInt64 &&& 63))), none] [] M from ?_)
  exact RN_weak (K := [none, none, none, none, some (vL l4), none, some (vL l6), none, some (vL l8), none, none, none, none, none, none, none, some (vL l16), none, some (vL (l14 >>> ((32 : Int32).toInt64 &&& 63))), none]) (callX_det _) (show _ ∧ _ ∧ _ ∧ _ ∧ _ ∧ True from ⟨rfl, rfl, rfl, rfl, rfl, trivial⟩) (t226_61  l4 l6 l8 l16 (l14 >>> ((32 : Int32).toInt64 &&& 63)) _ hM h)
def w226_46 (l4 : Int64) (l6 : Int64) (l8 : Int64) (l14 : Int64) (M : MM) (P : Int64 → MM → Prop) : Prop := w226_54  l4 l6 l8 l14 (l14 &&& (4294967295 : Int64)) M P
theorem t226_46 {sl : Nat} {sx : Nat → Int32} {d : Nat} {M0 : MM} {P : Int64 → MM → Prop} (l4 : Int64) (l6 : Int64) (l8 : Int64) (l14 : Int64) (M : MM) (hM : lenO M0 M) (h : w226_46  l4 l6 l8 l14 M P) : R226 sl sx d M0 P 46 [none, none, none, none, some (vL l4), none, some (vL l6), none, some (vL l8), none, none, none, none, none, some (vL l14), none, none, none, none, none] [] M := by
  refine RN_k (callX_det _) 4 _ _ _ _ (show R226 sl sx d M0 P 54 [none, none, none, none, some (vL l4), none, some (vL l6), none, some (vL l8), none, none, none, none, none, some (vL l14), none, some (vL (l14 &&& (4294967295 : Int64))), none, none, none] [] M from ?_)
  exact RN_weak (K := [none, none, none, none, some (vL l4), none, some (vL l6), none, some (vL l8), none, none, none, none, none, some (vL l14), none, some (vL (l14 &&& (4294967295 : Int64))), none, none, none]) (callX_det _) (show _ ∧ _ ∧ _ ∧ _ ∧ _ ∧ True from ⟨rfl, rfl, rfl, rfl, rfl, trivial⟩) (t226_54  l4 l6 l8 l14 (l14 &&& (4294967295 : Int64)) _ hM h)
def w226_33 (l4 : Int64) (l6 : Int64) (l8 : Int64) (l10 : Int64) (l12 : Int64) (M : MM) (P : Int64 → MM → Prop) : Prop := w226_46  l4 l6 l8 ((l4 * l10) + ((l12.toUInt64 >>> ((32 : Int32).toInt64.toUInt64 &&& Int64.toUInt64 63)).toInt64)) M P
theorem t226_33 {sl : Nat} {sx : Nat → Int32} {d : Nat} {M0 : MM} {P : Int64 → MM → Prop} (l4 : Int64) (l6 : Int64) (l8 : Int64) (l10 : Int64) (l12 : Int64) (M : MM) (hM : lenO M0 M) (h : w226_33  l4 l6 l8 l10 l12 M P) : R226 sl sx d M0 P 33 [none, none, none, none, some (vL l4), none, some (vL l6), none, some (vL l8), none, some (vL l10), none, some (vL l12), none, none, none, none, none, none, none] [] M := by
  refine RN_k (callX_det _) 8 _ _ _ _ (show R226 sl sx d M0 P 46 [none, none, none, none, some (vL l4), none, some (vL l6), none, some (vL l8), none, some (vL l10), none, some (vL l12), none, some (vL ((l4 * l10) + ((l12.toUInt64 >>> ((32 : Int32).toInt64.toUInt64 &&& Int64.toUInt64 63)).toInt64))), none, none, none, none, none] [] M from ?_)
  exact RN_weak (K := [none, none, none, none, some (vL l4), none, some (vL l6), none, some (vL l8), none, none, none, none, none, some (vL ((l4 * l10) + ((l12.toUInt64 >>> ((32 : Int32).toInt64.toUInt64 &&& Int64.toUInt64 63)).toInt64))), none, none, none, none, none]) (callX_det _) (show _ ∧ _ ∧ _ ∧ _ ∧ True from ⟨rfl, rfl, rfl, rfl, trivial⟩) (t226_46  l4 l6 l8 ((l4 * l10) + ((l12.toUInt64 >>> ((32 : Int32).toInt64.toUInt64 &&& Int64.toUInt64 63)).toInt64)) _ hM h)
def w226_26 (l4 : Int64) (l6 : Int64) (l8 : Int64) (l10 : Int64) (M : MM) (P : Int64 → MM → Prop) : Prop := w226_33  l4 l6 l8 l10 (l6 * l10) M P
theorem t226_26 {sl : Nat} {sx : Nat → Int32} {d : Nat} {M0 : MM} {P : Int64 → MM → Prop} (l4 : Int64) (l6 : Int64) (l8 : Int64) (l10 : Int64) (M : MM) (hM : lenO M0 M) (h : w226_26  l4 l6 l8 l10 M P) : R226 sl sx d M0 P 26 [none, none, none, none, some (vL l4), none, some (vL l6), none, some (vL l8), none, some (vL l10), none, none, none, none, none, none, none, none, none] [] M := by
  refine RN_k (callX_det _) 4 _ _ _ _ (show R226 sl sx d M0 P 33 [none, none, none, none, some (vL l4), none, some (vL l6), none, some (vL l8), none, some (vL l10), none, some (vL (l6 * l10)), none, none, none, none, none, none, none] [] M from ?_)
  exact RN_weak (K := [none, none, none, none, some (vL l4), none, some (vL l6), none, some (vL l8), none, some (vL l10), none, some (vL (l6 * l10)), none, none, none, none, none, none, none]) (callX_det _) (show _ ∧ _ ∧ _ ∧ _ ∧ _ ∧ True from ⟨rfl, rfl, rfl, rfl, rfl, trivial⟩) (t226_33  l4 l6 l8 l10 (l6 * l10) _ hM h)
def w226_19 (l2 : Int64) (l4 : Int64) (l6 : Int64) (l8 : Int64) (M : MM) (P : Int64 → MM → Prop) : Prop := w226_26  l4 l6 l8 (l2 &&& (4294967295 : Int64)) M P
theorem t226_19 {sl : Nat} {sx : Nat → Int32} {d : Nat} {M0 : MM} {P : Int64 → MM → Prop} (l2 : Int64) (l4 : Int64) (l6 : Int64) (l8 : Int64) (M : MM) (hM : lenO M0 M) (h : w226_19  l2 l4 l6 l8 M P) : R226 sl sx d M0 P 19 [none, none, some (vL l2), none, some (vL l4), none, some (vL l6), none, some (vL l8), none, none, none, none, none, none, none, none, none, none, none] [] M := by
  refine RN_k (callX_det _) 4 _ _ _ _ (show R226 sl sx d M0 P 26 [none, none, some (vL l2), none, some (vL l4), none, some (vL l6), none, some (vL l8), none, some (vL (l2 &&& (4294967295 : Int64))), none, none, none, none, none, none, none, none, none] [] M from ?_)
  exact RN_weak (K := [none, none, none, none, some (vL l4), none, some (vL l6), none, some (vL l8), none, some (vL (l2 &&& (4294967295 : Int64))), none, none, none, none, none, none, none, none, none]) (callX_det _) (show _ ∧ _ ∧ _ ∧ _ ∧ True from ⟨rfl, rfl, rfl, rfl, trivial⟩) (t226_26  l4 l6 l8 (l2 &&& (4294967295 : Int64)) _ hM h)
def w226_13 (l2 : Int64) (l4 : Int64) (l6 : Int64) (M : MM) (P : Int64 → MM → Prop) : Prop := w226_19  l2 l4 l6 (l2 >>> ((32 : Int32).toInt64 &&& 63)) M P
theorem t226_13 {sl : Nat} {sx : Nat → Int32} {d : Nat} {M0 : MM} {P : Int64 → MM → Prop} (l2 : Int64) (l4 : Int64) (l6 : Int64) (M : MM) (hM : lenO M0 M) (h : w226_13  l2 l4 l6 M P) : R226 sl sx d M0 P 13 [none, none, some (vL l2), none, some (vL l4), none, some (vL l6), none, none, none, none, none, none, none, none, none, none, none, none, none] [] M := by
  refine RN_k (callX_det _) 4 _ _ _ _ (show R226 sl sx d M0 P 19 [none, none, some (vL l2), none, some (vL l4), none, some (vL l6), none, some (vL (l2 >>> ((32 : Int32).toInt64 &&& 63))), none, none, none, none, none, none, none, none, none, none, none] [] M from ?_)
  exact RN_weak (K := [none, none, some (vL l2), none, some (vL l4), none, some (vL l6), none, some (vL (l2 >>> ((32 : Int32).toInt64 &&& 63))), none, none, none, none, none, none, none, none, none, none, none]) (callX_det _) (show _ ∧ _ ∧ _ ∧ _ ∧ True from ⟨rfl, rfl, rfl, rfl, trivial⟩) (t226_19  l2 l4 l6 (l2 >>> ((32 : Int32).toInt64 &&& 63)) _ hM h)
def w226_6 (l0 : Int64) (l2 : Int64) (l4 : Int64) (M : MM) (P : Int64 → MM → Prop) : Prop := w226_13  l2 l4 (l0 &&& (4294967295 : Int64)) M P
theorem t226_6 {sl : Nat} {sx : Nat → Int32} {d : Nat} {M0 : MM} {P : Int64 → MM → Prop} (l0 : Int64) (l2 : Int64) (l4 : Int64) (M : MM) (hM : lenO M0 M) (h : w226_6  l0 l2 l4 M P) : R226 sl sx d M0 P 6 [some (vL l0), none, some (vL l2), none, some (vL l4), none, none, none, none, none, none, none, none, none, none, none, none, none, none, none] [] M := by
  refine RN_k (callX_det _) 4 _ _ _ _ (show R226 sl sx d M0 P 13 [some (vL l0), none, some (vL l2), none, some (vL l4), none, some (vL (l0 &&& (4294967295 : Int64))), none, none, none, none, none, none, none, none, none, none, none, none, none] [] M from ?_)
  exact RN_weak (K := [none, none, some (vL l2), none, some (vL l4), none, some (vL (l0 &&& (4294967295 : Int64))), none, none, none, none, none, none, none, none, none, none, none, none, none]) (callX_det _) (show _ ∧ _ ∧ _ ∧ True from ⟨rfl, rfl, rfl, trivial⟩) (t226_13  l2 l4 (l0 &&& (4294967295 : Int64)) _ hM h)
def w226 (l0 : Int64) (l2 : Int64) (M : MM) (P : Int64 → MM → Prop) : Prop := w226_6  l0 l2 (l0 >>> ((32 : Int32).toInt64 &&& 63)) M P
theorem t226_E {sl : Nat} {sx : Nat → Int32} {d : Nat} {M0 : MM} {P : Int64 → MM → Prop} (l0 : Int64) (l2 : Int64) (M : MM) (hM : lenO M0 M) (h : w226  l0 l2 M P) : R226 sl sx d M0 P 0 [some (vL l0), none, some (vL l2), none, none, none, none, none, none, none, none, none, none, none, none, none, none, none, none, none] [] M := by
  refine RN_k (callX_det _) 4 _ _ _ _ (show R226 sl sx d M0 P 6 [some (vL l0), none, some (vL l2), none, some (vL (l0 >>> ((32 : Int32).toInt64 &&& 63))), none, none, none, none, none, none, none, none, none, none, none, none, none, none, none] [] M from ?_)
  exact RN_weak (K := [some (vL l0), none, some (vL l2), none, some (vL (l0 >>> ((32 : Int32).toInt64 &&& 63))), none, none, none, none, none, none, none, none, none, none, none, none, none, none, none]) (callX_det _) (show _ ∧ _ ∧ _ ∧ True from ⟨rfl, rfl, rfl, trivial⟩) (t226_6  l0 l2 (l0 >>> ((32 : Int32).toInt64 &&& 63)) _ hM h)
theorem c226 {sl : Nat} {sx : Nat → Int32} {d : Nat} {l0 : Int64} {l2 : Int64} {M : MM} {P : Int64 → MM → Prop} (h : w226 l0 l2 M P) : callX TBg sl sx (d + 1) 226 [vL l0, vL l2] M (PL P) :=
  cX (d := d + 0) q226 (false, tb226) rfl rfl rfl (t226_E l0 l2 M lenR h)
-- java/lang/Long.compareUnsigned(JJ)I
abbrev q227 : MQ7 := (2, 0, 4, 13, 0, 0, 1)
abbrev R227 (sl : Nat) (sx : Nat → Int32) (d : Nat) (M0 : MM) (P : Int32 → MM → Prop) : Nat → LL → List VV → MM → Prop := RN 13 false (mS M0).length (mT M0) 0 0 sl sx (callX TBg sl sx (d + 1)) (rtW q227 M0 (PI P)) (as2 tb227)
def w227 (l0 : Int64) (l2 : Int64) (M : MM) (P : Int32 → MM → Prop) : Prop := w200 (l0 + (-9223372036854775808 : Int64)) (l2 + (-9223372036854775808 : Int64)) M (fun r2 M1 => P r2 M1)
theorem t227_E {sl : Nat} {sx : Nat → Int32} {d : Nat} {M0 : MM} {P : Int32 → MM → Prop} (l0 : Int64) (l2 : Int64) (M : MM) (hM : lenO M0 M) (h : w227  l0 l2 M P) : R227 sl sx d M0 P 0 [some (vL l0), none, some (vL l2), none] [] M := by
  refine RN_k (callX_det _) 7 _ _ _ _ (show callX TBg sl sx (d + 1) 200 [vL (l0 + (-9223372036854775808 : Int64)), vL (l2 + (-9223372036854775808 : Int64))] M (fun v M9 => R227 sl sx d M0 P 13 [some (vL l0), none, some (vL l2), none] (pushO v []) M9) from ?_)
  refine callX_mono (callX_len (d := (d + 1)) rfl rfl rfl (c200 (d := d) h)) ?_
  clear h
  rintro v9 M1 ⟨hl, r2, rfl, h⟩
  replace hM := lenT hM hl
  show R227 sl sx d M0 P 13 [some (vL l0), none, some (vL l2), none] [vI r2] M1
  exact RN_k (callX_det _) 1 _ _ _ _ (show rtW q227 M0 (PI P) (some (vI r2)) M1 from ⟨⟨_, rfl⟩, hM.1, hM.2, _, rfl, h⟩)
theorem c227 {sl : Nat} {sx : Nat → Int32} {d : Nat} {l0 : Int64} {l2 : Int64} {M : MM} {P : Int32 → MM → Prop} (h : w227 l0 l2 M P) : callX TBg sl sx (d + 2) 227 [vL l0, vL l2] M (PI P) :=
  cX (d := d + 1) q227 (false, tb227) rfl rfl rfl (t227_E l0 l2 M lenR h)
-- TwoLeashModel.compared(JJJJ)I
abbrev q225 : MQ7 := (4, 0, 12, 10, 0, 0, 1)
abbrev R225 (sl : Nat) (sx : Nat → Int32) (d : Nat) (M0 : MM) (P : Int32 → MM → Prop) : Nat → LL → List VV → MM → Prop := RN 10 false (mS M0).length (mT M0) 0 0 sl sx (callX TBg sl sx (d + 2)) (rtW q225 M0 (PI P)) (as2 tb225)
def w225_45 (s0 : Int32) (M : MM) (P : Int32 → MM → Prop) : Prop := P s0 M
theorem t225_45 {sl : Nat} {sx : Nat → Int32} {d : Nat} {M0 : MM} {P : Int32 → MM → Prop} (s0 : Int32) (M : MM) (hM : lenO M0 M) (h : w225_45  s0 M P) : R225 sl sx d M0 P 45 [none, none, none, none, none, none, none, none, none, none, none, none] [vI s0] M := by
  exact RN_k (callX_det _) 1 _ _ _ _ (show rtW q225 M0 (PI P) (some (vI s0)) M from ⟨⟨_, rfl⟩, hM.1, hM.2, _, rfl, h⟩)
def w225 (l0 : Int64) (l2 : Int64) (l4 : Int64) (l6 : Int64) (M : MM) (P : Int32 → MM → Prop) : Prop := w226 l0 l2 M (fun r2 M1 => w226 l4 l6 M1 (fun r4 M3 => ((lg_cmp r2 r4) = 0 → (w227 (l0 * l2) (l4 * l6) M3 (fun r6 M5 => w225_45  r6 M5 P))) ∧ (¬ ((lg_cmp r2 r4) = 0) → (w200 r2 r4 M3 (fun r8 M7 => w225_45  r8 M7 P)))))
theorem t225_E {sl : Nat} {sx : Nat → Int32} {d : Nat} {M0 : MM} {P : Int32 → MM → Prop} (l0 : Int64) (l2 : Int64) (l4 : Int64) (l6 : Int64) (M : MM) (hM : lenO M0 M) (h : w225  l0 l2 l4 l6 M P) : R225 sl sx d M0 P 0 [some (vL l0), none, some (vL l2), none, some (vL l4), none, some (vL l6), none, none, none, none, none] [] M := by
  refine RN_k (callX_det _) 3 _ _ _ _ (show callX TBg sl sx (d + 2) 226 [vL l0, vL l2] M (fun v M9 => R225 sl sx d M0 P 5 [some (vL l0), none, some (vL l2), none, some (vL l4), none, some (vL l6), none, none, none, none, none] (pushO v []) M9) from ?_)
  refine callX_mono (callX_len (d := (d + 2)) rfl rfl rfl (c226 (d := d + 1) h)) ?_
  clear h
  rintro v9 M1 ⟨hl, r2, rfl, h⟩
  replace hM := lenT hM hl
  show R225 sl sx d M0 P 5 [some (vL l0), none, some (vL l2), none, some (vL l4), none, some (vL l6), none, none, none, none, none] [vL r2] M1
  refine RN_k (callX_det _) 4 _ _ _ _ (show callX TBg sl sx (d + 2) 226 [vL l4, vL l6] M1 (fun v M9 => R225 sl sx d M0 P 14 [some (vL l0), none, some (vL l2), none, some (vL l4), none, some (vL l6), none, some (vL r2), none, none, none] (pushO v []) M9) from ?_)
  refine callX_mono (callX_len (d := (d + 2)) rfl rfl rfl (c226 (d := d + 1) h)) ?_
  clear h
  rintro v9 M3 ⟨hl, r4, rfl, h⟩
  replace hM := lenT hM hl
  show R225 sl sx d M0 P 14 [some (vL l0), none, some (vL l2), none, some (vL l4), none, some (vL l6), none, some (vL r2), none, none, none] [vL r4] M3
  refine RN_k (callX_det _) 5 _ _ _ _ (show ((lg_cmp r2 r4) = 0 → R225 sl sx d M0 P 34 [some (vL l0), none, some (vL l2), none, some (vL l4), none, some (vL l6), none, some (vL r2), none, some (vL r4), none] [] M3) ∧ (¬ ((lg_cmp r2 r4) = 0) → R225 sl sx d M0 P 24 [some (vL l0), none, some (vL l2), none, some (vL l4), none, some (vL l6), none, some (vL r2), none, some (vL r4), none] [] M3) from ⟨fun hc => ?_, fun hc => ?_⟩)
  · replace h := h.1 hc
    refine RN_k (callX_det _) 7 _ _ _ _ (show callX TBg sl sx (d + 2) 227 [vL (l0 * l2), vL (l4 * l6)] M3 (fun v M9 => R225 sl sx d M0 P 45 [some (vL l0), none, some (vL l2), none, some (vL l4), none, some (vL l6), none, some (vL r2), none, some (vL r4), none] (pushO v []) M9) from ?_)
    refine callX_mono (callX_len (d := (d + 2)) rfl rfl rfl (c227 (d := d) h)) ?_
    clear h
    rintro v9 M5 ⟨hl, r6, rfl, h⟩
    replace hM := lenT hM hl
    show R225 sl sx d M0 P 45 [some (vL l0), none, some (vL l2), none, some (vL l4), none, some (vL l6), none, some (vL r2), none, some (vL r4), none] [vI r6] M5
    exact RN_weak (K := [none, none, none, none, none, none, none, none, none, none, none, none]) (callX_det _) (show True from trivial) (t225_45  r6 _ hM h)
  · replace h := h.2 hc
    refine RN_k (callX_det _) 3 _ _ _ _ (show callX TBg sl sx (d + 2) 200 [vL r2, vL r4] M3 (fun v M9 => R225 sl sx d M0 P 31 [some (vL l0), none, some (vL l2), none, some (vL l4), none, some (vL l6), none, some (vL r2), none, some (vL r4), none] (pushO v []) M9) from ?_)
    refine callX_mono (callX_len (d := (d + 2)) rfl rfl rfl (c200 (d := d + 1) h)) ?_
    clear h
    rintro v9 M7 ⟨hl, r8, rfl, h⟩
    replace hM := lenT hM hl
    show R225 sl sx d M0 P 31 [some (vL l0), none, some (vL l2), none, some (vL l4), none, some (vL l6), none, some (vL r2), none, some (vL r4), none] [vI r8] M7
    refine RN_k (callX_det _) 1 _ _ _ _ (show R225 sl sx d M0 P 45 [some (vL l0), none, some (vL l2), none, some (vL l4), none, some (vL l6), none, some (vL r2), none, some (vL r4), none] [vI r8] M7 from ?_)
    exact RN_weak (K := [none, none, none, none, none, none, none, none, none, none, none, none]) (callX_det _) (show True from trivial) (t225_45  r8 _ hM h)
theorem c225 {sl : Nat} {sx : Nat → Int32} {d : Nat} {l0 : Int64} {l2 : Int64} {l4 : Int64} {l6 : Int64} {M : MM} {P : Int32 → MM → Prop} (h : w225 l0 l2 l4 l6 M P) : callX TBg sl sx (d + 3) 225 [vL l0, vL l2, vL l4, vL l6] M (PI P) :=
  cX (d := d + 2) q225 (false, tb225) rfl rfl rfl (t225_E l0 l2 l4 l6 M lenR h)
