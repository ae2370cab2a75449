/-! ===== what must hold that a call ends with what is asked: printed by program ===== -/
def PI (P : Int32 → MM → Prop) : Option VV → MM → Prop := fun v M => ∃ r, v = some (vI r) ∧ P r M
def PL (P : Int64 → MM → Prop) : Option VV → MM → Prop := fun v M => ∃ r, v = some (vL r) ∧ P r M
def PR (P : Option Nat → MM → Prop) : Option VV → MM → Prop := fun v M => ∃ r, v = some (vR r) ∧ P r M
def PV (P : MM → Prop) : Option VV → MM → Prop := fun v M => v = none ∧ P M
/-- as many cells and slots -/
def lenO (M0 M : MM) : Prop := (mS M).length = (mS M0).length + 0 ∧ mT M = mT M0 + 0
theorem lenT {M0 M M' : MM} (h : lenO M0 M) (h' : lenO M M') : lenO M0 M' := ⟨by rw [h'.1, h.1], by rw [h'.2, h.2]⟩
theorem lenR {M : MM} : lenO M M := ⟨rfl, rfl⟩
theorem callX_len {TB : TBT} {sl : Nat} {sx : Nat → Int32} {d j : Nat} {as : List VV} {M : MM} {P : Option VV → MM → Prop} {q : MQ7} (hq : as2 MIg j = some q) (h1 : q.2.2.2.2.1 = 0) (h2 : q.2.2.2.2.2.1 = 0) (h : callX TB sl sx d j as M P) : callX TB sl sx d j as M (fun v M' => lenO M M' ∧ P v M') := by
  cases d with
  | zero => cases h
  | succ d =>
    unfold callX at h ⊢
    rw [hq] at h ⊢
    dsimp only at h ⊢
    cases ht : as2 TB j with
    | none => rw [ht] at h; cases h
    | some v =>
      rw [ht] at h
      dsimp only at h ⊢
      obtain ⟨hc, n, hn⟩ := cond_t h
      rw [hc]
      obtain ⟨v', M', b1, b2⟩ := run_det (callX_det d) _ _ _ _ _ hn
      refine ⟨n, b2 _ ⟨b1.1, b1.2.1, b1.2.2.1, ⟨?_, ?_⟩, b1.2.2.2⟩⟩
      · rw [b1.2.1, h1]
      · rw [b1.2.2.1, h2]
theorem cX {TB : TBT} {sl : Nat} {sx : Nat → Int32} {d j : Nat} {as : List VV} {M : MM} {post : Option VV → MM → Prop} (q : MQ7) (v : Bool × List (Nat × List (Nat × EE))) (hq : as2 MIg j = some q) (hv : as2 TB j = some v) (hal : Nat.ble (aL as).length q.2.2.1 = true)
    (h : RN q.2.2.2.1 v.1 (mS M).length (mT M) q.2.2.2.2.1 q.2.2.2.2.2.1 sl sx (callX TB sl sx d) (rtW q M post) (as2 v.2) 0 (aLn q.2.2.1 as) [] M) : callX TB sl sx (d + 1) j as M post := by
  unfold callX
  rw [hq]
  dsimp only
  rw [hv]
  dsimp only
  rw [hal]
  exact h
-- TwoLeash.status()I
abbrev q11 : MQ7 := (1, 1, 1, 9, 0, 0, 1)
abbrev R11 (sl : Nat) (sx : Nat → Int32) (d : Nat) (M0 : MM) (P : Int32 → MM → Prop) : Nat → LL → List VV → MM → Prop := RN 9 false (mS M0).length (mT M0) 0 0 sl sx (callX TBg sl sx (d + 0)) (rtW q11 M0 (PI P)) (as2 tb11)
def w11 (l0 : Nat) (M : MM) (P : Int32 → MM → Prop) : Prop := kd M l0 9 ∧ (P (mI M l0 10) M)
theorem t11_E {sl : Nat} {sx : Nat → Int32} {d : Nat} {M0 : MM} {P : Int32 → MM → Prop} (l0 : Nat) (M : MM) (hM : lenO M0 M) (h : w11  l0 M P) : R11 sl sx d M0 P 0 [some (vR (some l0))] [] M := by
  refine RN_k (callX_det _) 2 _ _ _ _ (show kd M l0 9 ∧ R11 sl sx d M0 P 4 [some (vR (some l0))] [vI (mI M l0 10)] M from ⟨h.1, ?_⟩)
  replace h := h.2
  exact RN_k (callX_det _) 1 _ _ _ _ (show rtW q11 M0 (PI P) (some (vI (mI M l0 10))) M from ⟨⟨_, rfl⟩, hM.1, hM.2, _, rfl, h⟩)
theorem c11 {sl : Nat} {sx : Nat → Int32} {d : Nat} {l0 : Nat} {M : MM} {P : Int32 → MM → Prop} (h : w11 l0 M P) : callX TBg sl sx (d + 1) 11 [vR (some l0)] M (PI P) :=
  cX (d := d + 0) q11 (false, tb11) rfl rfl rfl (t11_E l0 M lenR h)
-- TwoLeash.top()J
abbrev q12 : MQ7 := (1, 1, 1, 9, 0, 0, 2)
abbrev R12 (sl : Nat) (sx : Nat → Int32) (d : Nat) (M0 : MM) (P : Int64 → MM → Prop) : Nat → LL → List VV → MM → Prop := RN 9 false (mS M0).length (mT M0) 0 0 sl sx (callX TBg sl sx (d + 0)) (rtW q12 M0 (PL P)) (as2 tb12)
def w12 (l0 : Nat) (M : MM) (P : Int64 → MM → Prop) : Prop := kd M l0 9 ∧ (∃ a1, mR M l0 11 = some a1 ∧ (kd M a1 3 ∧ (P (mL M a1 0) M)))
theorem t12_E {sl : Nat} {sx : Nat → Int32} {d : Nat} {M0 : MM} {P : Int64 → MM → Prop} (l0 : Nat) (M : MM) (hM : lenO M0 M) (h : w12  l0 M P) : R12 sl sx d M0 P 0 [some (vR (some l0))] [] M := by
  refine RN_k (callX_det _) 2 _ _ _ _ (show kd M l0 9 ∧ R12 sl sx d M0 P 4 [some (vR (some l0))] [vR (mR M l0 11)] M from ⟨h.1, ?_⟩)
  replace h := h.2
  obtain ⟨a1, he, h⟩ := h
  rw [he]
  refine RN_k (callX_det _) 1 _ _ _ _ (show kd M a1 3 ∧ R12 sl sx d M0 P 7 [some (vR (some l0))] [vL (mL M a1 0)] M from ⟨h.1, ?_⟩)
  replace h := h.2
  exact RN_k (callX_det _) 1 _ _ _ _ (show rtW q12 M0 (PL P) (some (vL (mL M a1 0))) M from ⟨⟨_, rfl⟩, hM.1, hM.2, _, rfl, h⟩)
theorem c12 {sl : Nat} {sx : Nat → Int32} {d : Nat} {l0 : Nat} {M : MM} {P : Int64 → MM → Prop} (h : w12 l0 M P) : callX TBg sl sx (d + 1) 12 [vR (some l0)] M (PL P) :=
  cX (d := d + 0) q12 (false, tb12) rfl rfl rfl (t12_E l0 M lenR h)
-- TwoLeash.bottom()J
abbrev q13 : MQ7 := (1, 1, 1, 9, 0, 0, 2)
abbrev R13 (sl : Nat) (sx : Nat → Int32) (d : Nat) (M0 : MM) (P : Int64 → MM → Prop) : Nat → LL → List VV → MM → Prop := RN 9 false (mS M0).length (mT M0) 0 0 sl sx (callX TBg sl sx (d + 0)) (rtW q13 M0 (PL P)) (as2 tb13)
def w13 (l0 : Nat) (M : MM) (P : Int64 → MM → Prop) : Prop := kd M l0 9 ∧ (∃ a1, mR M l0 11 = some a1 ∧ (kd M a1 3 ∧ (P (mL M a1 1) M)))
theorem t13_E {sl : Nat} {sx : Nat → Int32} {d : Nat} {M0 : MM} {P : Int64 → MM → Prop} (l0 : Nat) (M : MM) (hM : lenO M0 M) (h : w13  l0 M P) : R13 sl sx d M0 P 0 [some (vR (some l0))] [] M := by
  refine RN_k (callX_det _) 2 _ _ _ _ (show kd M l0 9 ∧ R13 sl sx d M0 P 4 [some (vR (some l0))] [vR (mR M l0 11)] M from ⟨h.1, ?_⟩)
  replace h := h.2
  obtain ⟨a1, he, h⟩ := h
  rw [he]
  refine RN_k (callX_det _) 1 _ _ _ _ (show kd M a1 3 ∧ R13 sl sx d M0 P 7 [some (vR (some l0))] [vL (mL M a1 1)] M from ⟨h.1, ?_⟩)
  replace h := h.2
  exact RN_k (callX_det _) 1 _ _ _ _ (show rtW q13 M0 (PL P) (some (vL (mL M a1 1))) M from ⟨⟨_, rfl⟩, hM.1, hM.2, _, rfl, h⟩)
theorem c13 {sl : Nat} {sx : Nat → Int32} {d : Nat} {l0 : Nat} {M : MM} {P : Int64 → MM → Prop} (h : w13 l0 M P) : callX TBg sl sx (d + 1) 13 [vR (some l0)] M (PL P) :=
  cX (d := d + 0) q13 (false, tb13) rfl rfl rfl (t13_E l0 M lenR h)
-- TwoLeash.tapeInt(I)V
abbrev q15 : MQ7 := (2, 1, 3, 9, 0, 0, 0)
abbrev R15 (sl : Nat) (sx : Nat → Int32) (d : Nat) (M0 : MM) (P : MM → Prop) : Nat → LL → List VV → MM → Prop := RN 9 false (mS M0).length (mT M0) 0 0 sl sx (callX TBg sl sx (d + 0)) (rtW q15 M0 (PV P)) (as2 tb15)
def w15_46 (M : MM) (P : MM → Prop) : Prop := P M
theorem t15_46 {sl : Nat} {sx : Nat → Int32} {d : Nat} {M0 : MM} {P : MM → Prop}  (M : MM) (hM : lenO M0 M) (h : w15_46   M P) : R15 sl sx d M0 P 46 [none, none, none] [] M := by
  exact RN_k (callX_det _) 1 _ _ _ _ (show rtW q15 M0 (PV P) none M from ⟨rfl, hM.1, hM.2, rfl, h⟩)
def w15_40 (k3 : Nat → Int32 → Int32 → MM → Prop) (l0 : Nat) (l1 : Int32) (l2 : Int32) (M : MM) (P : MM → Prop) : Prop := k3 l0 l1 (l2 + (-8 : Int32)) M
theorem t15_40 {sl : Nat} {sx : Nat → Int32} {d : Nat} {M0 : MM} {P : MM → Prop} {k3 : Nat → Int32 → Int32 → MM → Prop} (hk3 : ∀ (l0 : Nat) (l1 : Int32) (l2 : Int32) (M : MM), lenO M0 M → k3 l0 l1 l2 M → R15 sl sx d M0 P 3 [some (vR (some l0)), some (vI l1), some (vI l2)] [] M) (l0 : Nat) (l1 : Int32) (l2 : Int32) (M : MM) (hM : lenO M0 M) (h : w15_40 k3 l0 l1 l2 M P) : R15 sl sx d M0 P 40 [some (vR (some l0)), some (vI l1), some (vI l2)] [] M := by
  refine RN_k (callX_det _) 2 _ _ _ _ (show R15 sl sx d M0 P 3 [some (vR (some l0)), some (vI l1), some (vI (l2 + (-8 : Int32)))] [] M from ?_)
  exact RN_weak (K := [some (vR (some l0)), some (vI l1), some (vI (l2 + (-8 : Int32)))]) (callX_det _) (show _ ∧ _ ∧ _ ∧ True from ⟨rfl, rfl, rfl, trivial⟩) (hk3 l0 l1 (l2 + (-8 : Int32)) _ hM h)
def w15_3 : Nat → Nat → Int32 → Int32 → MM → (MM → Prop) → Prop
  | 0 => fun _ _ _ _ _ => False
  | n + 1 => fun l0 l1 l2 M P => (l2 < 0 → (w15_46  M P)) ∧ (¬ (l2 < 0) → (kd M l0 9 ∧ (((700 : Int32) ≤ (mI M l0 1) → (w15_46  M P)) ∧ (¬ ((700 : Int32) ≤ (mI M l0 1)) → (kd M l0 9 ∧ (kd M l0 9 ∧ (∃ a1, mR M l0 0 = some a1 ∧ (inb M a1 13 (mI M l0 1) ∧ (kd (sI M a1 (mI M l0 1).toNatClampNeg ((l1 >>> (l2 &&& 31)).toInt8.toInt32).toInt8.toInt32) l0 9 ∧ (kd (sI M a1 (mI M l0 1).toNatClampNeg ((l1 >>> (l2 &&& 31)).toInt8.toInt32).toInt8.toInt32) l0 9 ∧ (w15_40 (fun z0 z1 z2 z3 => w15_3  n z0 z1 z2 z3 P) l0 l1 l2 (sI (sI M a1 (mI M l0 1).toNatClampNeg ((l1 >>> (l2 &&& 31)).toInt8.toInt32).toInt8.toInt32) l0 1 ((mI (sI M a1 (mI M l0 1).toNatClampNeg ((l1 >>> (l2 &&& 31)).toInt8.toInt32).toInt8.toInt32) l0 1) + (1 : Int32))) P)))))))))))
theorem t15_3 {sl : Nat} {sx : Nat → Int32} {d : Nat} {M0 : MM} {P : MM → Prop} (n : Nat) : ∀ (l0 : Nat) (l1 : Int32) (l2 : Int32) (M : MM) (_ : lenO M0 M) (_ : w15_3  n l0 l1 l2 M P), R15 sl sx d M0 P 3 [some (vR (some l0)), some (vI l1), some (vI l2)] [] M := by
  induction n with
  | zero => intro l0 l1 l2 M hM h; cases h
  | succ n ih =>
    intro l0 l1 l2 M hM h
    refine RN_k (callX_det _) 2 _ _ _ _ (show (l2 < 0 → R15 sl sx d M0 P 46 [some (vR (some l0)), some (vI l1), some (vI l2)] [] M) ∧ (¬ (l2 < 0) → R15 sl sx d M0 P 7 [some (vR (some l0)), some (vI l1), some (vI l2)] [] M) from ⟨fun hc => ?_, fun hc => ?_⟩)
    · replace h := h.1 hc
      exact RN_weak (K := [none, none, none]) (callX_det _) (show True from trivial) (t15_46   _ hM h)
    · replace h := h.2 hc
      refine RN_k (callX_det _) 2 _ _ _ _ (show kd M l0 9 ∧ R15 sl sx d M0 P 11 [some (vR (some l0)), some (vI l1), some (vI l2)] [vI (mI M l0 1)] M from ⟨h.1, ?_⟩)
      replace h := h.2
      refine RN_k (callX_det _) 2 _ _ _ _ (show ((700 : Int32) ≤ (mI M l0 1) → R15 sl sx d M0 P 46 [some (vR (some l0)), some (vI l1), some (vI l2)] [] M) ∧ (¬ ((700 : Int32) ≤ (mI M l0 1)) → R15 sl sx d M0 P 17 [some (vR (some l0)), some (vI l1), some (vI l2)] [] M) from ⟨fun hc => ?_, fun hc => ?_⟩)
      · replace h := h.1 hc
        exact RN_weak (K := [none, none, none]) (callX_det _) (show True from trivial) (t15_46   _ hM h)
      · replace h := h.2 hc
        refine RN_k (callX_det _) 2 _ _ _ _ (show kd M l0 9 ∧ R15 sl sx d M0 P 21 [some (vR (some l0)), some (vI l1), some (vI l2)] [vR (mR M l0 0)] M from ⟨h.1, ?_⟩)
        replace h := h.2
        refine RN_k (callX_det _) 2 _ _ _ _ (show kd M l0 9 ∧ R15 sl sx d M0 P 25 [some (vR (some l0)), some (vI l1), some (vI l2)] [vI (mI M l0 1), vR (mR M l0 0)] M from ⟨h.1, ?_⟩)
        replace h := h.2
        obtain ⟨a1, he, h⟩ := h
        refine RN_k (callX_det _) 4 _ _ _ _ (show R15 sl sx d M0 P 29 [some (vR (some l0)), some (vI l1), some (vI l2)] [vI ((l1 >>> (l2 &&& 31)).toInt8.toInt32), vI (mI M l0 1), vR (mR M l0 0)] M from ?_)
        rw [he]
        refine RN_k (callX_det _) 1 _ _ _ _ (show inb M a1 13 (mI M l0 1) ∧ R15 sl sx d M0 P 30 [some (vR (some l0)), some (vI l1), some (vI l2)] [] (sI M a1 (mI M l0 1).toNatClampNeg ((l1 >>> (l2 &&& 31)).toInt8.toInt32).toInt8.toInt32) from ⟨h.1, ?_⟩)
        replace h := h.2
        refine RN_k (callX_det _) 3 _ _ _ _ (show kd (sI M a1 (mI M l0 1).toNatClampNeg ((l1 >>> (l2 &&& 31)).toInt8.toInt32).toInt8.toInt32) l0 9 ∧ R15 sl sx d M0 P 35 [some (vR (some l0)), some (vI l1), some (vI l2)] [vI (mI (sI M a1 (mI M l0 1).toNatClampNeg ((l1 >>> (l2 &&& 31)).toInt8.toInt32).toInt8.toInt32) l0 1), vR (some l0)] (sI M a1 (mI M l0 1).toNatClampNeg ((l1 >>> (l2 &&& 31)).toInt8.toInt32).toInt8.toInt32) from ⟨h.1, ?_⟩)
        replace h := h.2
        refine RN_k (callX_det _) 3 _ _ _ _ (show kd (sI M a1 (mI M l0 1).toNatClampNeg ((l1 >>> (l2 &&& 31)).toInt8.toInt32).toInt8.toInt32) l0 9 ∧ R15 sl sx d M0 P 40 [some (vR (some l0)), some (vI l1), some (vI l2)] [] (sI (sI M a1 (mI M l0 1).toNatClampNeg ((l1 >>> (l2 &&& 31)).toInt8.toInt32).toInt8.toInt32) l0 1 ((mI (sI M a1 (mI M l0 1).toNatClampNeg ((l1 >>> (l2 &&& 31)).toInt8.toInt32).toInt8.toInt32) l0 1) + (1 : Int32))) from ⟨h.1, ?_⟩)
        replace h := h.2
        exact RN_weak (K := [some (vR (some l0)), some (vI l1), some (vI l2)]) (callX_det _) (show _ ∧ _ ∧ _ ∧ True from ⟨rfl, rfl, rfl, trivial⟩) (t15_40 ih l0 l1 l2 _ hM h)
def w15 (l0 : Nat) (l1 : Int32) (M : MM) (P : MM → Prop) : Prop := ∃ n2, w15_3  n2 l0 l1 (24 : Int32) M P
theorem t15_E {sl : Nat} {sx : Nat → Int32} {d : Nat} {M0 : MM} {P : MM → Prop} (l0 : Nat) (l1 : Int32) (M : MM) (hM : lenO M0 M) (h : w15  l0 l1 M P) : R15 sl sx d M0 P 0 [some (vR (some l0)), some (vI l1), none] [] M := by
  refine RN_k (callX_det _) 2 _ _ _ _ (show R15 sl sx d M0 P 3 [some (vR (some l0)), some (vI l1), some (vI (24 : Int32))] [] M from ?_)
  obtain ⟨n2, h⟩ := h
  exact RN_weak (K := [some (vR (some l0)), some (vI l1), some (vI (24 : Int32))]) (callX_det _) (show _ ∧ _ ∧ _ ∧ True from ⟨rfl, rfl, rfl, trivial⟩) (t15_3  n2 l0 l1 (24 : Int32) _ hM h)
theorem c15 {sl : Nat} {sx : Nat → Int32} {d : Nat} {l0 : Nat} {l1 : Int32} {M : MM} {P : MM → Prop} (h : w15 l0 l1 M P) : callX TBg sl sx (d + 1) 15 [vR (some l0), vI l1] M (PV P) :=
  cX (d := d + 0) q15 (false, tb15) rfl rfl rfl (t15_E l0 l1 M lenR h)
-- TwoLeash.feed(IIIII)I
abbrev q14 : MQ7 := (6, 1, 6, 9, 0, 0, 1)
abbrev R14 (sl : Nat) (sx : Nat → Int32) (d : Nat) (M0 : MM) (P : Int32 → MM → Prop) : Nat → LL → List VV → MM → Prop := RN 9 false (mS M0).length (mT M0) 0 0 sl sx (callX TBg sl sx (d + 1)) (rtW q14 M0 (PI P)) (as2 tb14)
def w14 (l0 : Nat) (l1 : Int32) (l2 : Int32) (l3 : Int32) (l4 : Int32) (l5 : Int32) (M : MM) (P : Int32 → MM → Prop) : Prop := kd M l0 9 ∧ (((mI M l0 1) ≤ (680 : Int32) → (kd M l0 9 ∧ w15 l0 l1 M (fun M1 => kd M1 l0 9 ∧ w15 l0 l2 M1 (fun M2 => kd M2 l0 9 ∧ w15 l0 l3 M2 (fun M3 => kd M3 l0 9 ∧ w15 l0 l4 M3 (fun M4 => kd M4 l0 9 ∧ w15 l0 l5 M4 (fun M5 => kd M5 l0 9 ∧ (P (mI M5 l0 1) M5)))))))) ∧ (¬ ((mI M l0 1) ≤ (680 : Int32)) → (P (-1 : Int32) M)))
theorem t14_E {sl : Nat} {sx : Nat → Int32} {d : Nat} {M0 : MM} {P : Int32 → MM → Prop} (l0 : Nat) (l1 : Int32) (l2 : Int32) (l3 : Int32) (l4 : Int32) (l5 : Int32) (M : MM) (hM : lenO M0 M) (h : w14  l0 l1 l2 l3 l4 l5 M P) : R14 sl sx d M0 P 0 [some (vR (some l0)), some (vI l1), some (vI l2), some (vI l3), some (vI l4), some (vI l5)] [] M := by
  refine RN_k (callX_det _) 2 _ _ _ _ (show kd M l0 9 ∧ R14 sl sx d M0 P 4 [some (vR (some l0)), some (vI l1), some (vI l2), some (vI l3), some (vI l4), some (vI l5)] [vI (mI M l0 1)] M from ⟨h.1, ?_⟩)
  replace h := h.2
  refine RN_k (callX_det _) 2 _ _ _ _ (show ((mI M l0 1) ≤ (680 : Int32) → R14 sl sx d M0 P 12 [some (vR (some l0)), some (vI l1), some (vI l2), some (vI l3), some (vI l4), some (vI l5)] [] M) ∧ (¬ ((mI M l0 1) ≤ (680 : Int32)) → R14 sl sx d M0 P 10 [some (vR (some l0)), some (vI l1), some (vI l2), some (vI l3), some (vI l4), some (vI l5)] [] M) from ⟨fun hc => ?_, fun hc => ?_⟩)
  · replace h := h.1 hc
    refine RN_k (callX_det _) 3 _ _ _ _ (show kd M l0 9 ∧ callX TBg sl sx (d + 1) 15 [vR (some l0), vI l1] M (fun v M9 => R14 sl sx d M0 P 17 [some (vR (some l0)), some (vI l1), some (vI l2), some (vI l3), some (vI l4), some (vI l5)] (pushO v []) M9) from ⟨h.1, ?_⟩)
    replace h := h.2
    refine callX_mono (callX_len (d := (d + 1)) rfl rfl rfl (c15 (d := d) h)) ?_
    clear h
    rintro v9 M1 ⟨hl, rfl, h⟩
    replace hM := lenT hM hl
    show R14 sl sx d M0 P 17 [some (vR (some l0)), some (vI l1), some (vI l2), some (vI l3), some (vI l4), some (vI l5)] [] M1
    refine RN_k (callX_det _) 3 _ _ _ _ (show kd M1 l0 9 ∧ callX TBg sl sx (d + 1) 15 [vR (some l0), vI l2] M1 (fun v M9 => R14 sl sx d M0 P 22 [some (vR (some l0)), some (vI l1), some (vI l2), some (vI l3), some (vI l4), some (vI l5)] (pushO v []) M9) from ⟨h.1, ?_⟩)
    replace h := h.2
    refine callX_mono (callX_len (d := (d + 1)) rfl rfl rfl (c15 (d := d) h)) ?_
    clear h
    rintro v9 M2 ⟨hl, rfl, h⟩
    replace hM := lenT hM hl
    show R14 sl sx d M0 P 22 [some (vR (some l0)), some (vI l1), some (vI l2), some (vI l3), some (vI l4), some (vI l5)] [] M2
    refine RN_k (callX_det _) 3 _ _ _ _ (show kd M2 l0 9 ∧ callX TBg sl sx (d + 1) 15 [vR (some l0), vI l3] M2 (fun v M9 => R14 sl sx d M0 P 27 [some (vR (some l0)), some (vI l1), some (vI l2), some (vI l3), some (vI l4), some (vI l5)] (pushO v []) M9) from ⟨h.1, ?_⟩)
    replace h := h.2
    refine callX_mono (callX_len (d := (d + 1)) rfl rfl rfl (c15 (d := d) h)) ?_
    clear h
    rintro v9 M3 ⟨hl, rfl, h⟩
    replace hM := lenT hM hl
    show R14 sl sx d M0 P 27 [some (vR (some l0)), some (vI l1), some (vI l2), some (vI l3), some (vI l4), some (vI l5)] [] M3
    refine RN_k (callX_det _) 3 _ _ _ _ (show kd M3 l0 9 ∧ callX TBg sl sx (d + 1) 15 [vR (some l0), vI l4] M3 (fun v M9 => R14 sl sx d M0 P 33 [some (vR (some l0)), some (vI l1), some (vI l2), some (vI l3), some (vI l4), some (vI l5)] (pushO v []) M9) from ⟨h.1, ?_⟩)
    replace h := h.2
    refine callX_mono (callX_len (d := (d + 1)) rfl rfl rfl (c15 (d := d) h)) ?_
    clear h
    rintro v9 M4 ⟨hl, rfl, h⟩
    replace hM := lenT hM hl
    show R14 sl sx d M0 P 33 [some (vR (some l0)), some (vI l1), some (vI l2), some (vI l3), some (vI l4), some (vI l5)] [] M4
    refine RN_k (callX_det _) 3 _ _ _ _ (show kd M4 l0 9 ∧ callX TBg sl sx (d + 1) 15 [vR (some l0), vI l5] M4 (fun v M9 => R14 sl sx d M0 P 39 [some (vR (some l0)), some (vI l1), some (vI l2), some (vI l3), some (vI l4), some (vI l5)] (pushO v []) M9) from ⟨h.1, ?_⟩)
    replace h := h.2
    refine callX_mono (callX_len (d := (d + 1)) rfl rfl rfl (c15 (d := d) h)) ?_
    clear h
    rintro v9 M5 ⟨hl, rfl, h⟩
    replace hM := lenT hM hl
    show R14 sl sx d M0 P 39 [some (vR (some l0)), some (vI l1), some (vI l2), some (vI l3), some (vI l4), some (vI l5)] [] M5
    refine RN_k (callX_det _) 2 _ _ _ _ (show kd M5 l0 9 ∧ R14 sl sx d M0 P 43 [some (vR (some l0)), some (vI l1), some (vI l2), some (vI l3), some (vI l4), some (vI l5)] [vI (mI M5 l0 1)] M5 from ⟨h.1, ?_⟩)
    replace h := h.2
    exact RN_k (callX_det _) 1 _ _ _ _ (show rtW q14 M0 (PI P) (some (vI (mI M5 l0 1))) M5 from ⟨⟨_, rfl⟩, hM.1, hM.2, _, rfl, h⟩)
  · replace h := h.2 hc
    exact RN_k (callX_det _) 2 _ _ _ _ (show rtW q14 M0 (PI P) (some (vI (-1 : Int32))) M from ⟨⟨_, rfl⟩, hM.1, hM.2, _, rfl, h⟩)
theorem c14 {sl : Nat} {sx : Nat → Int32} {d : Nat} {l0 : Nat} {l1 : Int32} {l2 : Int32} {l3 : Int32} {l4 : Int32} {l5 : Int32} {M : MM} {P : Int32 → MM → Prop} (h : w14 l0 l1 l2 l3 l4 l5 M P) : callX TBg sl sx (d + 2) 14 [vR (some l0), vI l1, vI l2, vI l3, vI l4, vI l5] M (PI P) :=
  cX (d := d + 1) q14 (false, tb14) rfl rfl rfl (t14_E l0 l1 l2 l3 l4 l5 M lenR h)
-- TwoLeash.refuse(I)I
abbrev q17 : MQ7 := (2, 1, 2, 9, 0, 0, 1)
abbrev R17 (sl : Nat) (sx : Nat → Int32) (d : Nat) (M0 : MM) (P : Int32 → MM → Prop) : Nat → LL → List VV → MM → Prop := RN 9 false (mS M0).length (mT M0) 0 0 sl sx (callX TBg sl sx (d + 0)) (rtW q17 M0 (PI P)) (as2 tb17)
def w17 (l0 : Nat) (l1 : Int32) (M : MM) (P : Int32 → MM → Prop) : Prop := kd M l0 9 ∧ (P (-1 : Int32) (sI M l0 10 l1))
theorem t17_E {sl : Nat} {sx : Nat → Int32} {d : Nat} {M0 : MM} {P : Int32 → MM → Prop} (l0 : Nat) (l1 : Int32) (M : MM) (hM : lenO M0 M) (h : w17  l0 l1 M P) : R17 sl sx d M0 P 0 [some (vR (some l0)), some (vI l1)] [] M := by
  refine RN_k (callX_det _) 3 _ _ _ _ (show kd M l0 9 ∧ R17 sl sx d M0 P 5 [some (vR (some l0)), some (vI l1)] [] (sI M l0 10 l1) from ⟨h.1, ?_⟩)
  replace h := h.2
  exact RN_k (callX_det _) 2 _ _ _ _ (show rtW q17 M0 (PI P) (some (vI (-1 : Int32))) (sI M l0 10 l1) from ⟨⟨_, rfl⟩, hM.1, hM.2, _, rfl, h⟩)
theorem c17 {sl : Nat} {sx : Nat → Int32} {d : Nat} {l0 : Nat} {l1 : Int32} {M : MM} {P : Int32 → MM → Prop} (h : w17 l0 l1 M P) : callX TBg sl sx (d + 1) 17 [vR (some l0), vI l1] M (PI P) :=
  cX (d := d + 0) q17 (false, tb17) rfl rfl rfl (t17_E l0 l1 M lenR h)
-- TwoLeash$Reader.isLetter(I)Z
abbrev q20 : MQ7 := (1, 0, 1, 6, 0, 0, 4)
abbrev R20 (sl : Nat) (sx : Nat → Int32) (d : Nat) (M0 : MM) (P : Int32 → MM → Prop) : Nat → LL → List VV → MM → Prop := RN 6 false (mS M0).length (mT M0) 0 0 sl sx (callX TBg sl sx (d + 0)) (rtW q20 M0 (PI P)) (as2 tb20)
def w20_17 (s0 : Int32) (M : MM) (P : Int32 → MM → Prop) : Prop := (s0 = 0 ∨ s0 = 1) ∧ P s0 M
theorem t20_17 {sl : Nat} {sx : Nat → Int32} {d : Nat} {M0 : MM} {P : Int32 → MM → Prop} (s0 : Int32) (M : MM) (hM : lenO M0 M) (h : w20_17  s0 M P) : R20 sl sx d M0 P 17 [none] [vI s0] M := by
  exact RN_k (callX_det _) 1 _ _ _ _ (show rtW q20 M0 (PI P) (some (vI s0)) M from ⟨⟨_, rfl, h.1⟩, hM.1, hM.2, _, rfl, h.2⟩)
def w20_16 (M : MM) (P : Int32 → MM → Prop) : Prop := w20_17  (0 : Int32) M P
theorem t20_16 {sl : Nat} {sx : Nat → Int32} {d : Nat} {M0 : MM} {P : Int32 → MM → Prop}  (M : MM) (hM : lenO M0 M) (h : w20_16   M P) : R20 sl sx d M0 P 16 [none] [] M := by
  refine RN_k (callX_det _) 1 _ _ _ _ (show R20 sl sx d M0 P 17 [none] [vI (0 : Int32)] M from ?_)
  exact RN_weak (K := [none]) (callX_det _) (show True from trivial) (t20_17  (0 : Int32) _ hM h)
def w20 (l0 : Int32) (M : MM) (P : Int32 → MM → Prop) : Prop := (l0 < (97 : Int32) → (w20_16  M P)) ∧ (¬ (l0 < (97 : Int32)) → (((122 : Int32) < l0 → (w20_16  M P)) ∧ (¬ ((122 : Int32) < l0) → (w20_17  (1 : Int32) M P))))
theorem t20_E {sl : Nat} {sx : Nat → Int32} {d : Nat} {M0 : MM} {P : Int32 → MM → Prop} (l0 : Int32) (M : MM) (hM : lenO M0 M) (h : w20  l0 M P) : R20 sl sx d M0 P 0 [some (vI l0)] [] M := by
  refine RN_k (callX_det _) 3 _ _ _ _ (show (l0 < (97 : Int32) → R20 sl sx d M0 P 16 [some (vI l0)] [] M) ∧ (¬ (l0 < (97 : Int32)) → R20 sl sx d M0 P 6 [some (vI l0)] [] M) from ⟨fun hc => ?_, fun hc => ?_⟩)
  · replace h := h.1 hc
    exact RN_weak (K := [none]) (callX_det _) (show True from trivial) (t20_16   _ hM h)
  · replace h := h.2 hc
    refine RN_k (callX_det _) 3 _ _ _ _ (show ((122 : Int32) < l0 → R20 sl sx d M0 P 16 [some (vI l0)] [] M) ∧ (¬ ((122 : Int32) < l0) → R20 sl sx d M0 P 12 [some (vI l0)] [] M) from ⟨fun hc => ?_, fun hc => ?_⟩)
    · replace h := h.1 hc
      exact RN_weak (K := [none]) (callX_det _) (show True from trivial) (t20_16   _ hM h)
    · replace h := h.2 hc
      refine RN_k (callX_det _) 2 _ _ _ _ (show R20 sl sx d M0 P 17 [some (vI l0)] [vI (1 : Int32)] M from ?_)
      exact RN_weak (K := [none]) (callX_det _) (show True from trivial) (t20_17  (1 : Int32) _ hM h)
theorem c20 {sl : Nat} {sx : Nat → Int32} {d : Nat} {l0 : Int32} {M : MM} {P : Int32 → MM → Prop} (h : w20 l0 M P) : callX TBg sl sx (d + 1) 20 [vI l0] M (PI P) :=
  cX (d := d + 0) q20 (false, tb20) rfl rfl rfl (t20_E l0 M lenR h)
-- TwoLeash$Reader.isDigit(I)Z
abbrev q21 : MQ7 := (1, 0, 1, 6, 0, 0, 4)
abbrev R21 (sl : Nat) (sx : Nat → Int32) (d : Nat) (M0 : MM) (P : Int32 → MM → Prop) : Nat → LL → List VV → MM → Prop := RN 6 false (mS M0).length (mT M0) 0 0 sl sx (callX TBg sl sx (d + 0)) (rtW q21 M0 (PI P)) (as2 tb21)
def w21_17 (s0 : Int32) (M : MM) (P : Int32 → MM → Prop) : Prop := (s0 = 0 ∨ s0 = 1) ∧ P s0 M
theorem t21_17 {sl : Nat} {sx : Nat → Int32} {d : Nat} {M0 : MM} {P : Int32 → MM → Prop} (s0 : Int32) (M : MM) (hM : lenO M0 M) (h : w21_17  s0 M P) : R21 sl sx d M0 P 17 [none] [vI s0] M := by
  exact RN_k (callX_det _) 1 _ _ _ _ (show rtW q21 M0 (PI P) (some (vI s0)) M from ⟨⟨_, rfl, h.1⟩, hM.1, hM.2, _, rfl, h.2⟩)
def w21_16 (M : MM) (P : Int32 → MM → Prop) : Prop := w21_17  (0 : Int32) M P
theorem t21_16 {sl : Nat} {sx : Nat → Int32} {d : Nat} {M0 : MM} {P : Int32 → MM → Prop}  (M : MM) (hM : lenO M0 M) (h : w21_16   M P) : R21 sl sx d M0 P 16 [none] [] M := by
  refine RN_k (callX_det _) 1 _ _ _ _ (show R21 sl sx d M0 P 17 [none] [vI (0 : Int32)] M from ?_)
  exact RN_weak (K := [none]) (callX_det _) (show True from trivial) (t21_17  (0 : Int32) _ hM h)
def w21 (l0 : Int32) (M : MM) (P : Int32 → MM → Prop) : Prop := (l0 < (48 : Int32) → (w21_16  M P)) ∧ (¬ (l0 < (48 : Int32)) → (((57 : Int32) < l0 → (w21_16  M P)) ∧ (¬ ((57 : Int32) < l0) → (w21_17  (1 : Int32) M P))))
theorem t21_E {sl : Nat} {sx : Nat → Int32} {d : Nat} {M0 : MM} {P : Int32 → MM → Prop} (l0 : Int32) (M : MM) (hM : lenO M0 M) (h : w21  l0 M P) : R21 sl sx d M0 P 0 [some (vI l0)] [] M := by
  refine RN_k (callX_det _) 3 _ _ _ _ (show (l0 < (48 : Int32) → R21 sl sx d M0 P 16 [some (vI l0)] [] M) ∧ (¬ (l0 < (48 : Int32)) → R21 sl sx d M0 P 6 [some (vI l0)] [] M) from ⟨fun hc => ?_, fun hc => ?_⟩)
  · replace h := h.1 hc
    exact RN_weak (K := [none]) (callX_det _) (show True from trivial) (t21_16   _ hM h)
  · replace h := h.2 hc
    refine RN_k (callX_det _) 3 _ _ _ _ (show ((57 : Int32) < l0 → R21 sl sx d M0 P 16 [some (vI l0)] [] M) ∧ (¬ ((57 : Int32) < l0) → R21 sl sx d M0 P 12 [some (vI l0)] [] M) from ⟨fun hc => ?_, fun hc => ?_⟩)
    · replace h := h.1 hc
      exact RN_weak (K := [none]) (callX_det _) (show True from trivial) (t21_16   _ hM h)
    · replace h := h.2 hc
      refine RN_k (callX_det _) 2 _ _ _ _ (show R21 sl sx d M0 P 17 [some (vI l0)] [vI (1 : Int32)] M from ?_)
      exact RN_weak (K := [none]) (callX_det _) (show True from trivial) (t21_17  (1 : Int32) _ hM h)
theorem c21 {sl : Nat} {sx : Nat → Int32} {d : Nat} {l0 : Int32} {M : MM} {P : Int32 → MM → Prop} (h : w21 l0 M P) : callX TBg sl sx (d + 1) 21 [vI l0] M (PI P) :=
  cX (d := d + 0) q21 (false, tb21) rfl rfl rfl (t21_E l0 M lenR h)
-- TwoLeash$Reader.scan([BI)V
abbrev q19 : MQ7 := (3, 1, 4, 6, 0, 0, 0)
abbrev R19 (sl : Nat) (sx : Nat → Int32) (d : Nat) (M0 : MM) (P : MM → Prop) : Nat → LL → List VV → MM → Prop := RN 6 false (mS M0).length (mT M0) 0 0 sl sx (callX TBg sl sx (d + 1)) (rtW q19 M0 (PV P)) (as2 tb19)
def w19_277 (M : MM) (P : MM → Prop) : Prop := P M
theorem t19_277 {sl : Nat} {sx : Nat → Int32} {d : Nat} {M0 : MM} {P : MM → Prop}  (M : MM) (hM : lenO M0 M) (h : w19_277   M P) : R19 sl sx d M0 P 277 [none, none, none, none] [] M := by
  exact RN_k (callX_det _) 1 _ _ _ _ (show rtW q19 M0 (PV P) none M from ⟨rfl, hM.1, hM.2, rfl, h⟩)
def w19_185 (s0 : Option Nat) (s1 : Int32) (M : MM) (P : MM → Prop) : Prop := ∃ a1, s0 = some a1 ∧ (kd M a1 6 ∧ (w19_277  (sI M a1 6 s1) P))
theorem t19_185 {sl : Nat} {sx : Nat → Int32} {d : Nat} {M0 : MM} {P : MM → Prop} (s0 : Option Nat) (s1 : Int32) (M : MM) (hM : lenO M0 M) (h : w19_185  s0 s1 M P) : R19 sl sx d M0 P 185 [none, none, none, none] [vI s1, vR s0] M := by
  obtain ⟨a1, he, h⟩ := h
  subst he
  refine RN_k (callX_det _) 1 _ _ _ _ (show kd M a1 6 ∧ R19 sl sx d M0 P 188 [none, none, none, none] [] (sI M a1 6 s1) from ⟨h.1, ?_⟩)
  replace h := h.2
  refine RN_k (callX_det _) 1 _ _ _ _ (show R19 sl sx d M0 P 277 [none, none, none, none] [] (sI M a1 6 s1) from ?_)
  exact RN_weak (K := [none, none, none, none]) (callX_det _) (show True from trivial) (t19_277   _ hM h)
def w19_165 (l0 : Nat) (M : MM) (P : MM → Prop) : Prop := kd M l0 6 ∧ (kd M l0 6 ∧ (((8 : Int32) < ((mI M l0 5) - (mI M l0 4)) → (w19_185  (some l0) (0 : Int32) M P)) ∧ (¬ ((8 : Int32) < ((mI M l0 5) - (mI M l0 4))) → (w19_185  (some l0) (1 : Int32) M P))))
theorem t19_165 {sl : Nat} {sx : Nat → Int32} {d : Nat} {M0 : MM} {P : MM → Prop} (l0 : Nat) (M : MM) (hM : lenO M0 M) (h : w19_165  l0 M P) : R19 sl sx d M0 P 165 [some (vR (some l0)), none, none, none] [] M := by
  refine RN_k (callX_det _) 3 _ _ _ _ (show kd M l0 6 ∧ R19 sl sx d M0 P 170 [some (vR (some l0)), none, none, none] [vI (mI M l0 5), vR (some l0)] M from ⟨h.1, ?_⟩)
  replace h := h.2
  refine RN_k (callX_det _) 2 _ _ _ _ (show kd M l0 6 ∧ R19 sl sx d M0 P 174 [some (vR (some l0)), none, none, none] [vI (mI M l0 4), vI (mI M l0 5), vR (some l0)] M from ⟨h.1, ?_⟩)
  replace h := h.2
  refine RN_k (callX_det _) 3 _ _ _ _ (show ((8 : Int32) < ((mI M l0 5) - (mI M l0 4)) → R19 sl sx d M0 P 184 [some (vR (some l0)), none, none, none] [vR (some l0)] M) ∧ (¬ ((8 : Int32) < ((mI M l0 5) - (mI M l0 4))) → R19 sl sx d M0 P 180 [some (vR (some l0)), none, none, none] [vR (some l0)] M) from ⟨fun hc => ?_, fun hc => ?_⟩)
  · replace h := h.1 hc
    refine RN_k (callX_det _) 1 _ _ _ _ (show R19 sl sx d M0 P 185 [some (vR (some l0)), none, none, none] [vI (0 : Int32), vR (some l0)] M from ?_)
    exact RN_weak (K := [none, none, none, none]) (callX_det _) (show True from trivial) (t19_185  (some l0) (0 : Int32) _ hM h)
  · replace h := h.2 hc
    refine RN_k (callX_det _) 2 _ _ _ _ (show R19 sl sx d M0 P 185 [some (vR (some l0)), none, none, none] [vI (1 : Int32), vR (some l0)] M from ?_)
    exact RN_weak (K := [none, none, none, none]) (callX_det _) (show True from trivial) (t19_185  (some l0) (1 : Int32) _ hM h)
def w19_162 (k113 : Nat → Option Nat → Int32 → MM → Prop) (l0 : Nat) (l1 : Option Nat) (l2 : Int32) (M : MM) (P : MM → Prop) : Prop := k113 l0 l1 l2 M
theorem t19_162 {sl : Nat} {sx : Nat → Int32} {d : Nat} {M0 : MM} {P : MM → Prop} {k113 : Nat → Option Nat → Int32 → MM → Prop} (hk113 : ∀ (l0 : Nat) (l1 : Option Nat) (l2 : Int32) (M : MM), lenO M0 M → k113 l0 l1 l2 M → R19 sl sx d M0 P 113 [some (vR (some l0)), some (vR l1), some (vI l2), none] [] M) (l0 : Nat) (l1 : Option Nat) (l2 : Int32) (M : MM) (hM : lenO M0 M) (h : w19_162 k113 l0 l1 l2 M P) : R19 sl sx d M0 P 162 [some (vR (some l0)), some (vR l1), some (vI l2), none] [] M := by
  refine RN_k (callX_det _) 1 _ _ _ _ (show R19 sl sx d M0 P 113 [some (vR (some l0)), some (vR l1), some (vI l2), none] [] M from ?_)
  exact RN_weak (K := [some (vR (some l0)), some (vR l1), some (vI l2), none]) (callX_det _) (show _ ∧ _ ∧ _ ∧ True from ⟨rfl, rfl, rfl, trivial⟩) (hk113 l0 l1 l2 _ hM h)
def w19_113 : Nat → Nat → Option Nat → Int32 → MM → (MM → Prop) → Prop
  | 0 => fun _ _ _ _ _ => False
  | n + 1 => fun l0 l1 l2 M P => kd M l0 6 ∧ ((l2 ≤ (mI M l0 5) → (w19_165  l0 M P)) ∧ (¬ (l2 ≤ (mI M l0 5)) → (kd M l0 6 ∧ (∃ a1, l1 = some a1 ∧ (inb M a1 13 (mI M l0 5) ∧ (w20 (mI M a1 (mI M l0 5).toNatClampNeg) M (fun r3 M2 => (r3 = 0 → (w19_165  l0 M2 P)) ∧ (¬ (r3 = 0) → (kd M2 l0 6 ∧ (kd M2 l0 6 ∧ (inb M2 a1 13 (mI M2 l0 5) ∧ (kd M2 l0 6 ∧ (kd (sL M2 l0 7 (((mL M2 l0 7) <<< ((8 : Int32).toInt64 &&& 63)) ||| ((mI M2 a1 (mI M2 l0 5).toNatClampNeg).toInt64))) l0 6 ∧ (kd (sL M2 l0 7 (((mL M2 l0 7) <<< ((8 : Int32).toInt64 &&& 63)) ||| ((mI M2 a1 (mI M2 l0 5).toNatClampNeg).toInt64))) l0 6 ∧ (w19_162 (fun z0 z1 z2 z3 => w19_113  n z0 z1 z2 z3 P) l0 (some a1) l2 (sI (sL M2 l0 7 (((mL M2 l0 7) <<< ((8 : Int32).toInt64 &&& 63)) ||| ((mI M2 a1 (mI M2 l0 5).toNatClampNeg).toInt64))) l0 5 ((mI (sL M2 l0 7 (((mL M2 l0 7) <<< ((8 : Int32).toInt64 &&& 63)) ||| ((mI M2 a1 (mI M2 l0 5).toNatClampNeg).toInt64))) l0 5) + (1 : Int32))) P)))))))))))))))
theorem t19_113 {sl : Nat} {sx : Nat → Int32} {d : Nat} {M0 : MM} {P : MM → Prop} (n : Nat) : ∀ (l0 : Nat) (l1 : Option Nat) (l2 : Int32) (M : MM) (_ : lenO M0 M) (_ : w19_113  n l0 l1 l2 M P), R19 sl sx d M0 P 113 [some (vR (some l0)), some (vR l1), some (vI l2), none] [] M := by
  induction n with
  | zero => intro l0 l1 l2 M hM h; cases h
  | succ n ih =>
    intro l0 l1 l2 M hM h
    refine RN_k (callX_det _) 2 _ _ _ _ (show kd M l0 6 ∧ R19 sl sx d M0 P 117 [some (vR (some l0)), some (vR l1), some (vI l2), none] [vI (mI M l0 5)] M from ⟨h.1, ?_⟩)
    replace h := h.2
    refine RN_k (callX_det _) 2 _ _ _ _ (show (l2 ≤ (mI M l0 5) → R19 sl sx d M0 P 165 [some (vR (some l0)), some (vR l1), some (vI l2), none] [] M) ∧ (¬ (l2 ≤ (mI M l0 5)) → R19 sl sx d M0 P 121 [some (vR (some l0)), some (vR l1), some (vI l2), none] [] M) from ⟨fun hc => ?_, fun hc => ?_⟩)
    · replace h := h.1 hc
      exact RN_weak (K := [some (vR (some l0)), none, none, none]) (callX_det _) (show _ ∧ True from ⟨rfl, trivial⟩) (t19_165  l0 _ hM h)
    · replace h := h.2 hc
      refine RN_k (callX_det _) 3 _ _ _ _ (show kd M l0 6 ∧ R19 sl sx d M0 P 126 [some (vR (some l0)), some (vR l1), some (vI l2), none] [vI (mI M l0 5), vR l1] M from ⟨h.1, ?_⟩)
      replace h := h.2
      obtain ⟨a1, he, h⟩ := h
      subst he
      refine RN_k (callX_det _) 1 _ _ _ _ (show inb M a1 13 (mI M l0 5) ∧ R19 sl sx d M0 P 127 [some (vR (some l0)), some (vR (some a1)), some (vI l2), none] [vI (mI M a1 (mI M l0 5).toNatClampNeg)] M from ⟨h.1, ?_⟩)
      replace h := h.2
      refine RN_k (callX_det _) 1 _ _ _ _ (show callX TBg sl sx (d + 1) 20 [vI (mI M a1 (mI M l0 5).toNatClampNeg)] M (fun v M9 => R19 sl sx d M0 P 130 [some (vR (some l0)), some (vR (some a1)), some (vI l2), none] (pushO v []) M9) from ?_)
      refine callX_mono (callX_len (d := (d + 1)) rfl rfl rfl (c20 (d := d) h)) ?_
      clear h
      rintro v9 M2 ⟨hl, r3, rfl, h⟩
      replace hM := lenT hM hl
      show R19 sl sx d M0 P 130 [some (vR (some l0)), some (vR (some a1)), some (vI l2), none] [vI r3] M2
      refine RN_k (callX_det _) 1 _ _ _ _ (show (r3 = 0 → R19 sl sx d M0 P 165 [some (vR (some l0)), some (vR (some a1)), some (vI l2), none] [] M2) ∧ (¬ (r3 = 0) → R19 sl sx d M0 P 133 [some (vR (some l0)), some (vR (some a1)), some (vI l2), none] [] M2) from ⟨fun hc => ?_, fun hc => ?_⟩)
      · replace h := h.1 hc
        exact RN_weak (K := [some (vR (some l0)), none, none, none]) (callX_det _) (show _ ∧ True from ⟨rfl, trivial⟩) (t19_165  l0 _ hM h)
      · replace h := h.2 hc
        refine RN_k (callX_det _) 3 _ _ _ _ (show kd M2 l0 6 ∧ R19 sl sx d M0 P 138 [some (vR (some l0)), some (vR (some a1)), some (vI l2), none] [vL (mL M2 l0 7), vR (some l0)] M2 from ⟨h.1, ?_⟩)
        replace h := h.2
        refine RN_k (callX_det _) 5 _ _ _ _ (show kd M2 l0 6 ∧ R19 sl sx d M0 P 146 [some (vR (some l0)), some (vR (some a1)), some (vI l2), none] [vI (mI M2 l0 5), vR (some a1), vL ((mL M2 l0 7) <<< ((8 : Int32).toInt64 &&& 63)), vR (some l0)] M2 from ⟨h.1, ?_⟩)
        replace h := h.2
        refine RN_k (callX_det _) 1 _ _ _ _ (show inb M2 a1 13 (mI M2 l0 5) ∧ R19 sl sx d M0 P 147 [some (vR (some l0)), some (vR (some a1)), some (vI l2), none] [vI (mI M2 a1 (mI M2 l0 5).toNatClampNeg), vL ((mL M2 l0 7) <<< ((8 : Int32).toInt64 &&& 63)), vR (some l0)] M2 from ⟨h.1, ?_⟩)
        replace h := h.2
        refine RN_k (callX_det _) 3 _ _ _ _ (show kd M2 l0 6 ∧ R19 sl sx d M0 P 152 [some (vR (some l0)), some (vR (some a1)), some (vI l2), none] [] (sL M2 l0 7 (((mL M2 l0 7) <<< ((8 : Int32).toInt64 &&& 63)) ||| ((mI M2 a1 (mI M2 l0 5).toNatClampNeg).toInt64))) from ⟨h.1, ?_⟩)
        replace h := h.2
        refine RN_k (callX_det _) 3 _ _ _ _ (show kd (sL M2 l0 7 (((mL M2 l0 7) <<< ((8 : Int32).toInt64 &&& 63)) ||| ((mI M2 a1 (mI M2 l0 5).toNatClampNeg).toInt64))) l0 6 ∧ R19 sl sx d M0 P 157 [some (vR (some l0)), some (vR (some a1)), some (vI l2), none] [vI (mI (sL M2 l0 7 (((mL M2 l0 7) <<< ((8 : Int32).toInt64 &&& 63)) ||| ((mI M2 a1 (mI M2 l0 5).toNatClampNeg).toInt64))) l0 5), vR (some l0)] (sL M2 l0 7 (((mL M2 l0 7) <<< ((8 : Int32).toInt64 &&& 63)) ||| ((mI M2 a1 (mI M2 l0 5).toNatClampNeg).toInt64))) from ⟨h.1, ?_⟩)
        replace h := h.2
        refine RN_k (callX_det _) 3 _ _ _ _ (show kd (sL M2 l0 7 (((mL M2 l0 7) <<< ((8 : Int32).toInt64 &&& 63)) ||| ((mI M2 a1 (mI M2 l0 5).toNatClampNeg).toInt64))) l0 6 ∧ R19 sl sx d M0 P 162 [some (vR (some l0)), some (vR (some a1)), some (vI l2), none] [] (sI (sL M2 l0 7 (((mL M2 l0 7) <<< ((8 : Int32).toInt64 &&& 63)) ||| ((mI M2 a1 (mI M2 l0 5).toNatClampNeg).toInt64))) l0 5 ((mI (sL M2 l0 7 (((mL M2 l0 7) <<< ((8 : Int32).toInt64 &&& 63)) ||| ((mI M2 a1 (mI M2 l0 5).toNatClampNeg).toInt64))) l0 5) + (1 : Int32))) from ⟨h.1, ?_⟩)
        replace h := h.2
        exact RN_weak (K := [some (vR (some l0)), some (vR (some a1)), some (vI l2), none]) (callX_det _) (show _ ∧ _ ∧ _ ∧ True from ⟨rfl, rfl, rfl, trivial⟩) (t19_162 ih l0 (some a1) l2 _ hM h)
def w19_274 (s0 : Option Nat) (s1 : Int32) (M : MM) (P : MM → Prop) : Prop := ∃ a1, s0 = some a1 ∧ (kd M a1 6 ∧ (w19_277  (sI M a1 6 s1) P))
theorem t19_274 {sl : Nat} {sx : Nat → Int32} {d : Nat} {M0 : MM} {P : MM → Prop} (s0 : Option Nat) (s1 : Int32) (M : MM) (hM : lenO M0 M) (h : w19_274  s0 s1 M P) : R19 sl sx d M0 P 274 [none, none, none, none] [vI s1, vR s0] M := by
  obtain ⟨a1, he, h⟩ := h
  subst he
  refine RN_k (callX_det _) 1 _ _ _ _ (show kd M a1 6 ∧ R19 sl sx d M0 P 277 [none, none, none, none] [] (sI M a1 6 s1) from ⟨h.1, ?_⟩)
  replace h := h.2
  exact RN_weak (K := [none, none, none, none]) (callX_det _) (show True from trivial) (t19_277   _ hM h)
def w19_273 (s0 : Option Nat) (M : MM) (P : MM → Prop) : Prop := w19_274  s0 (0 : Int32) M P
theorem t19_273 {sl : Nat} {sx : Nat → Int32} {d : Nat} {M0 : MM} {P : MM → Prop} (s0 : Option Nat) (M : MM) (hM : lenO M0 M) (h : w19_273  s0 M P) : R19 sl sx d M0 P 273 [none, none, none, none] [vR s0] M := by
  refine RN_k (callX_det _) 1 _ _ _ _ (show R19 sl sx d M0 P 274 [none, none, none, none] [vI (0 : Int32), vR s0] M from ?_)
  exact RN_weak (K := [none, none, none, none]) (callX_det _) (show True from trivial) (t19_274  s0 (0 : Int32) _ hM h)
def w19_248 (l0 : Nat) (M : MM) (P : MM → Prop) : Prop := kd M l0 6 ∧ (kd M l0 6 ∧ ((((mI M l0 5) - (mI M l0 4)) < (1 : Int32) → (w19_273  (some l0) M P)) ∧ (¬ (((mI M l0 5) - (mI M l0 4)) < (1 : Int32)) → (((2 : Int32) < ((mI M l0 5) - (mI M l0 4)) → (w19_273  (some l0) M P)) ∧ (¬ ((2 : Int32) < ((mI M l0 5) - (mI M l0 4))) → (w19_274  (some l0) (2 : Int32) M P))))))
theorem t19_248 {sl : Nat} {sx : Nat → Int32} {d : Nat} {M0 : MM} {P : MM → Prop} (l0 : Nat) (M : MM) (hM : lenO M0 M) (h : w19_248  l0 M P) : R19 sl sx d M0 P 248 [some (vR (some l0)), none, none, none] [] M := by
  refine RN_k (callX_det _) 2 _ _ _ _ (show kd M l0 6 ∧ R19 sl sx d M0 P 252 [some (vR (some l0)), none, none, none] [vI (mI M l0 5)] M from ⟨h.1, ?_⟩)
  replace h := h.2
  refine RN_k (callX_det _) 2 _ _ _ _ (show kd M l0 6 ∧ R19 sl sx d M0 P 256 [some (vR (some l0)), none, none, none] [vI (mI M l0 4), vI (mI M l0 5)] M from ⟨h.1, ?_⟩)
  replace h := h.2
  refine RN_k (callX_det _) 6 _ _ _ _ (show (((mI M l0 5) - (mI M l0 4)) < (1 : Int32) → R19 sl sx d M0 P 273 [some (vR (some l0)), none, none, some (vI ((mI M l0 5) - (mI M l0 4)))] [vR (some l0)] M) ∧ (¬ (((mI M l0 5) - (mI M l0 4)) < (1 : Int32)) → R19 sl sx d M0 P 264 [some (vR (some l0)), none, none, some (vI ((mI M l0 5) - (mI M l0 4)))] [vR (some l0)] M) from ⟨fun hc => ?_, fun hc => ?_⟩)
  · replace h := h.1 hc
    exact RN_weak (K := [none, none, none, none]) (callX_det _) (show True from trivial) (t19_273  (some l0) _ hM h)
  · replace h := h.2 hc
    refine RN_k (callX_det _) 3 _ _ _ _ (show ((2 : Int32) < ((mI M l0 5) - (mI M l0 4)) → R19 sl sx d M0 P 273 [some (vR (some l0)), none, none, some (vI ((mI M l0 5) - (mI M l0 4)))] [vR (some l0)] M) ∧ (¬ ((2 : Int32) < ((mI M l0 5) - (mI M l0 4))) → R19 sl sx d M0 P 269 [some (vR (some l0)), none, none, some (vI ((mI M l0 5) - (mI M l0 4)))] [vR (some l0)] M) from ⟨fun hc => ?_, fun hc => ?_⟩)
    · replace h := h.1 hc
      exact RN_weak (K := [none, none, none, none]) (callX_det _) (show True from trivial) (t19_273  (some l0) _ hM h)
    · replace h := h.2 hc
      refine RN_k (callX_det _) 2 _ _ _ _ (show R19 sl sx d M0 P 274 [some (vR (some l0)), none, none, some (vI ((mI M l0 5) - (mI M l0 4)))] [vI (2 : Int32), vR (some l0)] M from ?_)
      exact RN_weak (K := [none, none, none, none]) (callX_det _) (show True from trivial) (t19_274  (some l0) (2 : Int32) _ hM h)
def w19_245 (k191 : Nat → Option Nat → Int32 → MM → Prop) (l0 : Nat) (l1 : Option Nat) (l2 : Int32) (M : MM) (P : MM → Prop) : Prop := k191 l0 l1 l2 M
theorem t19_245 {sl : Nat} {sx : Nat → Int32} {d : Nat} {M0 : MM} {P : MM → Prop} {k191 : Nat → Option Nat → Int32 → MM → Prop} (hk191 : ∀ (l0 : Nat) (l1 : Option Nat) (l2 : Int32) (M : MM), lenO M0 M → k191 l0 l1 l2 M → R19 sl sx d M0 P 191 [some (vR (some l0)), some (vR l1), some (vI l2), none] [] M) (l0 : Nat) (l1 : Option Nat) (l2 : Int32) (M : MM) (hM : lenO M0 M) (h : w19_245 k191 l0 l1 l2 M P) : R19 sl sx d M0 P 245 [some (vR (some l0)), some (vR l1), some (vI l2), none] [] M := by
  refine RN_k (callX_det _) 1 _ _ _ _ (show R19 sl sx d M0 P 191 [some (vR (some l0)), some (vR l1), some (vI l2), none] [] M from ?_)
  exact RN_weak (K := [some (vR (some l0)), some (vR l1), some (vI l2), none]) (callX_det _) (show _ ∧ _ ∧ _ ∧ True from ⟨rfl, rfl, rfl, trivial⟩) (hk191 l0 l1 l2 _ hM h)
def w19_191 : Nat → Nat → Option Nat → Int32 → MM → (MM → Prop) → Prop
  | 0 => fun _ _ _ _ _ => False
  | n + 1 => fun l0 l1 l2 M P => kd M l0 6 ∧ ((l2 ≤ (mI M l0 5) → (w19_248  l0 M P)) ∧ (¬ (l2 ≤ (mI M l0 5)) → (kd M l0 6 ∧ (∃ a1, l1 = some a1 ∧ (inb M a1 13 (mI M l0 5) ∧ (w21 (mI M a1 (mI M l0 5).toNatClampNeg) M (fun r3 M2 => (r3 = 0 → (w19_248  l0 M2 P)) ∧ (¬ (r3 = 0) → (kd M2 l0 6 ∧ (kd M2 l0 6 ∧ (inb M2 a1 13 (mI M2 l0 5) ∧ (kd M2 l0 6 ∧ (kd (sL M2 l0 7 ((((mL M2 l0 7) * (10 : Int64)) + ((mI M2 a1 (mI M2 l0 5).toNatClampNeg).toInt64)) - (48 : Int64))) l0 6 ∧ (kd (sL M2 l0 7 ((((mL M2 l0 7) * (10 : Int64)) + ((mI M2 a1 (mI M2 l0 5).toNatClampNeg).toInt64)) - (48 : Int64))) l0 6 ∧ (w19_245 (fun z0 z1 z2 z3 => w19_191  n z0 z1 z2 z3 P) l0 (some a1) l2 (sI (sL M2 l0 7 ((((mL M2 l0 7) * (10 : Int64)) + ((mI M2 a1 (mI M2 l0 5).toNatClampNeg).toInt64)) - (48 : Int64))) l0 5 ((mI (sL M2 l0 7 ((((mL M2 l0 7) * (10 : Int64)) + ((mI M2 a1 (mI M2 l0 5).toNatClampNeg).toInt64)) - (48 : Int64))) l0 5) + (1 : Int32))) P)))))))))))))))
theorem t19_191 {sl : Nat} {sx : Nat → Int32} {d : Nat} {M0 : MM} {P : MM → Prop} (n : Nat) : ∀ (l0 : Nat) (l1 : Option Nat) (l2 : Int32) (M : MM) (_ : lenO M0 M) (_ : w19_191  n l0 l1 l2 M P), R19 sl sx d M0 P 191 [some (vR (some l0)), some (vR l1), some (vI l2), none] [] M := by
  induction n with
  | zero => intro l0 l1 l2 M hM h; cases h
  | succ n ih =>
    intro l0 l1 l2 M hM h
    refine RN_k (callX_det _) 2 _ _ _ _ (show kd M l0 6 ∧ R19 sl sx d M0 P 195 [some (vR (some l0)), some (vR l1), some (vI l2), none] [vI (mI M l0 5)] M from ⟨h.1, ?_⟩)
    replace h := h.2
    refine RN_k (callX_det _) 2 _ _ _ _ (show (l2 ≤ (mI M l0 5) → R19 sl sx d M0 P 248 [some (vR (some l0)), some (vR l1), some (vI l2), none] [] M) ∧ (¬ (l2 ≤ (mI M l0 5)) → R19 sl sx d M0 P 199 [some (vR (some l0)), some (vR l1), some (vI l2), none] [] M) from ⟨fun hc => ?_, fun hc => ?_⟩)
    · replace h := h.1 hc
      exact RN_weak (K := [some (vR (some l0)), none, none, none]) (callX_det _) (show _ ∧ True from ⟨rfl, trivial⟩) (t19_248  l0 _ hM h)
    · replace h := h.2 hc
      refine RN_k (callX_det _) 3 _ _ _ _ (show kd M l0 6 ∧ R19 sl sx d M0 P 204 [some (vR (some l0)), some (vR l1), some (vI l2), none] [vI (mI M l0 5), vR l1] M from ⟨h.1, ?_⟩)
      replace h := h.2
      obtain ⟨a1, he, h⟩ := h
      subst he
      refine RN_k (callX_det _) 1 _ _ _ _ (show inb M a1 13 (mI M l0 5) ∧ R19 sl sx d M0 P 205 [some (vR (some l0)), some (vR (some a1)), some (vI l2), none] [vI (mI M a1 (mI M l0 5).toNatClampNeg)] M from ⟨h.1, ?_⟩)
      replace h := h.2
      refine RN_k (callX_det _) 1 _ _ _ _ (show callX TBg sl sx (d + 1) 21 [vI (mI M a1 (mI M l0 5).toNatClampNeg)] M (fun v M9 => R19 sl sx d M0 P 208 [some (vR (some l0)), some (vR (some a1)), some (vI l2), none] (pushO v []) M9) from ?_)
      refine callX_mono (callX_len (d := (d + 1)) rfl rfl rfl (c21 (d := d) h)) ?_
      clear h
      rintro v9 M2 ⟨hl, r3, rfl, h⟩
      replace hM := lenT hM hl
      show R19 sl sx d M0 P 208 [some (vR (some l0)), some (vR (some a1)), some (vI l2), none] [vI r3] M2
      refine RN_k (callX_det _) 1 _ _ _ _ (show (r3 = 0 → R19 sl sx d M0 P 248 [some (vR (some l0)), some (vR (some a1)), some (vI l2), none] [] M2) ∧ (¬ (r3 = 0) → R19 sl sx d M0 P 211 [some (vR (some l0)), some (vR (some a1)), some (vI l2), none] [] M2) from ⟨fun hc => ?_, fun hc => ?_⟩)
      · replace h := h.1 hc
        exact RN_weak (K := [some (vR (some l0)), none, none, none]) (callX_det _) (show _ ∧ True from ⟨rfl, trivial⟩) (t19_248  l0 _ hM h)
      · replace h := h.2 hc
        refine RN_k (callX_det _) 3 _ _ _ _ (show kd M2 l0 6 ∧ R19 sl sx d M0 P 216 [some (vR (some l0)), some (vR (some a1)), some (vI l2), none] [vL (mL M2 l0 7), vR (some l0)] M2 from ⟨h.1, ?_⟩)
        replace h := h.2
        refine RN_k (callX_det _) 5 _ _ _ _ (show kd M2 l0 6 ∧ R19 sl sx d M0 P 225 [some (vR (some l0)), some (vR (some a1)), some (vI l2), none] [vI (mI M2 l0 5), vR (some a1), vL ((mL M2 l0 7) * (10 : Int64)), vR (some l0)] M2 from ⟨h.1, ?_⟩)
        replace h := h.2
        refine RN_k (callX_det _) 1 _ _ _ _ (show inb M2 a1 13 (mI M2 l0 5) ∧ R19 sl sx d M0 P 226 [some (vR (some l0)), some (vR (some a1)), some (vI l2), none] [vI (mI M2 a1 (mI M2 l0 5).toNatClampNeg), vL ((mL M2 l0 7) * (10 : Int64)), vR (some l0)] M2 from ⟨h.1, ?_⟩)
        replace h := h.2
        refine RN_k (callX_det _) 5 _ _ _ _ (show kd M2 l0 6 ∧ R19 sl sx d M0 P 235 [some (vR (some l0)), some (vR (some a1)), some (vI l2), none] [] (sL M2 l0 7 ((((mL M2 l0 7) * (10 : Int64)) + ((mI M2 a1 (mI M2 l0 5).toNatClampNeg).toInt64)) - (48 : Int64))) from ⟨h.1, ?_⟩)
        replace h := h.2
        refine RN_k (callX_det _) 3 _ _ _ _ (show kd (sL M2 l0 7 ((((mL M2 l0 7) * (10 : Int64)) + ((mI M2 a1 (mI M2 l0 5).toNatClampNeg).toInt64)) - (48 : Int64))) l0 6 ∧ R19 sl sx d M0 P 240 [some (vR (some l0)), some (vR (some a1)), some (vI l2), none] [vI (mI (sL M2 l0 7 ((((mL M2 l0 7) * (10 : Int64)) + ((mI M2 a1 (mI M2 l0 5).toNatClampNeg).toInt64)) - (48 : Int64))) l0 5), vR (some l0)] (sL M2 l0 7 ((((mL M2 l0 7) * (10 : Int64)) + ((mI M2 a1 (mI M2 l0 5).toNatClampNeg).toInt64)) - (48 : Int64))) from ⟨h.1, ?_⟩)
        replace h := h.2
        refine RN_k (callX_det _) 3 _ _ _ _ (show kd (sL M2 l0 7 ((((mL M2 l0 7) * (10 : Int64)) + ((mI M2 a1 (mI M2 l0 5).toNatClampNeg).toInt64)) - (48 : Int64))) l0 6 ∧ R19 sl sx d M0 P 245 [some (vR (some l0)), some (vR (some a1)), some (vI l2), none] [] (sI (sL M2 l0 7 ((((mL M2 l0 7) * (10 : Int64)) + ((mI M2 a1 (mI M2 l0 5).toNatClampNeg).toInt64)) - (48 : Int64))) l0 5 ((mI (sL M2 l0 7 ((((mL M2 l0 7) * (10 : Int64)) + ((mI M2 a1 (mI M2 l0 5).toNatClampNeg).toInt64)) - (48 : Int64))) l0 5) + (1 : Int32))) from ⟨h.1, ?_⟩)
        replace h := h.2
        exact RN_weak (K := [some (vR (some l0)), some (vR (some a1)), some (vI l2), none]) (callX_det _) (show _ ∧ _ ∧ _ ∧ True from ⟨rfl, rfl, rfl, trivial⟩) (t19_245 ih l0 (some a1) l2 _ hM h)
def w19_43 (l0 : Nat) (l1 : Option Nat) (l2 : Int32) (M : MM) (P : MM → Prop) : Prop := kd M l0 6 ∧ (kd M l0 6 ∧ (kd (sI M l0 4 (mI M l0 5)) l0 6 ∧ (kd (sL (sI M l0 4 (mI M l0 5)) l0 7 (0 : Int64)) l0 6 ∧ (((mI (sL (sI M l0 4 (mI M l0 5)) l0 7 (0 : Int64)) l0 5) < l2 → (kd (sL (sI M l0 4 (mI M l0 5)) l0 7 (0 : Int64)) l0 6 ∧ (∃ a1, l1 = some a1 ∧ (inb (sL (sI M l0 4 (mI M l0 5)) l0 7 (0 : Int64)) a1 13 (mI (sL (sI M l0 4 (mI M l0 5)) l0 7 (0 : Int64)) l0 5) ∧ (((mI (sL (sI M l0 4 (mI M l0 5)) l0 7 (0 : Int64)) a1 (mI (sL (sI M l0 4 (mI M l0 5)) l0 7 (0 : Int64)) l0 5).toNatClampNeg) ≠ (59 : Int32) → (kd (sL (sI M l0 4 (mI M l0 5)) l0 7 (0 : Int64)) l0 6 ∧ (inb (sL (sI M l0 4 (mI M l0 5)) l0 7 (0 : Int64)) a1 13 (mI (sL (sI M l0 4 (mI M l0 5)) l0 7 (0 : Int64)) l0 5) ∧ (w20 (mI (sL (sI M l0 4 (mI M l0 5)) l0 7 (0 : Int64)) a1 (mI (sL (sI M l0 4 (mI M l0 5)) l0 7 (0 : Int64)) l0 5).toNatClampNeg) (sL (sI M l0 4 (mI M l0 5)) l0 7 (0 : Int64)) (fun r3 M2 => (r3 = 0 → (∃ n2, w19_191  n2 l0 (some a1) l2 M2 P)) ∧ (¬ (r3 = 0) → (∃ n2, w19_113  n2 l0 (some a1) l2 M2 P))))))) ∧ (¬ ((mI (sL (sI M l0 4 (mI M l0 5)) l0 7 (0 : Int64)) a1 (mI (sL (sI M l0 4 (mI M l0 5)) l0 7 (0 : Int64)) l0 5).toNatClampNeg) ≠ (59 : Int32)) → (kd (sL (sI M l0 4 (mI M l0 5)) l0 7 (0 : Int64)) l0 6 ∧ (kd (sI (sL (sI M l0 4 (mI M l0 5)) l0 7 (0 : Int64)) l0 6 (3 : Int32)) l0 6 ∧ (kd (sI (sL (sI M l0 4 (mI M l0 5)) l0 7 (0 : Int64)) l0 6 (3 : Int32)) l0 6 ∧ (w19_277  (sI (sI (sL (sI M l0 4 (mI M l0 5)) l0 7 (0 : Int64)) l0 6 (3 : Int32)) l0 5 ((mI (sI (sL (sI M l0 4 (mI M l0 5)) l0 7 (0 : Int64)) l0 6 (3 : Int32)) l0 5) + (1 : Int32))) P)))))))))) ∧ (¬ ((mI (sL (sI M l0 4 (mI M l0 5)) l0 7 (0 : Int64)) l0 5) < l2) → (kd (sL (sI M l0 4 (mI M l0 5)) l0 7 (0 : Int64)) l0 6 ∧ (w19_277  (sI (sL (sI M l0 4 (mI M l0 5)) l0 7 (0 : Int64)) l0 6 (4 : Int32)) P)))))))
theorem t19_43 {sl : Nat} {sx : Nat → Int32} {d : Nat} {M0 : MM} {P : MM → Prop} (l0 : Nat) (l1 : Option Nat) (l2 : Int32) (M : MM) (hM : lenO M0 M) (h : w19_43  l0 l1 l2 M P) : R19 sl sx d M0 P 43 [some (vR (some l0)), some (vR l1), some (vI l2), none] [] M := by
  refine RN_k (callX_det _) 3 _ _ _ _ (show kd M l0 6 ∧ R19 sl sx d M0 P 48 [some (vR (some l0)), some (vR l1), some (vI l2), none] [vI (mI M l0 5), vR (some l0)] M from ⟨h.1, ?_⟩)
  replace h := h.2
  refine RN_k (callX_det _) 1 _ _ _ _ (show kd M l0 6 ∧ R19 sl sx d M0 P 51 [some (vR (some l0)), some (vR l1), some (vI l2), none] [] (sI M l0 4 (mI M l0 5)) from ⟨h.1, ?_⟩)
  replace h := h.2
  refine RN_k (callX_det _) 3 _ _ _ _ (show kd (sI M l0 4 (mI M l0 5)) l0 6 ∧ R19 sl sx d M0 P 56 [some (vR (some l0)), some (vR l1), some (vI l2), none] [] (sL (sI M l0 4 (mI M l0 5)) l0 7 (0 : Int64)) from ⟨h.1, ?_⟩)
  replace h := h.2
  refine RN_k (callX_det _) 2 _ _ _ _ (show kd (sL (sI M l0 4 (mI M l0 5)) l0 7 (0 : Int64)) l0 6 ∧ R19 sl sx d M0 P 60 [some (vR (some l0)), some (vR l1), some (vI l2), none] [vI (mI (sL (sI M l0 4 (mI M l0 5)) l0 7 (0 : Int64)) l0 5)] (sL (sI M l0 4 (mI M l0 5)) l0 7 (0 : Int64)) from ⟨h.1, ?_⟩)
  replace h := h.2
  refine RN_k (callX_det _) 2 _ _ _ _ (show ((mI (sL (sI M l0 4 (mI M l0 5)) l0 7 (0 : Int64)) l0 5) < l2 → R19 sl sx d M0 P 72 [some (vR (some l0)), some (vR l1), some (vI l2), none] [] (sL (sI M l0 4 (mI M l0 5)) l0 7 (0 : Int64))) ∧ (¬ ((mI (sL (sI M l0 4 (mI M l0 5)) l0 7 (0 : Int64)) l0 5) < l2) → R19 sl sx d M0 P 64 [some (vR (some l0)), some (vR l1), some (vI l2), none] [] (sL (sI M l0 4 (mI M l0 5)) l0 7 (0 : Int64))) from ⟨fun hc => ?_, fun hc => ?_⟩)
  · replace h := h.1 hc
    refine RN_k (callX_det _) 3 _ _ _ _ (show kd (sL (sI M l0 4 (mI M l0 5)) l0 7 (0 : Int64)) l0 6 ∧ R19 sl sx d M0 P 77 [some (vR (some l0)), some (vR l1), some (vI l2), none] [vI (mI (sL (sI M l0 4 (mI M l0 5)) l0 7 (0 : Int64)) l0 5), vR l1] (sL (sI M l0 4 (mI M l0 5)) l0 7 (0 : Int64)) from ⟨h.1, ?_⟩)
    replace h := h.2
    obtain ⟨a1, he, h⟩ := h
    subst he
    refine RN_k (callX_det _) 1 _ _ _ _ (show inb (sL (sI M l0 4 (mI M l0 5)) l0 7 (0 : Int64)) a1 13 (mI (sL (sI M l0 4 (mI M l0 5)) l0 7 (0 : Int64)) l0 5) ∧ R19 sl sx d M0 P 78 [some (vR (some l0)), some (vR (some a1)), some (vI l2), none] [vI (mI (sL (sI M l0 4 (mI M l0 5)) l0 7 (0 : Int64)) a1 (mI (sL (sI M l0 4 (mI M l0 5)) l0 7 (0 : Int64)) l0 5).toNatClampNeg)] (sL (sI M l0 4 (mI M l0 5)) l0 7 (0 : Int64)) from ⟨h.1, ?_⟩)
    replace h := h.2
    refine RN_k (callX_det _) 2 _ _ _ _ (show ((mI (sL (sI M l0 4 (mI M l0 5)) l0 7 (0 : Int64)) a1 (mI (sL (sI M l0 4 (mI M l0 5)) l0 7 (0 : Int64)) l0 5).toNatClampNeg) ≠ (59 : Int32) → R19 sl sx d M0 P 101 [some (vR (some l0)), some (vR (some a1)), some (vI l2), none] [] (sL (sI M l0 4 (mI M l0 5)) l0 7 (0 : Int64))) ∧ (¬ ((mI (sL (sI M l0 4 (mI M l0 5)) l0 7 (0 : Int64)) a1 (mI (sL (sI M l0 4 (mI M l0 5)) l0 7 (0 : Int64)) l0 5).toNatClampNeg) ≠ (59 : Int32)) → R19 sl sx d M0 P 83 [some (vR (some l0)), some (vR (some a1)), some (vI l2), none] [] (sL (sI M l0 4 (mI M l0 5)) l0 7 (0 : Int64))) from ⟨fun hc => ?_, fun hc => ?_⟩)
    · replace h := h.1 hc
      refine RN_k (callX_det _) 3 _ _ _ _ (show kd (sL (sI M l0 4 (mI M l0 5)) l0 7 (0 : Int64)) l0 6 ∧ R19 sl sx d M0 P 106 [some (vR (some l0)), some (vR (some a1)), some (vI l2), none] [vI (mI (sL (sI M l0 4 (mI M l0 5)) l0 7 (0 : Int64)) l0 5), vR (some a1)] (sL (sI M l0 4 (mI M l0 5)) l0 7 (0 : Int64)) from ⟨h.1, ?_⟩)
      replace h := h.2
      refine RN_k (callX_det _) 1 _ _ _ _ (show inb (sL (sI M l0 4 (mI M l0 5)) l0 7 (0 : Int64)) a1 13 (mI (sL (sI M l0 4 (mI M l0 5)) l0 7 (0 : Int64)) l0 5) ∧ R19 sl sx d M0 P 107 [some (vR (some l0)), some (vR (some a1)), some (vI l2), none] [vI (mI (sL (sI M l0 4 (mI M l0 5)) l0 7 (0 : Int64)) a1 (mI (sL (sI M l0 4 (mI M l0 5)) l0 7 (0 : Int64)) l0 5).toNatClampNeg)] (sL (sI M l0 4 (mI M l0 5)) l0 7 (0 : Int64)) from ⟨h.1, ?_⟩)
      replace h := h.2
      refine RN_k (callX_det _) 1 _ _ _ _ (show callX TBg sl sx (d + 1) 20 [vI (mI (sL (sI M l0 4 (mI M l0 5)) l0 7 (0 : Int64)) a1 (mI (sL (sI M l0 4 (mI M l0 5)) l0 7 (0 : Int64)) l0 5).toNatClampNeg)] (sL (sI M l0 4 (mI M l0 5)) l0 7 (0 : Int64)) (fun v M9 => R19 sl sx d M0 P 110 [some (vR (some l0)), some (vR (some a1)), some (vI l2), none] (pushO v []) M9) from ?_)
      refine callX_mono (callX_len (d := (d + 1)) rfl rfl rfl (c20 (d := d) h)) ?_
      clear h
      rintro v9 M2 ⟨hl, r3, rfl, h⟩
      replace hM := lenT hM hl
      show R19 sl sx d M0 P 110 [some (vR (some l0)), some (vR (some a1)), some (vI l2), none] [vI r3] M2
      refine RN_k (callX_det _) 1 _ _ _ _ (show (r3 = 0 → R19 sl sx d M0 P 191 [some (vR (some l0)), some (vR (some a1)), some (vI l2), none] [] M2) ∧ (¬ (r3 = 0) → R19 sl sx d M0 P 113 [some (vR (some l0)), some (vR (some a1)), some (vI l2), none] [] M2) from ⟨fun hc => ?_, fun hc => ?_⟩)
      · replace h := h.1 hc
        obtain ⟨n2, h⟩ := h
        exact RN_weak (K := [some (vR (some l0)), some (vR (some a1)), some (vI l2), none]) (callX_det _) (show _ ∧ _ ∧ _ ∧ True from ⟨rfl, rfl, rfl, trivial⟩) (t19_191  n2 l0 (some a1) l2 _ hM h)
      · replace h := h.2 hc
        obtain ⟨n2, h⟩ := h
        exact RN_weak (K := [some (vR (some l0)), some (vR (some a1)), some (vI l2), none]) (callX_det _) (show _ ∧ _ ∧ _ ∧ True from ⟨rfl, rfl, rfl, trivial⟩) (t19_113  n2 l0 (some a1) l2 _ hM h)
    · replace h := h.2 hc
      refine RN_k (callX_det _) 3 _ _ _ _ (show kd (sL (sI M l0 4 (mI M l0 5)) l0 7 (0 : Int64)) l0 6 ∧ R19 sl sx d M0 P 88 [some (vR (some l0)), some (vR (some a1)), some (vI l2), none] [] (sI (sL (sI M l0 4 (mI M l0 5)) l0 7 (0 : Int64)) l0 6 (3 : Int32)) from ⟨h.1, ?_⟩)
      replace h := h.2
      refine RN_k (callX_det _) 3 _ _ _ _ (show kd (sI (sL (sI M l0 4 (mI M l0 5)) l0 7 (0 : Int64)) l0 6 (3 : Int32)) l0 6 ∧ R19 sl sx d M0 P 93 [some (vR (some l0)), some (vR (some a1)), some (vI l2), none] [vI (mI (sI (sL (sI M l0 4 (mI M l0 5)) l0 7 (0 : Int64)) l0 6 (3 : Int32)) l0 5), vR (some l0)] (sI (sL (sI M l0 4 (mI M l0 5)) l0 7 (0 : Int64)) l0 6 (3 : Int32)) from ⟨h.1, ?_⟩)
      replace h := h.2
      refine RN_k (callX_det _) 3 _ _ _ _ (show kd (sI (sL (sI M l0 4 (mI M l0 5)) l0 7 (0 : Int64)) l0 6 (3 : Int32)) l0 6 ∧ R19 sl sx d M0 P 98 [some (vR (some l0)), some (vR (some a1)), some (vI l2), none] [] (sI (sI (sL (sI M l0 4 (mI M l0 5)) l0 7 (0 : Int64)) l0 6 (3 : Int32)) l0 5 ((mI (sI (sL (sI M l0 4 (mI M l0 5)) l0 7 (0 : Int64)) l0 6 (3 : Int32)) l0 5) + (1 : Int32))) from ⟨h.1, ?_⟩)
      replace h := h.2
      refine RN_k (callX_det _) 1 _ _ _ _ (show R19 sl sx d M0 P 277 [some (vR (some l0)), some (vR (some a1)), some (vI l2), none] [] (sI (sI (sL (sI M l0 4 (mI M l0 5)) l0 7 (0 : Int64)) l0 6 (3 : Int32)) l0 5 ((mI (sI (sL (sI M l0 4 (mI M l0 5)) l0 7 (0 : Int64)) l0 6 (3 : Int32)) l0 5) + (1 : Int32))) from ?_)
      exact RN_weak (K := [none, none, none, none]) (callX_det _) (show True from trivial) (t19_277   _ hM h)
  · replace h := h.2 hc
    refine RN_k (callX_det _) 3 _ _ _ _ (show kd (sL (sI M l0 4 (mI M l0 5)) l0 7 (0 : Int64)) l0 6 ∧ R19 sl sx d M0 P 69 [some (vR (some l0)), some (vR l1), some (vI l2), none] [] (sI (sL (sI M l0 4 (mI M l0 5)) l0 7 (0 : Int64)) l0 6 (4 : Int32)) from ⟨h.1, ?_⟩)
    replace h := h.2
    refine RN_k (callX_det _) 1 _ _ _ _ (show R19 sl sx d M0 P 277 [some (vR (some l0)), some (vR l1), some (vI l2), none] [] (sI (sL (sI M l0 4 (mI M l0 5)) l0 7 (0 : Int64)) l0 6 (4 : Int32)) from ?_)
    exact RN_weak (K := [none, none, none, none]) (callX_det _) (show True from trivial) (t19_277   _ hM h)
def w19_30 (k0 : Nat → Option Nat → Int32 → MM → Prop) (l0 : Nat) (l1 : Option Nat) (l2 : Int32) (M : MM) (P : MM → Prop) : Prop := kd M l0 6 ∧ (kd M l0 6 ∧ (k0 l0 l1 l2 (sI M l0 5 ((mI M l0 5) + (1 : Int32)))))
theorem t19_30 {sl : Nat} {sx : Nat → Int32} {d : Nat} {M0 : MM} {P : MM → Prop} {k0 : Nat → Option Nat → Int32 → MM → Prop} (hk0 : ∀ (l0 : Nat) (l1 : Option Nat) (l2 : Int32) (M : MM), lenO M0 M → k0 l0 l1 l2 M → R19 sl sx d M0 P 0 [some (vR (some l0)), some (vR l1), some (vI l2), none] [] M) (l0 : Nat) (l1 : Option Nat) (l2 : Int32) (M : MM) (hM : lenO M0 M) (h : w19_30 k0 l0 l1 l2 M P) : R19 sl sx d M0 P 30 [some (vR (some l0)), some (vR l1), some (vI l2), none] [] M := by
  refine RN_k (callX_det _) 3 _ _ _ _ (show kd M l0 6 ∧ R19 sl sx d M0 P 35 [some (vR (some l0)), some (vR l1), some (vI l2), none] [vI (mI M l0 5), vR (some l0)] M from ⟨h.1, ?_⟩)
  replace h := h.2
  refine RN_k (callX_det _) 3 _ _ _ _ (show kd M l0 6 ∧ R19 sl sx d M0 P 40 [some (vR (some l0)), some (vR l1), some (vI l2), none] [] (sI M l0 5 ((mI M l0 5) + (1 : Int32))) from ⟨h.1, ?_⟩)
  replace h := h.2
  refine RN_k (callX_det _) 1 _ _ _ _ (show R19 sl sx d M0 P 0 [some (vR (some l0)), some (vR l1), some (vI l2), none] [] (sI M l0 5 ((mI M l0 5) + (1 : Int32))) from ?_)
  exact RN_weak (K := [some (vR (some l0)), some (vR l1), some (vI l2), none]) (callX_det _) (show _ ∧ _ ∧ _ ∧ True from ⟨rfl, rfl, rfl, trivial⟩) (hk0 l0 l1 l2 _ hM h)
def w19_0 : Nat → Nat → Option Nat → Int32 → MM → (MM → Prop) → Prop
  | 0 => fun _ _ _ _ _ => False
  | n + 1 => fun l0 l1 l2 M P => kd M l0 6 ∧ ((l2 ≤ (mI M l0 5) → (w19_43  l0 l1 l2 M P)) ∧ (¬ (l2 ≤ (mI M l0 5)) → (kd M l0 6 ∧ (∃ a1, l1 = some a1 ∧ (inb M a1 13 (mI M l0 5) ∧ (((mI M a1 (mI M l0 5).toNatClampNeg) = (10 : Int32) → (w19_30 (fun z0 z1 z2 z3 => w19_0  n z0 z1 z2 z3 P) l0 (some a1) l2 M P)) ∧ (¬ ((mI M a1 (mI M l0 5).toNatClampNeg) = (10 : Int32)) → (kd M l0 6 ∧ (inb M a1 13 (mI M l0 5) ∧ (((mI M a1 (mI M l0 5).toNatClampNeg) ≠ (32 : Int32) → (w19_43  l0 (some a1) l2 M P)) ∧ (¬ ((mI M a1 (mI M l0 5).toNatClampNeg) ≠ (32 : Int32)) → (w19_30 (fun z0 z1 z2 z3 => w19_0  n z0 z1 z2 z3 P) l0 (some a1) l2 M P))))))))))))
theorem t19_0 {sl : Nat} {sx : Nat → Int32} {d : Nat} {M0 : MM} {P : MM → Prop} (n : Nat) : ∀ (l0 : Nat) (l1 : Option Nat) (l2 : Int32) (M : MM) (_ : lenO M0 M) (_ : w19_0  n l0 l1 l2 M P), R19 sl sx d M0 P 0 [some (vR (some l0)), some (vR l1), some (vI l2), none] [] M := by
  induction n with
  | zero => intro l0 l1 l2 M hM h; cases h
  | succ n ih =>
    intro l0 l1 l2 M hM h
    refine RN_k (callX_det _) 2 _ _ _ _ (show kd M l0 6 ∧ R19 sl sx d M0 P 4 [some (vR (some l0)), some (vR l1), some (vI l2), none] [vI (mI M l0 5)] M from ⟨h.1, ?_⟩)
    replace h := h.2
    refine RN_k (callX_det _) 2 _ _ _ _ (show (l2 ≤ (mI M l0 5) → R19 sl sx d M0 P 43 [some (vR (some l0)), some (vR l1), some (vI l2), none] [] M) ∧ (¬ (l2 ≤ (mI M l0 5)) → R19 sl sx d M0 P 8 [some (vR (some l0)), some (vR l1), some (vI l2), none] [] M) from ⟨fun hc => ?_, fun hc => ?_⟩)
    · replace h := h.1 hc
      exact RN_weak (K := [some (vR (some l0)), some (vR l1), some (vI l2), none]) (callX_det _) (show _ ∧ _ ∧ _ ∧ True from ⟨rfl, rfl, rfl, trivial⟩) (t19_43  l0 l1 l2 _ hM h)
    · replace h := h.2 hc
      refine RN_k (callX_det _) 3 _ _ _ _ (show kd M l0 6 ∧ R19 sl sx d M0 P 13 [some (vR (some l0)), some (vR l1), some (vI l2), none] [vI (mI M l0 5), vR l1] M from ⟨h.1, ?_⟩)
      replace h := h.2
      obtain ⟨a1, he, h⟩ := h
      subst he
      refine RN_k (callX_det _) 1 _ _ _ _ (show inb M a1 13 (mI M l0 5) ∧ R19 sl sx d M0 P 14 [some (vR (some l0)), some (vR (some a1)), some (vI l2), none] [vI (mI M a1 (mI M l0 5).toNatClampNeg)] M from ⟨h.1, ?_⟩)
      replace h := h.2
      refine RN_k (callX_det _) 2 _ _ _ _ (show ((mI M a1 (mI M l0 5).toNatClampNeg) = (10 : Int32) → R19 sl sx d M0 P 30 [some (vR (some l0)), some (vR (some a1)), some (vI l2), none] [] M) ∧ (¬ ((mI M a1 (mI M l0 5).toNatClampNeg) = (10 : Int32)) → R19 sl sx d M0 P 19 [some (vR (some l0)), some (vR (some a1)), some (vI l2), none] [] M) from ⟨fun hc => ?_, fun hc => ?_⟩)
      · replace h := h.1 hc
        exact RN_weak (K := [some (vR (some l0)), some (vR (some a1)), some (vI l2), none]) (callX_det _) (show _ ∧ _ ∧ _ ∧ True from ⟨rfl, rfl, rfl, trivial⟩) (t19_30 ih l0 (some a1) l2 _ hM h)
      · replace h := h.2 hc
        refine RN_k (callX_det _) 3 _ _ _ _ (show kd M l0 6 ∧ R19 sl sx d M0 P 24 [some (vR (some l0)), some (vR (some a1)), some (vI l2), none] [vI (mI M l0 5), vR (some a1)] M from ⟨h.1, ?_⟩)
        replace h := h.2
        refine RN_k (callX_det _) 1 _ _ _ _ (show inb M a1 13 (mI M l0 5) ∧ R19 sl sx d M0 P 25 [some (vR (some l0)), some (vR (some a1)), some (vI l2), none] [vI (mI M a1 (mI M l0 5).toNatClampNeg)] M from ⟨h.1, ?_⟩)
        replace h := h.2
        refine RN_k (callX_det _) 2 _ _ _ _ (show ((mI M a1 (mI M l0 5).toNatClampNeg) ≠ (32 : Int32) → R19 sl sx d M0 P 43 [some (vR (some l0)), some (vR (some a1)), some (vI l2), none] [] M) ∧ (¬ ((mI M a1 (mI M l0 5).toNatClampNeg) ≠ (32 : Int32)) → R19 sl sx d M0 P 30 [some (vR (some l0)), some (vR (some a1)), some (vI l2), none] [] M) from ⟨fun hc => ?_, fun hc => ?_⟩)
        · replace h := h.1 hc
          exact RN_weak (K := [some (vR (some l0)), some (vR (some a1)), some (vI l2), none]) (callX_det _) (show _ ∧ _ ∧ _ ∧ True from ⟨rfl, rfl, rfl, trivial⟩) (t19_43  l0 (some a1) l2 _ hM h)
        · replace h := h.2 hc
          exact RN_weak (K := [some (vR (some l0)), some (vR (some a1)), some (vI l2), none]) (callX_det _) (show _ ∧ _ ∧ _ ∧ True from ⟨rfl, rfl, rfl, trivial⟩) (t19_30 ih l0 (some a1) l2 _ hM h)
def w19 (l0 : Nat) (l1 : Option Nat) (l2 : Int32) (M : MM) (P : MM → Prop) : Prop := ∃ n2, w19_0  n2 l0 l1 l2 M P
theorem t19_E {sl : Nat} {sx : Nat → Int32} {d : Nat} {M0 : MM} {P : MM → Prop} (l0 : Nat) (l1 : Option Nat) (l2 : Int32) (M : MM) (hM : lenO M0 M) (h : w19  l0 l1 l2 M P) : R19 sl sx d M0 P 0 [some (vR (some l0)), some (vR l1), some (vI l2), none] [] M := by
  obtain ⟨n2, h⟩ := h
  exact RN_weak (K := [some (vR (some l0)), some (vR l1), some (vI l2), none]) (callX_det _) (show _ ∧ _ ∧ _ ∧ True from ⟨rfl, rfl, rfl, trivial⟩) (t19_0  n2 l0 l1 l2 _ hM h)
theorem c19 {sl : Nat} {sx : Nat → Int32} {d : Nat} {l0 : Nat} {l1 : Option Nat} {l2 : Int32} {M : MM} {P : MM → Prop} (h : w19 l0 l1 l2 M P) : callX TBg sl sx (d + 2) 19 [vR (some l0), vR l1, vI l2] M (PV P) :=
  cX (d := d + 1) q19 (false, tb19) rfl rfl rfl (t19_E l0 l1 l2 M lenR h)
-- TwoLeash$Reader.takeWay()I
abbrev q23 : MQ7 := (1, 1, 1, 6, 0, 0, 1)
abbrev R23 (sl : Nat) (sx : Nat → Int32) (d : Nat) (M0 : MM) (P : Int32 → MM → Prop) : Nat → LL → List VV → MM → Prop := RN 6 false (mS M0).length (mT M0) 0 0 sl sx (callX TBg sl sx (d + 0)) (rtW q23 M0 (PI P)) (as2 tb23)
def w23_19 (M : MM) (P : Int32 → MM → Prop) : Prop := P (2 : Int32) M
theorem t23_19 {sl : Nat} {sx : Nat → Int32} {d : Nat} {M0 : MM} {P : Int32 → MM → Prop}  (M : MM) (hM : lenO M0 M) (h : w23_19   M P) : R23 sl sx d M0 P 19 [none] [] M := by
  exact RN_k (callX_det _) 2 _ _ _ _ (show rtW q23 M0 (PI P) (some (vI (2 : Int32))) M from ⟨⟨_, rfl⟩, hM.1, hM.2, _, rfl, h⟩)
def w23 (l0 : Nat) (M : MM) (P : Int32 → MM → Prop) : Prop := kd M l0 6 ∧ (((mI M l0 6) ≠ (1 : Int32) → (w23_19  M P)) ∧ (¬ ((mI M l0 6) ≠ (1 : Int32)) → (kd M l0 6 ∧ (((lg_cmp (mL M l0 7) (7823737 : Int64)) = 0 → (kd M l0 6 ∧ (((mI M l0 1) < (4 : Int32) → (kd M l0 6 ∧ (P (0 : Int32) (sI M l0 3 (1 : Int32))))) ∧ (¬ ((mI M l0 1) < (4 : Int32)) → (P (5 : Int32) M))))) ∧ (¬ ((lg_cmp (mL M l0 7) (7823737 : Int64)) = 0) → (w23_19  M P))))))
theorem t23_E {sl : Nat} {sx : Nat → Int32} {d : Nat} {M0 : MM} {P : Int32 → MM → Prop} (l0 : Nat) (M : MM) (hM : lenO M0 M) (h : w23  l0 M P) : R23 sl sx d M0 P 0 [some (vR (some l0))] [] M := by
  refine RN_k (callX_det _) 2 _ _ _ _ (show kd M l0 6 ∧ R23 sl sx d M0 P 4 [some (vR (some l0))] [vI (mI M l0 6)] M from ⟨h.1, ?_⟩)
  replace h := h.2
  refine RN_k (callX_det _) 2 _ _ _ _ (show ((mI M l0 6) ≠ (1 : Int32) → R23 sl sx d M0 P 19 [some (vR (some l0))] [] M) ∧ (¬ ((mI M l0 6) ≠ (1 : Int32)) → R23 sl sx d M0 P 8 [some (vR (some l0))] [] M) from ⟨fun hc => ?_, fun hc => ?_⟩)
  · replace h := h.1 hc
    exact RN_weak (K := [none]) (callX_det _) (show True from trivial) (t23_19   _ hM h)
  · replace h := h.2 hc
    refine RN_k (callX_det _) 2 _ _ _ _ (show kd M l0 6 ∧ R23 sl sx d M0 P 12 [some (vR (some l0))] [vL (mL M l0 7)] M from ⟨h.1, ?_⟩)
    replace h := h.2
    refine RN_k (callX_det _) 3 _ _ _ _ (show ((lg_cmp (mL M l0 7) (7823737 : Int64)) = 0 → R23 sl sx d M0 P 21 [some (vR (some l0))] [] M) ∧ (¬ ((lg_cmp (mL M l0 7) (7823737 : Int64)) = 0) → R23 sl sx d M0 P 19 [some (vR (some l0))] [] M) from ⟨fun hc => ?_, fun hc => ?_⟩)
    · replace h := h.1 hc
      refine RN_k (callX_det _) 2 _ _ _ _ (show kd M l0 6 ∧ R23 sl sx d M0 P 25 [some (vR (some l0))] [vI (mI M l0 1)] M from ⟨h.1, ?_⟩)
      replace h := h.2
      refine RN_k (callX_det _) 2 _ _ _ _ (show ((mI M l0 1) < (4 : Int32) → R23 sl sx d M0 P 31 [some (vR (some l0))] [] M) ∧ (¬ ((mI M l0 1) < (4 : Int32)) → R23 sl sx d M0 P 29 [some (vR (some l0))] [] M) from ⟨fun hc => ?_, fun hc => ?_⟩)
      · replace h := h.1 hc
        refine RN_k (callX_det _) 3 _ _ _ _ (show kd M l0 6 ∧ R23 sl sx d M0 P 36 [some (vR (some l0))] [] (sI M l0 3 (1 : Int32)) from ⟨h.1, ?_⟩)
        replace h := h.2
        exact RN_k (callX_det _) 2 _ _ _ _ (show rtW q23 M0 (PI P) (some (vI (0 : Int32))) (sI M l0 3 (1 : Int32)) from ⟨⟨_, rfl⟩, hM.1, hM.2, _, rfl, h⟩)
      · replace h := h.2 hc
        exact RN_k (callX_det _) 2 _ _ _ _ (show rtW q23 M0 (PI P) (some (vI (5 : Int32))) M from ⟨⟨_, rfl⟩, hM.1, hM.2, _, rfl, h⟩)
    · replace h := h.2 hc
      exact RN_weak (K := [none]) (callX_det _) (show True from trivial) (t23_19   _ hM h)
theorem c23 {sl : Nat} {sx : Nat → Int32} {d : Nat} {l0 : Nat} {M : MM} {P : Int32 → MM → Prop} (h : w23 l0 M P) : callX TBg sl sx (d + 1) 23 [vR (some l0)] M (PI P) :=
  cX (d := d + 0) q23 (false, tb23) rfl rfl rfl (t23_E l0 M lenR h)
-- TwoLeash$Track.clear(J)V
abbrev q25 : MQ7 := (2, 1, 3, 8, 0, 0, 0)
abbrev R25 (sl : Nat) (sx : Nat → Int32) (d : Nat) (M0 : MM) (P : MM → Prop) : Nat → LL → List VV → MM → Prop := RN 8 false (mS M0).length (mT M0) 0 0 sl sx (callX TBg sl sx (d + 0)) (rtW q25 M0 (PV P)) (as2 tb25)
def w25 (l0 : Nat) (l1 : Int64) (M : MM) (P : MM → Prop) : Prop := kd M l0 8 ∧ (kd (sL M l0 0 l1) l0 8 ∧ (P (sI (sL M l0 0 l1) l0 1 (0 : Int32))))
theorem t25_E {sl : Nat} {sx : Nat → Int32} {d : Nat} {M0 : MM} {P : MM → Prop} (l0 : Nat) (l1 : Int64) (M : MM) (hM : lenO M0 M) (h : w25  l0 l1 M P) : R25 sl sx d M0 P 0 [some (vR (some l0)), some (vL l1), none] [] M := by
  refine RN_k (callX_det _) 3 _ _ _ _ (show kd M l0 8 ∧ R25 sl sx d M0 P 5 [some (vR (some l0)), some (vL l1), none] [] (sL M l0 0 l1) from ⟨h.1, ?_⟩)
  replace h := h.2
  refine RN_k (callX_det _) 3 _ _ _ _ (show kd (sL M l0 0 l1) l0 8 ∧ R25 sl sx d M0 P 10 [some (vR (some l0)), some (vL l1), none] [] (sI (sL M l0 0 l1) l0 1 (0 : Int32)) from ⟨h.1, ?_⟩)
  replace h := h.2
  exact RN_k (callX_det _) 1 _ _ _ _ (show rtW q25 M0 (PV P) none (sI (sL M l0 0 l1) l0 1 (0 : Int32)) from ⟨rfl, hM.1, hM.2, rfl, h⟩)
theorem c25 {sl : Nat} {sx : Nat → Int32} {d : Nat} {l0 : Nat} {l1 : Int64} {M : MM} {P : MM → Prop} (h : w25 l0 l1 M P) : callX TBg sl sx (d + 1) 25 [vR (some l0), vL l1] M (PV P) :=
  cX (d := d + 0) q25 (false, tb25) rfl rfl rfl (t25_E l0 l1 M lenR h)
-- TwoLeash$Reader.takeName()I
abbrev q24 : MQ7 := (1, 1, 2, 6, 0, 0, 1)
abbrev R24 (sl : Nat) (sx : Nat → Int32) (d : Nat) (M0 : MM) (P : Int32 → MM → Prop) : Nat → LL → List VV → MM → Prop := RN 6 false (mS M0).length (mT M0) 0 0 sl sx (callX TBg sl sx (d + 1)) (rtW q24 M0 (PI P)) (as2 tb24)
def w24_19 (M : MM) (P : Int32 → MM → Prop) : Prop := P (2 : Int32) M
theorem t24_19 {sl : Nat} {sx : Nat → Int32} {d : Nat} {M0 : MM} {P : Int32 → MM → Prop}  (M : MM) (hM : lenO M0 M) (h : w24_19   M P) : R24 sl sx d M0 P 19 [none, none] [] M := by
  exact RN_k (callX_det _) 2 _ _ _ _ (show rtW q24 M0 (PI P) (some (vI (2 : Int32))) M from ⟨⟨_, rfl⟩, hM.1, hM.2, _, rfl, h⟩)
def w24_23 : Nat → Nat → Int32 → MM → (Int32 → MM → Prop) → Prop
  | 0 => fun _ _ _ _ => False
  | n + 1 => fun l0 l1 M P => kd M l0 6 ∧ (((mI M l0 1) ≤ l1 → (kd M l0 6 ∧ (kd M l0 6 ∧ (∃ a1, mR M l0 0 = some a1 ∧ (inb M a1 16 (mI M l0 1) ∧ (kd M l0 6 ∧ (kd (sR M l0 2 (mR M a1 (mI M l0 1).toNatClampNeg)) l0 6 ∧ (kd (sR M l0 2 (mR M a1 (mI M l0 1).toNatClampNeg)) l0 6 ∧ (∃ a2, mR (sR M l0 2 (mR M a1 (mI M l0 1).toNatClampNeg)) l0 2 = some a2 ∧ (kd (sR M l0 2 (mR M a1 (mI M l0 1).toNatClampNeg)) a2 8 ∧ w25 a2 (mL (sR M l0 2 (mR M a1 (mI M l0 1).toNatClampNeg)) l0 7) (sR M l0 2 (mR M a1 (mI M l0 1).toNatClampNeg)) (fun M3 => kd M3 l0 6 ∧ (kd M3 l0 6 ∧ (kd (sI M3 l0 1 ((mI M3 l0 1) + (1 : Int32))) l0 6 ∧ (P (0 : Int32) (sI (sI M3 l0 1 ((mI M3 l0 1) + (1 : Int32))) l0 3 (2 : Int32)))))))))))))))) ∧ (¬ ((mI M l0 1) ≤ l1) → (kd M l0 6 ∧ (∃ a4, mR M l0 0 = some a4 ∧ (inb M a4 16 l1 ∧ (∃ a5, mR M a4 l1.toNatClampNeg = some a5 ∧ (kd M a5 8 ∧ (kd M l0 6 ∧ (((lg_cmp (mL M a5 0) (mL M l0 7)) ≠ 0 → (w24_23  n l0 (l1 + (1 : Int32)) M P)) ∧ (¬ ((lg_cmp (mL M a5 0) (mL M l0 7)) ≠ 0) → (P (4 : Int32) M)))))))))))
theorem t24_23 {sl : Nat} {sx : Nat → Int32} {d : Nat} {M0 : MM} {P : Int32 → MM → Prop} (n : Nat) : ∀ (l0 : Nat) (l1 : Int32) (M : MM) (_ : lenO M0 M) (_ : w24_23  n l0 l1 M P), R24 sl sx d M0 P 23 [some (vR (some l0)), some (vI l1)] [] M := by
  induction n with
  | zero => intro l0 l1 M hM h; cases h
  | succ n ih =>
    intro l0 l1 M hM h
    refine RN_k (callX_det _) 3 _ _ _ _ (show kd M l0 6 ∧ R24 sl sx d M0 P 28 [some (vR (some l0)), some (vI l1)] [vI (mI M l0 1), vI l1] M from ⟨h.1, ?_⟩)
    replace h := h.2
    refine RN_k (callX_det _) 1 _ _ _ _ (show ((mI M l0 1) ≤ l1 → R24 sl sx d M0 P 56 [some (vR (some l0)), some (vI l1)] [] M) ∧ (¬ ((mI M l0 1) ≤ l1) → R24 sl sx d M0 P 31 [some (vR (some l0)), some (vI l1)] [] M) from ⟨fun hc => ?_, fun hc => ?_⟩)
    · replace h := h.1 hc
      refine RN_k (callX_det _) 3 _ _ _ _ (show kd M l0 6 ∧ R24 sl sx d M0 P 61 [some (vR (some l0)), some (vI l1)] [vR (mR M l0 0), vR (some l0)] M from ⟨h.1, ?_⟩)
      replace h := h.2
      refine RN_k (callX_det _) 2 _ _ _ _ (show kd M l0 6 ∧ R24 sl sx d M0 P 65 [some (vR (some l0)), some (vI l1)] [vI (mI M l0 1), vR (mR M l0 0), vR (some l0)] M from ⟨h.1, ?_⟩)
      replace h := h.2
      obtain ⟨a1, he, h⟩ := h
      rw [he]
      refine RN_k (callX_det _) 1 _ _ _ _ (show inb M a1 16 (mI M l0 1) ∧ R24 sl sx d M0 P 66 [some (vR (some l0)), some (vI l1)] [vR (mR M a1 (mI M l0 1).toNatClampNeg), vR (some l0)] M from ⟨h.1, ?_⟩)
      replace h := h.2
      refine RN_k (callX_det _) 1 _ _ _ _ (show kd M l0 6 ∧ R24 sl sx d M0 P 69 [some (vR (some l0)), some (vI l1)] [] (sR M l0 2 (mR M a1 (mI M l0 1).toNatClampNeg)) from ⟨h.1, ?_⟩)
      replace h := h.2
      refine RN_k (callX_det _) 2 _ _ _ _ (show kd (sR M l0 2 (mR M a1 (mI M l0 1).toNatClampNeg)) l0 6 ∧ R24 sl sx d M0 P 73 [some (vR (some l0)), some (vI l1)] [vR (mR (sR M l0 2 (mR M a1 (mI M l0 1).toNatClampNeg)) l0 2)] (sR M l0 2 (mR M a1 (mI M l0 1).toNatClampNeg)) from ⟨h.1, ?_⟩)
      replace h := h.2
      refine RN_k (callX_det _) 2 _ _ _ _ (show kd (sR M l0 2 (mR M a1 (mI M l0 1).toNatClampNeg)) l0 6 ∧ R24 sl sx d M0 P 77 [some (vR (some l0)), some (vI l1)] [vL (mL (sR M l0 2 (mR M a1 (mI M l0 1).toNatClampNeg)) l0 7), vR (mR (sR M l0 2 (mR M a1 (mI M l0 1).toNatClampNeg)) l0 2)] (sR M l0 2 (mR M a1 (mI M l0 1).toNatClampNeg)) from ⟨h.1, ?_⟩)
      replace h := h.2
      obtain ⟨a2, he, h⟩ := h
      rw [he]
      refine RN_k (callX_det _) 1 _ _ _ _ (show kd (sR M l0 2 (mR M a1 (mI M l0 1).toNatClampNeg)) a2 8 ∧ callX TBg sl sx (d + 1) 25 [vR (some a2), vL (mL (sR M l0 2 (mR M a1 (mI M l0 1).toNatClampNeg)) l0 7)] (sR M l0 2 (mR M a1 (mI M l0 1).toNatClampNeg)) (fun v M9 => R24 sl sx d M0 P 80 [some (vR (some l0)), some (vI l1)] (pushO v []) M9) from ⟨h.1, ?_⟩)
      replace h := h.2
      refine callX_mono (callX_len (d := (d + 1)) rfl rfl rfl (c25 (d := d) h)) ?_
      clear h
      rintro v9 M3 ⟨hl, rfl, h⟩
      replace hM := lenT hM hl
      show R24 sl sx d M0 P 80 [some (vR (some l0)), some (vI l1)] [] M3
      refine RN_k (callX_det _) 3 _ _ _ _ (show kd M3 l0 6 ∧ R24 sl sx d M0 P 85 [some (vR (some l0)), some (vI l1)] [vI (mI M3 l0 1), vR (some l0)] M3 from ⟨h.1, ?_⟩)
      replace h := h.2
      refine RN_k (callX_det _) 3 _ _ _ _ (show kd M3 l0 6 ∧ R24 sl sx d M0 P 90 [some (vR (some l0)), some (vI l1)] [] (sI M3 l0 1 ((mI M3 l0 1) + (1 : Int32))) from ⟨h.1, ?_⟩)
      replace h := h.2
      refine RN_k (callX_det _) 3 _ _ _ _ (show kd (sI M3 l0 1 ((mI M3 l0 1) + (1 : Int32))) l0 6 ∧ R24 sl sx d M0 P 95 [some (vR (some l0)), some (vI l1)] [] (sI (sI M3 l0 1 ((mI M3 l0 1) + (1 : Int32))) l0 3 (2 : Int32)) from ⟨h.1, ?_⟩)
      replace h := h.2
      exact RN_k (callX_det _) 2 _ _ _ _ (show rtW q24 M0 (PI P) (some (vI (0 : Int32))) (sI (sI M3 l0 1 ((mI M3 l0 1) + (1 : Int32))) l0 3 (2 : Int32)) from ⟨⟨_, rfl⟩, hM.1, hM.2, _, rfl, h⟩)
    · replace h := h.2 hc
      refine RN_k (callX_det _) 2 _ _ _ _ (show kd M l0 6 ∧ R24 sl sx d M0 P 35 [some (vR (some l0)), some (vI l1)] [vR (mR M l0 0)] M from ⟨h.1, ?_⟩)
      replace h := h.2
      obtain ⟨a4, he, h⟩ := h
      refine RN_k (callX_det _) 1 _ _ _ _ (show R24 sl sx d M0 P 36 [some (vR (some l0)), some (vI l1)] [vI l1, vR (mR M l0 0)] M from ?_)
      rw [he]
      refine RN_k (callX_det _) 1 _ _ _ _ (show inb M a4 16 l1 ∧ R24 sl sx d M0 P 37 [some (vR (some l0)), some (vI l1)] [vR (mR M a4 l1.toNatClampNeg)] M from ⟨h.1, ?_⟩)
      replace h := h.2
      obtain ⟨a5, he, h⟩ := h
      rw [he]
      refine RN_k (callX_det _) 1 _ _ _ _ (show kd M a5 8 ∧ R24 sl sx d M0 P 40 [some (vR (some l0)), some (vI l1)] [vL (mL M a5 0)] M from ⟨h.1, ?_⟩)
      replace h := h.2
      refine RN_k (callX_det _) 2 _ _ _ _ (show kd M l0 6 ∧ R24 sl sx d M0 P 44 [some (vR (some l0)), some (vI l1)] [vL (mL M l0 7), vL (mL M a5 0)] M from ⟨h.1, ?_⟩)
      replace h := h.2
      refine RN_k (callX_det _) 2 _ _ _ _ (show ((lg_cmp (mL M a5 0) (mL M l0 7)) ≠ 0 → R24 sl sx d M0 P 50 [some (vR (some l0)), some (vI l1)] [] M) ∧ (¬ ((lg_cmp (mL M a5 0) (mL M l0 7)) ≠ 0) → R24 sl sx d M0 P 48 [some (vR (some l0)), some (vI l1)] [] M) from ⟨fun hc => ?_, fun hc => ?_⟩)
      · replace h := h.1 hc
        refine RN_k (callX_det _) 2 _ _ _ _ (show R24 sl sx d M0 P 23 [some (vR (some l0)), some (vI (l1 + (1 : Int32)))] [] M from ?_)
        exact RN_weak (K := [some (vR (some l0)), some (vI (l1 + (1 : Int32)))]) (callX_det _) (show _ ∧ _ ∧ True from ⟨rfl, rfl, trivial⟩) (ih l0 (l1 + (1 : Int32)) _ hM h)
      · replace h := h.2 hc
        exact RN_k (callX_det _) 2 _ _ _ _ (show rtW q24 M0 (PI P) (some (vI (4 : Int32))) M from ⟨⟨_, rfl⟩, hM.1, hM.2, _, rfl, h⟩)
def w24 (l0 : Nat) (M : MM) (P : Int32 → MM → Prop) : Prop := kd M l0 6 ∧ (((mI M l0 6) ≠ (1 : Int32) → (w24_19  M P)) ∧ (¬ ((mI M l0 6) ≠ (1 : Int32)) → (kd M l0 6 ∧ (((lg_cmp (mL M l0 7) (7823737 : Int64)) ≠ 0 → (∃ n2, w24_23  n2 l0 (0 : Int32) M P)) ∧ (¬ ((lg_cmp (mL M l0 7) (7823737 : Int64)) ≠ 0) → (w24_19  M P))))))
theorem t24_E {sl : Nat} {sx : Nat → Int32} {d : Nat} {M0 : MM} {P : Int32 → MM → Prop} (l0 : Nat) (M : MM) (hM : lenO M0 M) (h : w24  l0 M P) : R24 sl sx d M0 P 0 [some (vR (some l0)), none] [] M := by
  refine RN_k (callX_det _) 2 _ _ _ _ (show kd M l0 6 ∧ R24 sl sx d M0 P 4 [some (vR (some l0)), none] [vI (mI M l0 6)] M from ⟨h.1, ?_⟩)
  replace h := h.2
  refine RN_k (callX_det _) 2 _ _ _ _ (show ((mI M l0 6) ≠ (1 : Int32) → R24 sl sx d M0 P 19 [some (vR (some l0)), none] [] M) ∧ (¬ ((mI M l0 6) ≠ (1 : Int32)) → R24 sl sx d M0 P 8 [some (vR (some l0)), none] [] M) from ⟨fun hc => ?_, fun hc => ?_⟩)
  · replace h := h.1 hc
    exact RN_weak (K := [none, none]) (callX_det _) (show True from trivial) (t24_19   _ hM h)
  · replace h := h.2 hc
    refine RN_k (callX_det _) 2 _ _ _ _ (show kd M l0 6 ∧ R24 sl sx d M0 P 12 [some (vR (some l0)), none] [vL (mL M l0 7)] M from ⟨h.1, ?_⟩)
    replace h := h.2
    refine RN_k (callX_det _) 3 _ _ _ _ (show ((lg_cmp (mL M l0 7) (7823737 : Int64)) ≠ 0 → R24 sl sx d M0 P 21 [some (vR (some l0)), none] [] M) ∧ (¬ ((lg_cmp (mL M l0 7) (7823737 : Int64)) ≠ 0) → R24 sl sx d M0 P 19 [some (vR (some l0)), none] [] M) from ⟨fun hc => ?_, fun hc => ?_⟩)
    · replace h := h.1 hc
      refine RN_k (callX_det _) 2 _ _ _ _ (show R24 sl sx d M0 P 23 [some (vR (some l0)), some (vI (0 : Int32))] [] M from ?_)
      obtain ⟨n2, h⟩ := h
      exact RN_weak (K := [some (vR (some l0)), some (vI (0 : Int32))]) (callX_det _) (show _ ∧ _ ∧ True from ⟨rfl, rfl, trivial⟩) (t24_23  n2 l0 (0 : Int32) _ hM h)
    · replace h := h.2 hc
      exact RN_weak (K := [none, none]) (callX_det _) (show True from trivial) (t24_19   _ hM h)
theorem c24 {sl : Nat} {sx : Nat → Int32} {d : Nat} {l0 : Nat} {M : MM} {P : Int32 → MM → Prop} (h : w24 l0 M P) : callX TBg sl sx (d + 2) 24 [vR (some l0)] M (PI P) :=
  cX (d := d + 1) q24 (false, tb24) rfl rfl rfl (t24_E l0 M lenR h)
-- TwoLeash$Reader.takeX()I
abbrev q26 : MQ7 := (1, 1, 1, 6, 0, 0, 1)
abbrev R26 (sl : Nat) (sx : Nat → Int32) (d : Nat) (M0 : MM) (P : Int32 → MM → Prop) : Nat → LL → List VV → MM → Prop := RN 6 false (mS M0).length (mT M0) 0 0 sl sx (callX TBg sl sx (d + 0)) (rtW q26 M0 (PI P)) (as2 tb26)
def w26_26 (l0 : Nat) (M : MM) (P : Int32 → MM → Prop) : Prop := kd M l0 6 ∧ (((mI M l0 6) = (2 : Int32) → (kd M l0 6 ∧ (((lg_cmp (mL M l0 7) (18 : Int64)) ≤ 0 → (kd M l0 6 ∧ (∃ a1, mR M l0 2 = some a1 ∧ (kd M a1 8 ∧ (((mI M a1 1) < (8 : Int32) → (kd M l0 6 ∧ (kd M l0 6 ∧ (kd (sI M l0 8 ((mL M l0 7).toInt32)) l0 6 ∧ (P (0 : Int32) (sI (sI M l0 8 ((mL M l0 7).toInt32)) l0 3 (3 : Int32))))))) ∧ (¬ ((mI M a1 1) < (8 : Int32)) → (P (5 : Int32) M))))))) ∧ (¬ ((lg_cmp (mL M l0 7) (18 : Int64)) ≤ 0) → (P (3 : Int32) M))))) ∧ (¬ ((mI M l0 6) = (2 : Int32)) → (P (2 : Int32) M)))
theorem t26_26 {sl : Nat} {sx : Nat → Int32} {d : Nat} {M0 : MM} {P : Int32 → MM → Prop} (l0 : Nat) (M : MM) (hM : lenO M0 M) (h : w26_26  l0 M P) : R26 sl sx d M0 P 26 [some (vR (some l0))] [] M := by
  refine RN_k (callX_det _) 2 _ _ _ _ (show kd M l0 6 ∧ R26 sl sx d M0 P 30 [some (vR (some l0))] [vI (mI M l0 6)] M from ⟨h.1, ?_⟩)
  replace h := h.2
  refine RN_k (callX_det _) 2 _ _ _ _ (show ((mI M l0 6) = (2 : Int32) → R26 sl sx d M0 P 36 [some (vR (some l0))] [] M) ∧ (¬ ((mI M l0 6) = (2 : Int32)) → R26 sl sx d M0 P 34 [some (vR (some l0))] [] M) from ⟨fun hc => ?_, fun hc => ?_⟩)
  · replace h := h.1 hc
    refine RN_k (callX_det _) 2 _ _ _ _ (show kd M l0 6 ∧ R26 sl sx d M0 P 40 [some (vR (some l0))] [vL (mL M l0 7)] M from ⟨h.1, ?_⟩)
    replace h := h.2
    refine RN_k (callX_det _) 3 _ _ _ _ (show ((lg_cmp (mL M l0 7) (18 : Int64)) ≤ 0 → R26 sl sx d M0 P 49 [some (vR (some l0))] [] M) ∧ (¬ ((lg_cmp (mL M l0 7) (18 : Int64)) ≤ 0) → R26 sl sx d M0 P 47 [some (vR (some l0))] [] M) from ⟨fun hc => ?_, fun hc => ?_⟩)
    · replace h := h.1 hc
      refine RN_k (callX_det _) 2 _ _ _ _ (show kd M l0 6 ∧ R26 sl sx d M0 P 53 [some (vR (some l0))] [vR (mR M l0 2)] M from ⟨h.1, ?_⟩)
      replace h := h.2
      obtain ⟨a1, he, h⟩ := h
      rw [he]
      refine RN_k (callX_det _) 1 _ _ _ _ (show kd M a1 8 ∧ R26 sl sx d M0 P 56 [some (vR (some l0))] [vI (mI M a1 1)] M from ⟨h.1, ?_⟩)
      replace h := h.2
      refine RN_k (callX_det _) 2 _ _ _ _ (show ((mI M a1 1) < (8 : Int32) → R26 sl sx d M0 P 63 [some (vR (some l0))] [] M) ∧ (¬ ((mI M a1 1) < (8 : Int32)) → R26 sl sx d M0 P 61 [some (vR (some l0))] [] M) from ⟨fun hc => ?_, fun hc => ?_⟩)
      · replace h := h.1 hc
        refine RN_k (callX_det _) 3 _ _ _ _ (show kd M l0 6 ∧ R26 sl sx d M0 P 68 [some (vR (some l0))] [vL (mL M l0 7), vR (some l0)] M from ⟨h.1, ?_⟩)
        replace h := h.2
        refine RN_k (callX_det _) 2 _ _ _ _ (show kd M l0 6 ∧ R26 sl sx d M0 P 72 [some (vR (some l0))] [] (sI M l0 8 ((mL M l0 7).toInt32)) from ⟨h.1, ?_⟩)
        replace h := h.2
        refine RN_k (callX_det _) 3 _ _ _ _ (show kd (sI M l0 8 ((mL M l0 7).toInt32)) l0 6 ∧ R26 sl sx d M0 P 77 [some (vR (some l0))] [] (sI (sI M l0 8 ((mL M l0 7).toInt32)) l0 3 (3 : Int32)) from ⟨h.1, ?_⟩)
        replace h := h.2
        exact RN_k (callX_det _) 2 _ _ _ _ (show rtW q26 M0 (PI P) (some (vI (0 : Int32))) (sI (sI M l0 8 ((mL M l0 7).toInt32)) l0 3 (3 : Int32)) from ⟨⟨_, rfl⟩, hM.1, hM.2, _, rfl, h⟩)
      · replace h := h.2 hc
        exact RN_k (callX_det _) 2 _ _ _ _ (show rtW q26 M0 (PI P) (some (vI (5 : Int32))) M from ⟨⟨_, rfl⟩, hM.1, hM.2, _, rfl, h⟩)
    · replace h := h.2 hc
      exact RN_k (callX_det _) 2 _ _ _ _ (show rtW q26 M0 (PI P) (some (vI (3 : Int32))) M from ⟨⟨_, rfl⟩, hM.1, hM.2, _, rfl, h⟩)
  · replace h := h.2 hc
    exact RN_k (callX_det _) 2 _ _ _ _ (show rtW q26 M0 (PI P) (some (vI (2 : Int32))) M from ⟨⟨_, rfl⟩, hM.1, hM.2, _, rfl, h⟩)
def w26 (l0 : Nat) (M : MM) (P : Int32 → MM → Prop) : Prop := kd M l0 6 ∧ (((mI M l0 6) ≠ (3 : Int32) → (w26_26  l0 M P)) ∧ (¬ ((mI M l0 6) ≠ (3 : Int32)) → (kd M l0 6 ∧ (∃ a1, mR M l0 2 = some a1 ∧ (kd M a1 8 ∧ (((mI M a1 1) < (2 : Int32) → (w26_26  l0 M P)) ∧ (¬ ((mI M a1 1) < (2 : Int32)) → (kd M l0 6 ∧ (P (0 : Int32) (sI M l0 3 (0 : Int32)))))))))))
theorem t26_E {sl : Nat} {sx : Nat → Int32} {d : Nat} {M0 : MM} {P : Int32 → MM → Prop} (l0 : Nat) (M : MM) (hM : lenO M0 M) (h : w26  l0 M P) : R26 sl sx d M0 P 0 [some (vR (some l0))] [] M := by
  refine RN_k (callX_det _) 2 _ _ _ _ (show kd M l0 6 ∧ R26 sl sx d M0 P 4 [some (vR (some l0))] [vI (mI M l0 6)] M from ⟨h.1, ?_⟩)
  replace h := h.2
  refine RN_k (callX_det _) 2 _ _ _ _ (show ((mI M l0 6) ≠ (3 : Int32) → R26 sl sx d M0 P 26 [some (vR (some l0))] [] M) ∧ (¬ ((mI M l0 6) ≠ (3 : Int32)) → R26 sl sx d M0 P 8 [some (vR (some l0))] [] M) from ⟨fun hc => ?_, fun hc => ?_⟩)
  · replace h := h.1 hc
    exact RN_weak (K := [some (vR (some l0))]) (callX_det _) (show _ ∧ True from ⟨rfl, trivial⟩) (t26_26  l0 _ hM h)
  · replace h := h.2 hc
    refine RN_k (callX_det _) 2 _ _ _ _ (show kd M l0 6 ∧ R26 sl sx d M0 P 12 [some (vR (some l0))] [vR (mR M l0 2)] M from ⟨h.1, ?_⟩)
    replace h := h.2
    obtain ⟨a1, he, h⟩ := h
    rw [he]
    refine RN_k (callX_det _) 1 _ _ _ _ (show kd M a1 8 ∧ R26 sl sx d M0 P 15 [some (vR (some l0))] [vI (mI M a1 1)] M from ⟨h.1, ?_⟩)
    replace h := h.2
    refine RN_k (callX_det _) 2 _ _ _ _ (show ((mI M a1 1) < (2 : Int32) → R26 sl sx d M0 P 26 [some (vR (some l0))] [] M) ∧ (¬ ((mI M a1 1) < (2 : Int32)) → R26 sl sx d M0 P 19 [some (vR (some l0))] [] M) from ⟨fun hc => ?_, fun hc => ?_⟩)
    · replace h := h.1 hc
      exact RN_weak (K := [some (vR (some l0))]) (callX_det _) (show _ ∧ True from ⟨rfl, trivial⟩) (t26_26  l0 _ hM h)
    · replace h := h.2 hc
      refine RN_k (callX_det _) 3 _ _ _ _ (show kd M l0 6 ∧ R26 sl sx d M0 P 24 [some (vR (some l0))] [] (sI M l0 3 (0 : Int32)) from ⟨h.1, ?_⟩)
      replace h := h.2
      exact RN_k (callX_det _) 2 _ _ _ _ (show rtW q26 M0 (PI P) (some (vI (0 : Int32))) (sI M l0 3 (0 : Int32)) from ⟨⟨_, rfl⟩, hM.1, hM.2, _, rfl, h⟩)
theorem c26 {sl : Nat} {sx : Nat → Int32} {d : Nat} {l0 : Nat} {M : MM} {P : Int32 → MM → Prop} (h : w26 l0 M P) : callX TBg sl sx (d + 1) 26 [vR (some l0)] M (PI P) :=
  cX (d := d + 0) q26 (false, tb26) rfl rfl rfl (t26_E l0 M lenR h)
-- TwoLeash$Track.isAt(III)Z
abbrev q28 : MQ7 := (4, 1, 4, 8, 0, 0, 4)
abbrev R28 (sl : Nat) (sx : Nat → Int32) (d : Nat) (M0 : MM) (P : Int32 → MM → Prop) : Nat → LL → List VV → MM → Prop := RN 8 false (mS M0).length (mT M0) 0 0 sl sx (callX TBg sl sx (d + 0)) (rtW q28 M0 (PI P)) (as2 tb28)
def w28_37 (s0 : Int32) (M : MM) (P : Int32 → MM → Prop) : Prop := (s0 = 0 ∨ s0 = 1) ∧ P s0 M
theorem t28_37 {sl : Nat} {sx : Nat → Int32} {d : Nat} {M0 : MM} {P : Int32 → MM → Prop} (s0 : Int32) (M : MM) (hM : lenO M0 M) (h : w28_37  s0 M P) : R28 sl sx d M0 P 37 [none, none, none, none] [vI s0] M := by
  exact RN_k (callX_det _) 1 _ _ _ _ (show rtW q28 M0 (PI P) (some (vI s0)) M from ⟨⟨_, rfl, h.1⟩, hM.1, hM.2, _, rfl, h.2⟩)
def w28_36 (M : MM) (P : Int32 → MM → Prop) : Prop := w28_37  (0 : Int32) M P
theorem t28_36 {sl : Nat} {sx : Nat → Int32} {d : Nat} {M0 : MM} {P : Int32 → MM → Prop}  (M : MM) (hM : lenO M0 M) (h : w28_36   M P) : R28 sl sx d M0 P 36 [none, none, none, none] [] M := by
  refine RN_k (callX_det _) 1 _ _ _ _ (show R28 sl sx d M0 P 37 [none, none, none, none] [vI (0 : Int32)] M from ?_)
  exact RN_weak (K := [none, none, none, none]) (callX_det _) (show True from trivial) (t28_37  (0 : Int32) _ hM h)
def w28 (l0 : Nat) (l1 : Int32) (l2 : Int32) (l3 : Int32) (M : MM) (P : Int32 → MM → Prop) : Prop := (l1 < 0 → (w28_36  M P)) ∧ (¬ (l1 < 0) → (kd M l0 8 ∧ (((mI M l0 1) ≤ l1 → (w28_36  M P)) ∧ (¬ ((mI M l0 1) ≤ l1) → (kd M l0 8 ∧ (∃ a1, mR M l0 2 = some a1 ∧ (inb M a1 11 l1 ∧ (((mI M a1 l1.toNatClampNeg) ≠ l2 → (w28_36  M P)) ∧ (¬ ((mI M a1 l1.toNatClampNeg) ≠ l2) → (kd M l0 8 ∧ (∃ a2, mR M l0 3 = some a2 ∧ (inb M a2 11 l1 ∧ (((mI M a2 l1.toNatClampNeg) ≠ l3 → (w28_36  M P)) ∧ (¬ ((mI M a2 l1.toNatClampNeg) ≠ l3) → (w28_37  (1 : Int32) M P)))))))))))))))
theorem t28_E {sl : Nat} {sx : Nat → Int32} {d : Nat} {M0 : MM} {P : Int32 → MM → Prop} (l0 : Nat) (l1 : Int32) (l2 : Int32) (l3 : Int32) (M : MM) (hM : lenO M0 M) (h : w28  l0 l1 l2 l3 M P) : R28 sl sx d M0 P 0 [some (vR (some l0)), some (vI l1), some (vI l2), some (vI l3)] [] M := by
  refine RN_k (callX_det _) 2 _ _ _ _ (show (l1 < 0 → R28 sl sx d M0 P 36 [some (vR (some l0)), some (vI l1), some (vI l2), some (vI l3)] [] M) ∧ (¬ (l1 < 0) → R28 sl sx d M0 P 4 [some (vR (some l0)), some (vI l1), some (vI l2), some (vI l3)] [] M) from ⟨fun hc => ?_, fun hc => ?_⟩)
  · replace h := h.1 hc
    exact RN_weak (K := [none, none, none, none]) (callX_det _) (show True from trivial) (t28_36   _ hM h)
  · replace h := h.2 hc
    refine RN_k (callX_det _) 3 _ _ _ _ (show kd M l0 8 ∧ R28 sl sx d M0 P 9 [some (vR (some l0)), some (vI l1), some (vI l2), some (vI l3)] [vI (mI M l0 1), vI l1] M from ⟨h.1, ?_⟩)
    replace h := h.2
    refine RN_k (callX_det _) 1 _ _ _ _ (show ((mI M l0 1) ≤ l1 → R28 sl sx d M0 P 36 [some (vR (some l0)), some (vI l1), some (vI l2), some (vI l3)] [] M) ∧ (¬ ((mI M l0 1) ≤ l1) → R28 sl sx d M0 P 12 [some (vR (some l0)), some (vI l1), some (vI l2), some (vI l3)] [] M) from ⟨fun hc => ?_, fun hc => ?_⟩)
    · replace h := h.1 hc
      exact RN_weak (K := [none, none, none, none]) (callX_det _) (show True from trivial) (t28_36   _ hM h)
    · replace h := h.2 hc
      refine RN_k (callX_det _) 2 _ _ _ _ (show kd M l0 8 ∧ R28 sl sx d M0 P 16 [some (vR (some l0)), some (vI l1), some (vI l2), some (vI l3)] [vR (mR M l0 2)] M from ⟨h.1, ?_⟩)
      replace h := h.2
      obtain ⟨a1, he, h⟩ := h
      refine RN_k (callX_det _) 1 _ _ _ _ (show R28 sl sx d M0 P 17 [some (vR (some l0)), some (vI l1), some (vI l2), some (vI l3)] [vI l1, vR (mR M l0 2)] M from ?_)
      rw [he]
      refine RN_k (callX_det _) 1 _ _ _ _ (show inb M a1 11 l1 ∧ R28 sl sx d M0 P 18 [some (vR (some l0)), some (vI l1), some (vI l2), some (vI l3)] [vI (mI M a1 l1.toNatClampNeg)] M from ⟨h.1, ?_⟩)
      replace h := h.2
      refine RN_k (callX_det _) 2 _ _ _ _ (show ((mI M a1 l1.toNatClampNeg) ≠ l2 → R28 sl sx d M0 P 36 [some (vR (some l0)), some (vI l1), some (vI l2), some (vI l3)] [] M) ∧ (¬ ((mI M a1 l1.toNatClampNeg) ≠ l2) → R28 sl sx d M0 P 22 [some (vR (some l0)), some (vI l1), some (vI l2), some (vI l3)] [] M) from ⟨fun hc => ?_, fun hc => ?_⟩)
      · replace h := h.1 hc
        exact RN_weak (K := [none, none, none, none]) (callX_det _) (show True from trivial) (t28_36   _ hM h)
      · replace h := h.2 hc
        refine RN_k (callX_det _) 2 _ _ _ _ (show kd M l0 8 ∧ R28 sl sx d M0 P 26 [some (vR (some l0)), some (vI l1), some (vI l2), some (vI l3)] [vR (mR M l0 3)] M from ⟨h.1, ?_⟩)
        replace h := h.2
        obtain ⟨a2, he, h⟩ := h
        refine RN_k (callX_det _) 1 _ _ _ _ (show R28 sl sx d M0 P 27 [some (vR (some l0)), some (vI l1), some (vI l2), some (vI l3)] [vI l1, vR (mR M l0 3)] M from ?_)
        rw [he]
        refine RN_k (callX_det _) 1 _ _ _ _ (show inb M a2 11 l1 ∧ R28 sl sx d M0 P 28 [some (vR (some l0)), some (vI l1), some (vI l2), some (vI l3)] [vI (mI M a2 l1.toNatClampNeg)] M from ⟨h.1, ?_⟩)
        replace h := h.2
        refine RN_k (callX_det _) 2 _ _ _ _ (show ((mI M a2 l1.toNatClampNeg) ≠ l3 → R28 sl sx d M0 P 36 [some (vR (some l0)), some (vI l1), some (vI l2), some (vI l3)] [] M) ∧ (¬ ((mI M a2 l1.toNatClampNeg) ≠ l3) → R28 sl sx d M0 P 32 [some (vR (some l0)), some (vI l1), some (vI l2), some (vI l3)] [] M) from ⟨fun hc => ?_, fun hc => ?_⟩)
        · replace h := h.1 hc
          exact RN_weak (K := [none, none, none, none]) (callX_det _) (show True from trivial) (t28_36   _ hM h)
        · replace h := h.2 hc
          refine RN_k (callX_det _) 2 _ _ _ _ (show R28 sl sx d M0 P 37 [some (vR (some l0)), some (vI l1), some (vI l2), some (vI l3)] [vI (1 : Int32)] M from ?_)
          exact RN_weak (K := [none, none, none, none]) (callX_det _) (show True from trivial) (t28_37  (1 : Int32) _ hM h)
theorem c28 {sl : Nat} {sx : Nat → Int32} {d : Nat} {l0 : Nat} {l1 : Int32} {l2 : Int32} {l3 : Int32} {M : MM} {P : Int32 → MM → Prop} (h : w28 l0 l1 l2 l3 M P) : callX TBg sl sx (d + 1) 28 [vR (some l0), vI l1, vI l2, vI l3] M (PI P) :=
  cX (d := d + 0) q28 (false, tb28) rfl rfl rfl (t28_E l0 l1 l2 l3 M lenR h)
-- TwoLeash$Track.put(II)V
abbrev q29 : MQ7 := (3, 1, 3, 8, 0, 0, 0)
abbrev R29 (sl : Nat) (sx : Nat → Int32) (d : Nat) (M0 : MM) (P : MM → Prop) : Nat → LL → List VV → MM → Prop := RN 8 false (mS M0).length (mT M0) 0 0 sl sx (callX TBg sl sx (d + 0)) (rtW q29 M0 (PV P)) (as2 tb29)
def w29_39 (M : MM) (P : MM → Prop) : Prop := P M
theorem t29_39 {sl : Nat} {sx : Nat → Int32} {d : Nat} {M0 : MM} {P : MM → Prop}  (M : MM) (hM : lenO M0 M) (h : w29_39   M P) : R29 sl sx d M0 P 39 [none, none, none] [] M := by
  exact RN_k (callX_det _) 1 _ _ _ _ (show rtW q29 M0 (PV P) none M from ⟨rfl, hM.1, hM.2, rfl, h⟩)
def w29 (l0 : Nat) (l1 : Int32) (l2 : Int32) (M : MM) (P : MM → Prop) : Prop := kd M l0 8 ∧ (((8 : Int32) ≤ (mI M l0 1) → (w29_39  M P)) ∧ (¬ ((8 : Int32) ≤ (mI M l0 1)) → (kd M l0 8 ∧ (kd M l0 8 ∧ (∃ a1, mR M l0 2 = some a1 ∧ (inb M a1 11 (mI M l0 1) ∧ (kd (sI M a1 (mI M l0 1).toNatClampNeg l1) l0 8 ∧ (kd (sI M a1 (mI M l0 1).toNatClampNeg l1) l0 8 ∧ (∃ a2, mR (sI M a1 (mI M l0 1).toNatClampNeg l1) l0 3 = some a2 ∧ (inb (sI M a1 (mI M l0 1).toNatClampNeg l1) a2 11 (mI (sI M a1 (mI M l0 1).toNatClampNeg l1) l0 1) ∧ (kd (sI (sI M a1 (mI M l0 1).toNatClampNeg l1) a2 (mI (sI M a1 (mI M l0 1).toNatClampNeg l1) l0 1).toNatClampNeg l2) l0 8 ∧ (kd (sI (sI M a1 (mI M l0 1).toNatClampNeg l1) a2 (mI (sI M a1 (mI M l0 1).toNatClampNeg l1) l0 1).toNatClampNeg l2) l0 8 ∧ (w29_39  (sI (sI (sI M a1 (mI M l0 1).toNatClampNeg l1) a2 (mI (sI M a1 (mI M l0 1).toNatClampNeg l1) l0 1).toNatClampNeg l2) l0 1 ((mI (sI (sI M a1 (mI M l0 1).toNatClampNeg l1) a2 (mI (sI M a1 (mI M l0 1).toNatClampNeg l1) l0 1).toNatClampNeg l2) l0 1) + (1 : Int32))) P)))))))))))))
theorem t29_E {sl : Nat} {sx : Nat → Int32} {d : Nat} {M0 : MM} {P : MM → Prop} (l0 : Nat) (l1 : Int32) (l2 : Int32) (M : MM) (hM : lenO M0 M) (h : w29  l0 l1 l2 M P) : R29 sl sx d M0 P 0 [some (vR (some l0)), some (vI l1), some (vI l2)] [] M := by
  refine RN_k (callX_det _) 2 _ _ _ _ (show kd M l0 8 ∧ R29 sl sx d M0 P 4 [some (vR (some l0)), some (vI l1), some (vI l2)] [vI (mI M l0 1)] M from ⟨h.1, ?_⟩)
  replace h := h.2
  refine RN_k (callX_det _) 2 _ _ _ _ (show ((8 : Int32) ≤ (mI M l0 1) → R29 sl sx d M0 P 39 [some (vR (some l0)), some (vI l1), some (vI l2)] [] M) ∧ (¬ ((8 : Int32) ≤ (mI M l0 1)) → R29 sl sx d M0 P 9 [some (vR (some l0)), some (vI l1), some (vI l2)] [] M) from ⟨fun hc => ?_, fun hc => ?_⟩)
  · replace h := h.1 hc
    exact RN_weak (K := [none, none, none]) (callX_det _) (show True from trivial) (t29_39   _ hM h)
  · replace h := h.2 hc
    refine RN_k (callX_det _) 2 _ _ _ _ (show kd M l0 8 ∧ R29 sl sx d M0 P 13 [some (vR (some l0)), some (vI l1), some (vI l2)] [vR (mR M l0 2)] M from ⟨h.1, ?_⟩)
    replace h := h.2
    refine RN_k (callX_det _) 2 _ _ _ _ (show kd M l0 8 ∧ R29 sl sx d M0 P 17 [some (vR (some l0)), some (vI l1), some (vI l2)] [vI (mI M l0 1), vR (mR M l0 2)] M from ⟨h.1, ?_⟩)
    replace h := h.2
    obtain ⟨a1, he, h⟩ := h
    refine RN_k (callX_det _) 1 _ _ _ _ (show R29 sl sx d M0 P 18 [some (vR (some l0)), some (vI l1), some (vI l2)] [vI l1, vI (mI M l0 1), vR (mR M l0 2)] M from ?_)
    rw [he]
    refine RN_k (callX_det _) 1 _ _ _ _ (show inb M a1 11 (mI M l0 1) ∧ R29 sl sx d M0 P 19 [some (vR (some l0)), some (vI l1), some (vI l2)] [] (sI M a1 (mI M l0 1).toNatClampNeg l1) from ⟨h.1, ?_⟩)
    replace h := h.2
    refine RN_k (callX_det _) 2 _ _ _ _ (show kd (sI M a1 (mI M l0 1).toNatClampNeg l1) l0 8 ∧ R29 sl sx d M0 P 23 [some (vR (some l0)), some (vI l1), some (vI l2)] [vR (mR (sI M a1 (mI M l0 1).toNatClampNeg l1) l0 3)] (sI M a1 (mI M l0 1).toNatClampNeg l1) from ⟨h.1, ?_⟩)
    replace h := h.2
    refine RN_k (callX_det _) 2 _ _ _ _ (show kd (sI M a1 (mI M l0 1).toNatClampNeg l1) l0 8 ∧ R29 sl sx d M0 P 27 [some (vR (some l0)), some (vI l1), some (vI l2)] [vI (mI (sI M a1 (mI M l0 1).toNatClampNeg l1) l0 1), vR (mR (sI M a1 (mI M l0 1).toNatClampNeg l1) l0 3)] (sI M a1 (mI M l0 1).toNatClampNeg l1) from ⟨h.1, ?_⟩)
    replace h := h.2
    obtain ⟨a2, he, h⟩ := h
    refine RN_k (callX_det _) 1 _ _ _ _ (show R29 sl sx d M0 P 28 [some (vR (some l0)), some (vI l1), some (vI l2)] [vI l2, vI (mI (sI M a1 (mI M l0 1).toNatClampNeg l1) l0 1), vR (mR (sI M a1 (mI M l0 1).toNatClampNeg l1) l0 3)] (sI M a1 (mI M l0 1).toNatClampNeg l1) from ?_)
    rw [he]
    refine RN_k (callX_det _) 1 _ _ _ _ (show inb (sI M a1 (mI M l0 1).toNatClampNeg l1) a2 11 (mI (sI M a1 (mI M l0 1).toNatClampNeg l1) l0 1) ∧ R29 sl sx d M0 P 29 [some (vR (some l0)), some (vI l1), some (vI l2)] [] (sI (sI M a1 (mI M l0 1).toNatClampNeg l1) a2 (mI (sI M a1 (mI M l0 1).toNatClampNeg l1) l0 1).toNatClampNeg l2) from ⟨h.1, ?_⟩)
    replace h := h.2
    refine RN_k (callX_det _) 3 _ _ _ _ (show kd (sI (sI M a1 (mI M l0 1).toNatClampNeg l1) a2 (mI (sI M a1 (mI M l0 1).toNatClampNeg l1) l0 1).toNatClampNeg l2) l0 8 ∧ R29 sl sx d M0 P 34 [some (vR (some l0)), some (vI l1), some (vI l2)] [vI (mI (sI (sI M a1 (mI M l0 1).toNatClampNeg l1) a2 (mI (sI M a1 (mI M l0 1).toNatClampNeg l1) l0 1).toNatClampNeg l2) l0 1), vR (some l0)] (sI (sI M a1 (mI M l0 1).toNatClampNeg l1) a2 (mI (sI M a1 (mI M l0 1).toNatClampNeg l1) l0 1).toNatClampNeg l2) from ⟨h.1, ?_⟩)
    replace h := h.2
    refine RN_k (callX_det _) 3 _ _ _ _ (show kd (sI (sI M a1 (mI M l0 1).toNatClampNeg l1) a2 (mI (sI M a1 (mI M l0 1).toNatClampNeg l1) l0 1).toNatClampNeg l2) l0 8 ∧ R29 sl sx d M0 P 39 [some (vR (some l0)), some (vI l1), some (vI l2)] [] (sI (sI (sI M a1 (mI M l0 1).toNatClampNeg l1) a2 (mI (sI M a1 (mI M l0 1).toNatClampNeg l1) l0 1).toNatClampNeg l2) l0 1 ((mI (sI (sI M a1 (mI M l0 1).toNatClampNeg l1) a2 (mI (sI M a1 (mI M l0 1).toNatClampNeg l1) l0 1).toNatClampNeg l2) l0 1) + (1 : Int32))) from ⟨h.1, ?_⟩)
    replace h := h.2
    exact RN_weak (K := [none, none, none]) (callX_det _) (show True from trivial) (t29_39   _ hM h)
theorem c29 {sl : Nat} {sx : Nat → Int32} {d : Nat} {l0 : Nat} {l1 : Int32} {l2 : Int32} {M : MM} {P : MM → Prop} (h : w29 l0 l1 l2 M P) : callX TBg sl sx (d + 1) 29 [vR (some l0), vI l1, vI l2] M (PV P) :=
  cX (d := d + 0) q29 (false, tb29) rfl rfl rfl (t29_E l0 l1 l2 M lenR h)
-- TwoLeash$Reader.takeY()I
abbrev q27 : MQ7 := (1, 1, 2, 6, 0, 0, 1)
abbrev R27 (sl : Nat) (sx : Nat → Int32) (d : Nat) (M0 : MM) (P : Int32 → MM → Prop) : Nat → LL → List VV → MM → Prop := RN 6 false (mS M0).length (mT M0) 0 0 sl sx (callX TBg sl sx (d + 1)) (rtW q27 M0 (PI P)) (as2 tb27)
def w27 (l0 : Nat) (M : MM) (P : Int32 → MM → Prop) : Prop := kd M l0 6 ∧ (((mI M l0 6) = (2 : Int32) → (kd M l0 6 ∧ (((lg_cmp (mL M l0 7) (18 : Int64)) ≤ 0 → (kd M l0 6 ∧ (kd M l0 6 ∧ (kd M l0 6 ∧ (∃ a1, mR M l0 2 = some a1 ∧ (kd M a1 8 ∧ (kd M l0 6 ∧ (kd M a1 8 ∧ w28 a1 ((mI M a1 1) - (1 : Int32)) (mI M l0 8) ((mL M l0 7).toInt32) M (fun r3 M2 => (r3 = 0 → (kd M2 l0 6 ∧ (kd M2 l0 6 ∧ (∃ a4, mR M2 l0 2 = some a4 ∧ (kd M2 a4 8 ∧ w29 a4 (mI M2 l0 8) ((mL M l0 7).toInt32) M2 (fun M5 => kd M5 l0 6 ∧ (P (0 : Int32) (sI M5 l0 3 (2 : Int32))))))))) ∧ (¬ (r3 = 0) → (P (6 : Int32) M2))))))))))) ∧ (¬ ((lg_cmp (mL M l0 7) (18 : Int64)) ≤ 0) → (P (3 : Int32) M))))) ∧ (¬ ((mI M l0 6) = (2 : Int32)) → (P (2 : Int32) M)))
theorem t27_E {sl : Nat} {sx : Nat → Int32} {d : Nat} {M0 : MM} {P : Int32 → MM → Prop} (l0 : Nat) (M : MM) (hM : lenO M0 M) (h : w27  l0 M P) : R27 sl sx d M0 P 0 [some (vR (some l0)), none] [] M := by
  refine RN_k (callX_det _) 2 _ _ _ _ (show kd M l0 6 ∧ R27 sl sx d M0 P 4 [some (vR (some l0)), none] [vI (mI M l0 6)] M from ⟨h.1, ?_⟩)
  replace h := h.2
  refine RN_k (callX_det _) 2 _ _ _ _ (show ((mI M l0 6) = (2 : Int32) → R27 sl sx d M0 P 10 [some (vR (some l0)), none] [] M) ∧ (¬ ((mI M l0 6) = (2 : Int32)) → R27 sl sx d M0 P 8 [some (vR (some l0)), none] [] M) from ⟨fun hc => ?_, fun hc => ?_⟩)
  · replace h := h.1 hc
    refine RN_k (callX_det _) 2 _ _ _ _ (show kd M l0 6 ∧ R27 sl sx d M0 P 14 [some (vR (some l0)), none] [vL (mL M l0 7)] M from ⟨h.1, ?_⟩)
    replace h := h.2
    refine RN_k (callX_det _) 3 _ _ _ _ (show ((lg_cmp (mL M l0 7) (18 : Int64)) ≤ 0 → R27 sl sx d M0 P 23 [some (vR (some l0)), none] [] M) ∧ (¬ ((lg_cmp (mL M l0 7) (18 : Int64)) ≤ 0) → R27 sl sx d M0 P 21 [some (vR (some l0)), none] [] M) from ⟨fun hc => ?_, fun hc => ?_⟩)
    · replace h := h.1 hc
      refine RN_k (callX_det _) 2 _ _ _ _ (show kd M l0 6 ∧ R27 sl sx d M0 P 27 [some (vR (some l0)), none] [vL (mL M l0 7)] M from ⟨h.1, ?_⟩)
      replace h := h.2
      refine RN_k (callX_det _) 4 _ _ _ _ (show kd M l0 6 ∧ R27 sl sx d M0 P 33 [some (vR (some l0)), some (vI ((mL M l0 7).toInt32))] [vR (mR M l0 2)] M from ⟨h.1, ?_⟩)
      replace h := h.2
      refine RN_k (callX_det _) 2 _ _ _ _ (show kd M l0 6 ∧ R27 sl sx d M0 P 37 [some (vR (some l0)), some (vI ((mL M l0 7).toInt32))] [vR (mR M l0 2), vR (mR M l0 2)] M from ⟨h.1, ?_⟩)
      replace h := h.2
      obtain ⟨a1, he, h⟩ := h
      rw [he]
      refine RN_k (callX_det _) 1 _ _ _ _ (show kd M a1 8 ∧ R27 sl sx d M0 P 40 [some (vR (some l0)), some (vI ((mL M l0 7).toInt32))] [vI (mI M a1 1), vR (some a1)] M from ⟨h.1, ?_⟩)
      replace h := h.2
      refine RN_k (callX_det _) 4 _ _ _ _ (show kd M l0 6 ∧ R27 sl sx d M0 P 46 [some (vR (some l0)), some (vI ((mL M l0 7).toInt32))] [vI (mI M l0 8), vI ((mI M a1 1) - (1 : Int32)), vR (some a1)] M from ⟨h.1, ?_⟩)
      replace h := h.2
      refine RN_k (callX_det _) 2 _ _ _ _ (show kd M a1 8 ∧ callX TBg sl sx (d + 1) 28 [vR (some a1), vI ((mI M a1 1) - (1 : Int32)), vI (mI M l0 8), vI ((mL M l0 7).toInt32)] M (fun v M9 => R27 sl sx d M0 P 50 [some (vR (some l0)), some (vI ((mL M l0 7).toInt32))] (pushO v []) M9) from ⟨h.1, ?_⟩)
      replace h := h.2
      refine callX_mono (callX_len (d := (d + 1)) rfl rfl rfl (c28 (d := d) h)) ?_
      clear h
      rintro v9 M2 ⟨hl, r3, rfl, h⟩
      replace hM := lenT hM hl
      show R27 sl sx d M0 P 50 [some (vR (some l0)), some (vI ((mL M l0 7).toInt32))] [vI r3] M2
      refine RN_k (callX_det _) 1 _ _ _ _ (show (r3 = 0 → R27 sl sx d M0 P 56 [some (vR (some l0)), some (vI ((mL M l0 7).toInt32))] [] M2) ∧ (¬ (r3 = 0) → R27 sl sx d M0 P 53 [some (vR (some l0)), some (vI ((mL M l0 7).toInt32))] [] M2) from ⟨fun hc => ?_, fun hc => ?_⟩)
      · replace h := h.1 hc
        refine RN_k (callX_det _) 2 _ _ _ _ (show kd M2 l0 6 ∧ R27 sl sx d M0 P 60 [some (vR (some l0)), some (vI ((mL M l0 7).toInt32))] [vR (mR M2 l0 2)] M2 from ⟨h.1, ?_⟩)
        replace h := h.2
        refine RN_k (callX_det _) 2 _ _ _ _ (show kd M2 l0 6 ∧ R27 sl sx d M0 P 64 [some (vR (some l0)), some (vI ((mL M l0 7).toInt32))] [vI (mI M2 l0 8), vR (mR M2 l0 2)] M2 from ⟨h.1, ?_⟩)
        replace h := h.2
        obtain ⟨a4, he, h⟩ := h
        refine RN_k (callX_det _) 1 _ _ _ _ (show R27 sl sx d M0 P 65 [some (vR (some l0)), some (vI ((mL M l0 7).toInt32))] [vI ((mL M l0 7).toInt32), vI (mI M2 l0 8), vR (mR M2 l0 2)] M2 from ?_)
        rw [he]
        refine RN_k (callX_det _) 1 _ _ _ _ (show kd M2 a4 8 ∧ callX TBg sl sx (d + 1) 29 [vR (some a4), vI (mI M2 l0 8), vI ((mL M l0 7).toInt32)] M2 (fun v M9 => R27 sl sx d M0 P 68 [some (vR (some l0)), some (vI ((mL M l0 7).toInt32))] (pushO v []) M9) from ⟨h.1, ?_⟩)
        replace h := h.2
        refine callX_mono (callX_len (d := (d + 1)) rfl rfl rfl (c29 (d := d) h)) ?_
        clear h
        rintro v9 M5 ⟨hl, rfl, h⟩
        replace hM := lenT hM hl
        show R27 sl sx d M0 P 68 [some (vR (some l0)), some (vI ((mL M l0 7).toInt32))] [] M5
        refine RN_k (callX_det _) 3 _ _ _ _ (show kd M5 l0 6 ∧ R27 sl sx d M0 P 73 [some (vR (some l0)), some (vI ((mL M l0 7).toInt32))] [] (sI M5 l0 3 (2 : Int32)) from ⟨h.1, ?_⟩)
        replace h := h.2
        exact RN_k (callX_det _) 2 _ _ _ _ (show rtW q27 M0 (PI P) (some (vI (0 : Int32))) (sI M5 l0 3 (2 : Int32)) from ⟨⟨_, rfl⟩, hM.1, hM.2, _, rfl, h⟩)
      · replace h := h.2 hc
        exact RN_k (callX_det _) 2 _ _ _ _ (show rtW q27 M0 (PI P) (some (vI (6 : Int32))) M2 from ⟨⟨_, rfl⟩, hM.1, hM.2, _, rfl, h⟩)
    · replace h := h.2 hc
      exact RN_k (callX_det _) 2 _ _ _ _ (show rtW q27 M0 (PI P) (some (vI (3 : Int32))) M from ⟨⟨_, rfl⟩, hM.1, hM.2, _, rfl, h⟩)
  · replace h := h.2 hc
    exact RN_k (callX_det _) 2 _ _ _ _ (show rtW q27 M0 (PI P) (some (vI (2 : Int32))) M from ⟨⟨_, rfl⟩, hM.1, hM.2, _, rfl, h⟩)
theorem c27 {sl : Nat} {sx : Nat → Int32} {d : Nat} {l0 : Nat} {M : MM} {P : Int32 → MM → Prop} (h : w27 l0 M P) : callX TBg sl sx (d + 2) 27 [vR (some l0)] M (PI P) :=
  cX (d := d + 1) q27 (false, tb27) rfl rfl rfl (t27_E l0 M lenR h)
-- TwoLeash$Reader.takeToken()I
abbrev q22 : MQ7 := (1, 1, 1, 6, 0, 0, 1)
abbrev R22 (sl : Nat) (sx : Nat → Int32) (d : Nat) (M0 : MM) (P : Int32 → MM → Prop) : Nat → LL → List VV → MM → Prop := RN 6 false (mS M0).length (mT M0) 0 0 sl sx (callX TBg sl sx (d + 2)) (rtW q22 M0 (PI P)) (as2 tb22)
def w22_53 (s0 : Int32) (M : MM) (P : Int32 → MM → Prop) : Prop := P s0 M
theorem t22_53 {sl : Nat} {sx : Nat → Int32} {d : Nat} {M0 : MM} {P : Int32 → MM → Prop} (s0 : Int32) (M : MM) (hM : lenO M0 M) (h : w22_53  s0 M P) : R22 sl sx d M0 P 53 [none] [vI s0] M := by
  exact RN_k (callX_det _) 1 _ _ _ _ (show rtW q22 M0 (PI P) (some (vI s0)) M from ⟨⟨_, rfl⟩, hM.1, hM.2, _, rfl, h⟩)
def w22 (l0 : Nat) (M : MM) (P : Int32 → MM → Prop) : Prop := kd M l0 6 ∧ (((mI M l0 6) ≠ 0 → (kd M l0 6 ∧ (((mI M l0 3) ≠ 0 → (kd M l0 6 ∧ (((mI M l0 3) ≠ (1 : Int32) → (kd M l0 6 ∧ (((mI M l0 3) ≠ (2 : Int32) → (kd M l0 6 ∧ w27 l0 M (fun r2 M1 => w22_53  r2 M1 P))) ∧ (¬ ((mI M l0 3) ≠ (2 : Int32)) → (kd M l0 6 ∧ w26 l0 M (fun r4 M3 => w22_53  r4 M3 P)))))) ∧ (¬ ((mI M l0 3) ≠ (1 : Int32)) → (kd M l0 6 ∧ w24 l0 M (fun r6 M5 => P r6 M5)))))) ∧ (¬ ((mI M l0 3) ≠ 0) → (kd M l0 6 ∧ w23 l0 M (fun r8 M7 => P r8 M7)))))) ∧ (¬ ((mI M l0 6) ≠ 0) → (P (1 : Int32) M)))
theorem t22_E {sl : Nat} {sx : Nat → Int32} {d : Nat} {M0 : MM} {P : Int32 → MM → Prop} (l0 : Nat) (M : MM) (hM : lenO M0 M) (h : w22  l0 M P) : R22 sl sx d M0 P 0 [some (vR (some l0))] [] M := by
  refine RN_k (callX_det _) 2 _ _ _ _ (show kd M l0 6 ∧ R22 sl sx d M0 P 4 [some (vR (some l0))] [vI (mI M l0 6)] M from ⟨h.1, ?_⟩)
  replace h := h.2
  refine RN_k (callX_det _) 1 _ _ _ _ (show ((mI M l0 6) ≠ 0 → R22 sl sx d M0 P 9 [some (vR (some l0))] [] M) ∧ (¬ ((mI M l0 6) ≠ 0) → R22 sl sx d M0 P 7 [some (vR (some l0))] [] M) from ⟨fun hc => ?_, fun hc => ?_⟩)
  · replace h := h.1 hc
    refine RN_k (callX_det _) 2 _ _ _ _ (show kd M l0 6 ∧ R22 sl sx d M0 P 13 [some (vR (some l0))] [vI (mI M l0 3)] M from ⟨h.1, ?_⟩)
    replace h := h.2
    refine RN_k (callX_det _) 1 _ _ _ _ (show ((mI M l0 3) ≠ 0 → R22 sl sx d M0 P 21 [some (vR (some l0))] [] M) ∧ (¬ ((mI M l0 3) ≠ 0) → R22 sl sx d M0 P 16 [some (vR (some l0))] [] M) from ⟨fun hc => ?_, fun hc => ?_⟩)
    · replace h := h.1 hc
      refine RN_k (callX_det _) 2 _ _ _ _ (show kd M l0 6 ∧ R22 sl sx d M0 P 25 [some (vR (some l0))] [vI (mI M l0 3)] M from ⟨h.1, ?_⟩)
      replace h := h.2
      refine RN_k (callX_det _) 2 _ _ _ _ (show ((mI M l0 3) ≠ (1 : Int32) → R22 sl sx d M0 P 34 [some (vR (some l0))] [] M) ∧ (¬ ((mI M l0 3) ≠ (1 : Int32)) → R22 sl sx d M0 P 29 [some (vR (some l0))] [] M) from ⟨fun hc => ?_, fun hc => ?_⟩)
      · replace h := h.1 hc
        refine RN_k (callX_det _) 2 _ _ _ _ (show kd M l0 6 ∧ R22 sl sx d M0 P 38 [some (vR (some l0))] [vI (mI M l0 3)] M from ⟨h.1, ?_⟩)
        replace h := h.2
        refine RN_k (callX_det _) 2 _ _ _ _ (show ((mI M l0 3) ≠ (2 : Int32) → R22 sl sx d M0 P 49 [some (vR (some l0))] [] M) ∧ (¬ ((mI M l0 3) ≠ (2 : Int32)) → R22 sl sx d M0 P 42 [some (vR (some l0))] [] M) from ⟨fun hc => ?_, fun hc => ?_⟩)
        · replace h := h.1 hc
          refine RN_k (callX_det _) 2 _ _ _ _ (show kd M l0 6 ∧ callX TBg sl sx (d + 2) 27 [vR (some l0)] M (fun v M9 => R22 sl sx d M0 P 53 [some (vR (some l0))] (pushO v []) M9) from ⟨h.1, ?_⟩)
          replace h := h.2
          refine callX_mono (callX_len (d := (d + 2)) rfl rfl rfl (c27 (d := d) h)) ?_
          clear h
          rintro v9 M1 ⟨hl, r2, rfl, h⟩
          replace hM := lenT hM hl
          show R22 sl sx d M0 P 53 [some (vR (some l0))] [vI r2] M1
          exact RN_weak (K := [none]) (callX_det _) (show True from trivial) (t22_53  r2 _ hM h)
        · replace h := h.2 hc
          refine RN_k (callX_det _) 2 _ _ _ _ (show kd M l0 6 ∧ callX TBg sl sx (d + 2) 26 [vR (some l0)] M (fun v M9 => R22 sl sx d M0 P 46 [some (vR (some l0))] (pushO v []) M9) from ⟨h.1, ?_⟩)
          replace h := h.2
          refine callX_mono (callX_len (d := (d + 2)) rfl rfl rfl (c26 (d := d + 1) h)) ?_
          clear h
          rintro v9 M3 ⟨hl, r4, rfl, h⟩
          replace hM := lenT hM hl
          show R22 sl sx d M0 P 46 [some (vR (some l0))] [vI r4] M3
          refine RN_k (callX_det _) 1 _ _ _ _ (show R22 sl sx d M0 P 53 [some (vR (some l0))] [vI r4] M3 from ?_)
          exact RN_weak (K := [none]) (callX_det _) (show True from trivial) (t22_53  r4 _ hM h)
      · replace h := h.2 hc
        refine RN_k (callX_det _) 2 _ _ _ _ (show kd M l0 6 ∧ callX TBg sl sx (d + 2) 24 [vR (some l0)] M (fun v M9 => R22 sl sx d M0 P 33 [some (vR (some l0))] (pushO v []) M9) from ⟨h.1, ?_⟩)
        replace h := h.2
        refine callX_mono (callX_len (d := (d + 2)) rfl rfl rfl (c24 (d := d) h)) ?_
        clear h
        rintro v9 M5 ⟨hl, r6, rfl, h⟩
        replace hM := lenT hM hl
        show R22 sl sx d M0 P 33 [some (vR (some l0))] [vI r6] M5
        exact RN_k (callX_det _) 1 _ _ _ _ (show rtW q22 M0 (PI P) (some (vI r6)) M5 from ⟨⟨_, rfl⟩, hM.1, hM.2, _, rfl, h⟩)
    · replace h := h.2 hc
      refine RN_k (callX_det _) 2 _ _ _ _ (show kd M l0 6 ∧ callX TBg sl sx (d + 2) 23 [vR (some l0)] M (fun v M9 => R22 sl sx d M0 P 20 [some (vR (some l0))] (pushO v []) M9) from ⟨h.1, ?_⟩)
      replace h := h.2
      refine callX_mono (callX_len (d := (d + 2)) rfl rfl rfl (c23 (d := d + 1) h)) ?_
      clear h
      rintro v9 M7 ⟨hl, r8, rfl, h⟩
      replace hM := lenT hM hl
      show R22 sl sx d M0 P 20 [some (vR (some l0))] [vI r8] M7
      exact RN_k (callX_det _) 1 _ _ _ _ (show rtW q22 M0 (PI P) (some (vI r8)) M7 from ⟨⟨_, rfl⟩, hM.1, hM.2, _, rfl, h⟩)
  · replace h := h.2 hc
    exact RN_k (callX_det _) 2 _ _ _ _ (show rtW q22 M0 (PI P) (some (vI (1 : Int32))) M from ⟨⟨_, rfl⟩, hM.1, hM.2, _, rfl, h⟩)
theorem c22 {sl : Nat} {sx : Nat → Int32} {d : Nat} {l0 : Nat} {M : MM} {P : Int32 → MM → Prop} (h : w22 l0 M P) : callX TBg sl sx (d + 3) 22 [vR (some l0)] M (PI P) :=
  cX (d := d + 2) q22 (false, tb22) rfl rfl rfl (t22_E l0 M lenR h)
-- TwoLeash$Reader.read([BI)I
abbrev q18 : MQ7 := (3, 1, 5, 6, 0, 0, 1)
abbrev R18 (sl : Nat) (sx : Nat → Int32) (d : Nat) (M0 : MM) (P : Int32 → MM → Prop) : Nat → LL → List VV → MM → Prop := RN 6 false (mS M0).length (mT M0) 0 0 sl sx (callX TBg sl sx (d + 3)) (rtW q18 M0 (PI P)) (as2 tb18)
def w18_64 (l3 : Int32) (M : MM) (P : Int32 → MM → Prop) : Prop := P l3 M
theorem t18_64 {sl : Nat} {sx : Nat → Int32} {d : Nat} {M0 : MM} {P : Int32 → MM → Prop} (l3 : Int32) (M : MM) (hM : lenO M0 M) (h : w18_64  l3 M P) : R18 sl sx d M0 P 64 [none, none, none, some (vI l3), none] [] M := by
  exact RN_k (callX_det _) 2 _ _ _ _ (show rtW q18 M0 (PI P) (some (vI l3)) M from ⟨⟨_, rfl⟩, hM.1, hM.2, _, rfl, h⟩)
def w18_53 (k20 : Nat → Option Nat → Int32 → Int32 → Int32 → MM → Prop) (l0 : Nat) (l1 : Option Nat) (l2 : Int32) (l4 : Int32) (M : MM) (P : Int32 → MM → Prop) : Prop := kd M l0 6 ∧ w22 l0 M (fun r2 M1 => k20 l0 l1 l2 r2 (l4 + (1 : Int32)) M1)
theorem t18_53 {sl : Nat} {sx : Nat → Int32} {d : Nat} {M0 : MM} {P : Int32 → MM → Prop} {k20 : Nat → Option Nat → Int32 → Int32 → Int32 → MM → Prop} (hk20 : ∀ (l0 : Nat) (l1 : Option Nat) (l2 : Int32) (l3 : Int32) (l4 : Int32) (M : MM), lenO M0 M → k20 l0 l1 l2 l3 l4 M → R18 sl sx d M0 P 20 [some (vR (some l0)), some (vR l1), some (vI l2), some (vI l3), some (vI l4)] [] M) (l0 : Nat) (l1 : Option Nat) (l2 : Int32) (l4 : Int32) (M : MM) (hM : lenO M0 M) (h : w18_53 k20 l0 l1 l2 l4 M P) : R18 sl sx d M0 P 53 [some (vR (some l0)), some (vR l1), some (vI l2), none, some (vI l4)] [] M := by
  refine RN_k (callX_det _) 2 _ _ _ _ (show kd M l0 6 ∧ callX TBg sl sx (d + 3) 22 [vR (some l0)] M (fun v M9 => R18 sl sx d M0 P 57 [some (vR (some l0)), some (vR l1), some (vI l2), none, some (vI l4)] (pushO v []) M9) from ⟨h.1, ?_⟩)
  replace h := h.2
  refine callX_mono (callX_len (d := (d + 3)) rfl rfl rfl (c22 (d := d) h)) ?_
  clear h
  rintro v9 M1 ⟨hl, r2, rfl, h⟩
  replace hM := lenT hM hl
  show R18 sl sx d M0 P 57 [some (vR (some l0)), some (vR l1), some (vI l2), none, some (vI l4)] [vI r2] M1
  refine RN_k (callX_det _) 3 _ _ _ _ (show R18 sl sx d M0 P 20 [some (vR (some l0)), some (vR l1), some (vI l2), some (vI r2), some (vI (l4 + (1 : Int32)))] [] M1 from ?_)
  exact RN_weak (K := [some (vR (some l0)), some (vR l1), some (vI l2), some (vI r2), some (vI (l4 + (1 : Int32)))]) (callX_det _) (show _ ∧ _ ∧ _ ∧ _ ∧ _ ∧ True from ⟨rfl, rfl, rfl, rfl, rfl, trivial⟩) (hk20 l0 l1 l2 r2 (l4 + (1 : Int32)) _ hM h)
def w18_20 : Nat → Nat → Option Nat → Int32 → Int32 → Int32 → MM → (Int32 → MM → Prop) → Prop
  | 0 => fun _ _ _ _ _ _ _ => False
  | n + 1 => fun l0 l1 l2 l3 l4 M P => (l2 < l4 → (w18_64  l3 M P)) ∧ (¬ (l2 < l4) → ((l3 ≠ 0 → (w18_64  l3 M P)) ∧ (¬ (l3 ≠ 0) → (kd M l0 6 ∧ w19 l0 l1 l2 M (fun M1 => kd M1 l0 6 ∧ (((mI M1 l0 6) ≠ (4 : Int32) → (w18_53 (fun z0 z1 z2 z3 z4 z5 => w18_20  n z0 z1 z2 z3 z4 z5 P) l0 l1 l2 l4 M1 P)) ∧ (¬ ((mI M1 l0 6) ≠ (4 : Int32)) → (kd M1 l0 6 ∧ (((mI M1 l0 3) ≠ 0 → (w18_53 (fun z0 z1 z2 z3 z4 z5 => w18_20  n z0 z1 z2 z3 z4 z5 P) l0 l1 l2 l4 M1 P)) ∧ (¬ ((mI M1 l0 3) ≠ 0) → (P (0 : Int32) M1)))))))))))
theorem t18_20 {sl : Nat} {sx : Nat → Int32} {d : Nat} {M0 : MM} {P : Int32 → MM → Prop} (n : Nat) : ∀ (l0 : Nat) (l1 : Option Nat) (l2 : Int32) (l3 : Int32) (l4 : Int32) (M : MM) (_ : lenO M0 M) (_ : w18_20  n l0 l1 l2 l3 l4 M P), R18 sl sx d M0 P 20 [some (vR (some l0)), some (vR l1), some (vI l2), some (vI l3), some (vI l4)] [] M := by
  induction n with
  | zero => intro l0 l1 l2 l3 l4 M hM h; cases h
  | succ n ih =>
    intro l0 l1 l2 l3 l4 M hM h
    refine RN_k (callX_det _) 3 _ _ _ _ (show (l2 < l4 → R18 sl sx d M0 P 64 [some (vR (some l0)), some (vR l1), some (vI l2), some (vI l3), some (vI l4)] [] M) ∧ (¬ (l2 < l4) → R18 sl sx d M0 P 26 [some (vR (some l0)), some (vR l1), some (vI l2), some (vI l3), some (vI l4)] [] M) from ⟨fun hc => ?_, fun hc => ?_⟩)
    · replace h := h.1 hc
      exact RN_weak (K := [none, none, none, some (vI l3), none]) (callX_det _) (show _ ∧ True from ⟨rfl, trivial⟩) (t18_64  l3 _ hM h)
    · replace h := h.2 hc
      refine RN_k (callX_det _) 2 _ _ _ _ (show (l3 ≠ 0 → R18 sl sx d M0 P 64 [some (vR (some l0)), some (vR l1), some (vI l2), some (vI l3), some (vI l4)] [] M) ∧ (¬ (l3 ≠ 0) → R18 sl sx d M0 P 30 [some (vR (some l0)), some (vR l1), some (vI l2), some (vI l3), some (vI l4)] [] M) from ⟨fun hc => ?_, fun hc => ?_⟩)
      · replace h := h.1 hc
        exact RN_weak (K := [none, none, none, some (vI l3), none]) (callX_det _) (show _ ∧ True from ⟨rfl, trivial⟩) (t18_64  l3 _ hM h)
      · replace h := h.2 hc
        refine RN_k (callX_det _) 4 _ _ _ _ (show kd M l0 6 ∧ callX TBg sl sx (d + 3) 19 [vR (some l0), vR l1, vI l2] M (fun v M9 => R18 sl sx d M0 P 36 [some (vR (some l0)), some (vR l1), some (vI l2), some (vI l3), some (vI l4)] (pushO v []) M9) from ⟨h.1, ?_⟩)
        replace h := h.2
        refine callX_mono (callX_len (d := (d + 3)) rfl rfl rfl (c19 (d := d + 1) h)) ?_
        clear h
        rintro v9 M1 ⟨hl, rfl, h⟩
        replace hM := lenT hM hl
        show R18 sl sx d M0 P 36 [some (vR (some l0)), some (vR l1), some (vI l2), some (vI l3), some (vI l4)] [] M1
        refine RN_k (callX_det _) 2 _ _ _ _ (show kd M1 l0 6 ∧ R18 sl sx d M0 P 40 [some (vR (some l0)), some (vR l1), some (vI l2), some (vI l3), some (vI l4)] [vI (mI M1 l0 6)] M1 from ⟨h.1, ?_⟩)
        replace h := h.2
        refine RN_k (callX_det _) 2 _ _ _ _ (show ((mI M1 l0 6) ≠ (4 : Int32) → R18 sl sx d M0 P 53 [some (vR (some l0)), some (vR l1), some (vI l2), some (vI l3), some (vI l4)] [] M1) ∧ (¬ ((mI M1 l0 6) ≠ (4 : Int32)) → R18 sl sx d M0 P 44 [some (vR (some l0)), some (vR l1), some (vI l2), some (vI l3), some (vI l4)] [] M1) from ⟨fun hc => ?_, fun hc => ?_⟩)
        · replace h := h.1 hc
          exact RN_weak (K := [some (vR (some l0)), some (vR l1), some (vI l2), none, some (vI l4)]) (callX_det _) (show _ ∧ _ ∧ _ ∧ _ ∧ True from ⟨rfl, rfl, rfl, rfl, trivial⟩) (t18_53 ih l0 l1 l2 l4 _ hM h)
        · replace h := h.2 hc
          refine RN_k (callX_det _) 2 _ _ _ _ (show kd M1 l0 6 ∧ R18 sl sx d M0 P 48 [some (vR (some l0)), some (vR l1), some (vI l2), some (vI l3), some (vI l4)] [vI (mI M1 l0 3)] M1 from ⟨h.1, ?_⟩)
          replace h := h.2
          refine RN_k (callX_det _) 1 _ _ _ _ (show ((mI M1 l0 3) ≠ 0 → R18 sl sx d M0 P 53 [some (vR (some l0)), some (vR l1), some (vI l2), some (vI l3), some (vI l4)] [] M1) ∧ (¬ ((mI M1 l0 3) ≠ 0) → R18 sl sx d M0 P 51 [some (vR (some l0)), some (vR l1), some (vI l2), some (vI l3), some (vI l4)] [] M1) from ⟨fun hc => ?_, fun hc => ?_⟩)
          · replace h := h.1 hc
            exact RN_weak (K := [some (vR (some l0)), some (vR l1), some (vI l2), none, some (vI l4)]) (callX_det _) (show _ ∧ _ ∧ _ ∧ _ ∧ True from ⟨rfl, rfl, rfl, rfl, trivial⟩) (t18_53 ih l0 l1 l2 l4 _ hM h)
          · replace h := h.2 hc
            exact RN_k (callX_det _) 2 _ _ _ _ (show rtW q18 M0 (PI P) (some (vI (0 : Int32))) M1 from ⟨⟨_, rfl⟩, hM.1, hM.2, _, rfl, h⟩)
def w18 (l0 : Nat) (l1 : Option Nat) (l2 : Int32) (M : MM) (P : Int32 → MM → Prop) : Prop := kd M l0 6 ∧ (kd (sI M l0 1 (0 : Int32)) l0 6 ∧ (kd (sI (sI M l0 1 (0 : Int32)) l0 5 (0 : Int32)) l0 6 ∧ (∃ n2, w18_20  n2 l0 l1 l2 (0 : Int32) (0 : Int32) (sI (sI (sI M l0 1 (0 : Int32)) l0 5 (0 : Int32)) l0 3 (0 : Int32)) P)))
theorem t18_E {sl : Nat} {sx : Nat → Int32} {d : Nat} {M0 : MM} {P : Int32 → MM → Prop} (l0 : Nat) (l1 : Option Nat) (l2 : Int32) (M : MM) (hM : lenO M0 M) (h : w18  l0 l1 l2 M P) : R18 sl sx d M0 P 0 [some (vR (some l0)), some (vR l1), some (vI l2), none, none] [] M := by
  refine RN_k (callX_det _) 3 _ _ _ _ (show kd M l0 6 ∧ R18 sl sx d M0 P 5 [some (vR (some l0)), some (vR l1), some (vI l2), none, none] [] (sI M l0 1 (0 : Int32)) from ⟨h.1, ?_⟩)
  replace h := h.2
  refine RN_k (callX_det _) 3 _ _ _ _ (show kd (sI M l0 1 (0 : Int32)) l0 6 ∧ R18 sl sx d M0 P 10 [some (vR (some l0)), some (vR l1), some (vI l2), none, none] [] (sI (sI M l0 1 (0 : Int32)) l0 5 (0 : Int32)) from ⟨h.1, ?_⟩)
  replace h := h.2
  refine RN_k (callX_det _) 3 _ _ _ _ (show kd (sI (sI M l0 1 (0 : Int32)) l0 5 (0 : Int32)) l0 6 ∧ R18 sl sx d M0 P 15 [some (vR (some l0)), some (vR l1), some (vI l2), none, none] [] (sI (sI (sI M l0 1 (0 : Int32)) l0 5 (0 : Int32)) l0 3 (0 : Int32)) from ⟨h.1, ?_⟩)
  replace h := h.2
  refine RN_k (callX_det _) 4 _ _ _ _ (show R18 sl sx d M0 P 20 [some (vR (some l0)), some (vR l1), some (vI l2), some (vI (0 : Int32)), some (vI (0 : Int32))] [] (sI (sI (sI M l0 1 (0 : Int32)) l0 5 (0 : Int32)) l0 3 (0 : Int32)) from ?_)
  obtain ⟨n2, h⟩ := h
  exact RN_weak (K := [some (vR (some l0)), some (vR l1), some (vI l2), some (vI (0 : Int32)), some (vI (0 : Int32))]) (callX_det _) (show _ ∧ _ ∧ _ ∧ _ ∧ _ ∧ True from ⟨rfl, rfl, rfl, rfl, rfl, trivial⟩) (t18_20  n2 l0 l1 l2 (0 : Int32) (0 : Int32) _ hM h)
theorem c18 {sl : Nat} {sx : Nat → Int32} {d : Nat} {l0 : Nat} {l1 : Option Nat} {l2 : Int32} {M : MM} {P : Int32 → MM → Prop} (h : w18 l0 l1 l2 M P) : callX TBg sl sx (d + 4) 18 [vR (some l0), vR l1, vI l2] M (PI P) :=
  cX (d := d + 3) q18 (false, tb18) rfl rfl rfl (t18_E l0 l1 l2 M lenR h)
-- TwoLeash$Reader.faultPlace()I
abbrev q30 : MQ7 := (1, 1, 1, 6, 0, 0, 1)
abbrev R30 (sl : Nat) (sx : Nat → Int32) (d : Nat) (M0 : MM) (P : Int32 → MM → Prop) : Nat → LL → List VV → MM → Prop := RN 6 false (mS M0).length (mT M0) 0 0 sl sx (callX TBg sl sx (d + 0)) (rtW q30 M0 (PI P)) (as2 tb30)
def w30 (l0 : Nat) (M : MM) (P : Int32 → MM → Prop) : Prop := kd M l0 6 ∧ (P (mI M l0 4) M)
theorem t30_E {sl : Nat} {sx : Nat → Int32} {d : Nat} {M0 : MM} {P : Int32 → MM → Prop} (l0 : Nat) (M : MM) (hM : lenO M0 M) (h : w30  l0 M P) : R30 sl sx d M0 P 0 [some (vR (some l0))] [] M := by
  refine RN_k (callX_det _) 2 _ _ _ _ (show kd M l0 6 ∧ R30 sl sx d M0 P 4 [some (vR (some l0))] [vI (mI M l0 4)] M from ⟨h.1, ?_⟩)
  replace h := h.2
  exact RN_k (callX_det _) 1 _ _ _ _ (show rtW q30 M0 (PI P) (some (vI (mI M l0 4))) M from ⟨⟨_, rfl⟩, hM.1, hM.2, _, rfl, h⟩)
theorem c30 {sl : Nat} {sx : Nat → Int32} {d : Nat} {l0 : Nat} {M : MM} {P : Int32 → MM → Prop} (h : w30 l0 M P) : callX TBg sl sx (d + 1) 30 [vR (some l0)] M (PI P) :=
  cX (d := d + 0) q30 (false, tb30) rfl rfl rfl (t30_E l0 M lenR h)
-- java/lang/Math.max(II)I
abbrev q33 : MQ7 := (2, 0, 2, 14, 0, 0, 1)
abbrev R33 (sl : Nat) (sx : Nat → Int32) (d : Nat) (M0 : MM) (P : Int32 → MM → Prop) : Nat → LL → List VV → MM → Prop := RN 14 false (mS M0).length (mT M0) 0 0 sl sx (callX TBg sl sx (d + 0)) (rtW q33 M0 (PI P)) (as2 tb33)
def w33_10 (s0 : Int32) (M : MM) (P : Int32 → MM → Prop) : Prop := P s0 M
theorem t33_10 {sl : Nat} {sx : Nat → Int32} {d : Nat} {M0 : MM} {P : Int32 → MM → Prop} (s0 : Int32) (M : MM) (hM : lenO M0 M) (h : w33_10  s0 M P) : R33 sl sx d M0 P 10 [none, none] [vI s0] M := by
  exact RN_k (callX_det _) 1 _ _ _ _ (show rtW q33 M0 (PI P) (some (vI s0)) M from ⟨⟨_, rfl⟩, hM.1, hM.2, _, rfl, h⟩)
def w33 (l0 : Int32) (l1 : Int32) (M : MM) (P : Int32 → MM → Prop) : Prop := (l0 < l1 → (w33_10  l1 M P)) ∧ (¬ (l0 < l1) → (w33_10  l0 M P))
theorem t33_E {sl : Nat} {sx : Nat → Int32} {d : Nat} {M0 : MM} {P : Int32 → MM → Prop} (l0 : Int32) (l1 : Int32) (M : MM) (hM : lenO M0 M) (h : w33  l0 l1 M P) : R33 sl sx d M0 P 0 [some (vI l0), some (vI l1)] [] M := by
  refine RN_k (callX_det _) 3 _ _ _ _ (show (l0 < l1 → R33 sl sx d M0 P 9 [some (vI l0), some (vI l1)] [] M) ∧ (¬ (l0 < l1) → R33 sl sx d M0 P 5 [some (vI l0), some (vI l1)] [] M) from ⟨fun hc => ?_, fun hc => ?_⟩)
  · replace h := h.1 hc
    refine RN_k (callX_det _) 1 _ _ _ _ (show R33 sl sx d M0 P 10 [some (vI l0), some (vI l1)] [vI l1] M from ?_)
    exact RN_weak (K := [none, none]) (callX_det _) (show True from trivial) (t33_10  l1 _ hM h)
  · replace h := h.2 hc
    refine RN_k (callX_det _) 2 _ _ _ _ (show R33 sl sx d M0 P 10 [some (vI l0), some (vI l1)] [vI l0] M from ?_)
    exact RN_weak (K := [none, none]) (callX_det _) (show True from trivial) (t33_10  l0 _ hM h)
theorem c33 {sl : Nat} {sx : Nat → Int32} {d : Nat} {l0 : Int32} {l1 : Int32} {M : MM} {P : Int32 → MM → Prop} (h : w33 l0 l1 M P) : callX TBg sl sx (d + 1) 33 [vI l0, vI l1] M (PI P) :=
  cX (d := d + 0) q33 (false, tb33) rfl rfl rfl (t33_E l0 l1 M lenR h)
-- TwoLeash$Track.copyPiece(LTwoLeash$Track;II)V
abbrev q32 : MQ7 := (4, 1, 5, 8, 0, 0, 0)
abbrev R32 (sl : Nat) (sx : Nat → Int32) (d : Nat) (M0 : MM) (P : MM → Prop) : Nat → LL → List VV → MM → Prop := RN 8 false (mS M0).length (mT M0) 0 0 sl sx (callX TBg sl sx (d + 1)) (rtW q32 M0 (PV P)) (as2 tb32)
def w32_54 (M : MM) (P : MM → Prop) : Prop := P M
theorem t32_54 {sl : Nat} {sx : Nat → Int32} {d : Nat} {M0 : MM} {P : MM → Prop}  (M : MM) (hM : lenO M0 M) (h : w32_54   M P) : R32 sl sx d M0 P 54 [none, none, none, none, none] [] M := by
  exact RN_k (callX_det _) 1 _ _ _ _ (show rtW q32 M0 (PV P) none M from ⟨rfl, hM.1, hM.2, rfl, h⟩)
def w32_15 : Nat → Nat → Option Nat → Int32 → Int32 → MM → (MM → Prop) → Prop
  | 0 => fun _ _ _ _ _ _ => False
  | n + 1 => fun l0 l1 l3 l4 M P => (l3 < l4 → (w32_54  M P)) ∧ (¬ (l3 < l4) → (∃ a1, l1 = some a1 ∧ (kd M a1 8 ∧ (((mI M a1 1) ≤ l4 → (w32_54  M P)) ∧ (¬ ((mI M a1 1) ≤ l4) → (kd M a1 8 ∧ (∃ a2, mR M a1 2 = some a2 ∧ (inb M a2 11 l4 ∧ (kd M a1 8 ∧ (∃ a3, mR M a1 3 = some a3 ∧ (inb M a3 11 l4 ∧ (kd M l0 8 ∧ w29 l0 (mI M a2 l4.toNatClampNeg) (mI M a3 l4.toNatClampNeg) M (fun M4 => w32_15  n l0 (some a1) l3 (l4 + (1 : Int32)) M4 P)))))))))))))
theorem t32_15 {sl : Nat} {sx : Nat → Int32} {d : Nat} {M0 : MM} {P : MM → Prop} (n : Nat) : ∀ (l0 : Nat) (l1 : Option Nat) (l3 : Int32) (l4 : Int32) (M : MM) (_ : lenO M0 M) (_ : w32_15  n l0 l1 l3 l4 M P), R32 sl sx d M0 P 15 [some (vR (some l0)), some (vR l1), none, some (vI l3), some (vI l4)] [] M := by
  induction n with
  | zero => intro l0 l1 l3 l4 M hM h; cases h
  | succ n ih =>
    intro l0 l1 l3 l4 M hM h
    refine RN_k (callX_det _) 3 _ _ _ _ (show (l3 < l4 → R32 sl sx d M0 P 54 [some (vR (some l0)), some (vR l1), none, some (vI l3), some (vI l4)] [] M) ∧ (¬ (l3 < l4) → R32 sl sx d M0 P 21 [some (vR (some l0)), some (vR l1), none, some (vI l3), some (vI l4)] [] M) from ⟨fun hc => ?_, fun hc => ?_⟩)
    · replace h := h.1 hc
      exact RN_weak (K := [none, none, none, none, none]) (callX_det _) (show True from trivial) (t32_54   _ hM h)
    · replace h := h.2 hc
      obtain ⟨a1, he, h⟩ := h
      refine RN_k (callX_det _) 2 _ _ _ _ (show R32 sl sx d M0 P 24 [some (vR (some l0)), some (vR l1), none, some (vI l3), some (vI l4)] [vR l1, vI l4] M from ?_)
      subst he
      refine RN_k (callX_det _) 1 _ _ _ _ (show kd M a1 8 ∧ R32 sl sx d M0 P 27 [some (vR (some l0)), some (vR (some a1)), none, some (vI l3), some (vI l4)] [vI (mI M a1 1), vI l4] M from ⟨h.1, ?_⟩)
      replace h := h.2
      refine RN_k (callX_det _) 1 _ _ _ _ (show ((mI M a1 1) ≤ l4 → R32 sl sx d M0 P 54 [some (vR (some l0)), some (vR (some a1)), none, some (vI l3), some (vI l4)] [] M) ∧ (¬ ((mI M a1 1) ≤ l4) → R32 sl sx d M0 P 30 [some (vR (some l0)), some (vR (some a1)), none, some (vI l3), some (vI l4)] [] M) from ⟨fun hc => ?_, fun hc => ?_⟩)
      · replace h := h.1 hc
        exact RN_weak (K := [none, none, none, none, none]) (callX_det _) (show True from trivial) (t32_54   _ hM h)
      · replace h := h.2 hc
        refine RN_k (callX_det _) 3 _ _ _ _ (show kd M a1 8 ∧ R32 sl sx d M0 P 35 [some (vR (some l0)), some (vR (some a1)), none, some (vI l3), some (vI l4)] [vR (mR M a1 2), vR (some l0)] M from ⟨h.1, ?_⟩)
        replace h := h.2
        obtain ⟨a2, he, h⟩ := h
        refine RN_k (callX_det _) 1 _ _ _ _ (show R32 sl sx d M0 P 37 [some (vR (some l0)), some (vR (some a1)), none, some (vI l3), some (vI l4)] [vI l4, vR (mR M a1 2), vR (some l0)] M from ?_)
        rw [he]
        refine RN_k (callX_det _) 1 _ _ _ _ (show inb M a2 11 l4 ∧ R32 sl sx d M0 P 38 [some (vR (some l0)), some (vR (some a1)), none, some (vI l3), some (vI l4)] [vI (mI M a2 l4.toNatClampNeg), vR (some l0)] M from ⟨h.1, ?_⟩)
        replace h := h.2
        refine RN_k (callX_det _) 2 _ _ _ _ (show kd M a1 8 ∧ R32 sl sx d M0 P 42 [some (vR (some l0)), some (vR (some a1)), none, some (vI l3), some (vI l4)] [vR (mR M a1 3), vI (mI M a2 l4.toNatClampNeg), vR (some l0)] M from ⟨h.1, ?_⟩)
        replace h := h.2
        obtain ⟨a3, he, h⟩ := h
        refine RN_k (callX_det _) 1 _ _ _ _ (show R32 sl sx d M0 P 44 [some (vR (some l0)), some (vR (some a1)), none, some (vI l3), some (vI l4)] [vI l4, vR (mR M a1 3), vI (mI M a2 l4.toNatClampNeg), vR (some l0)] M from ?_)
        rw [he]
        refine RN_k (callX_det _) 1 _ _ _ _ (show inb M a3 11 l4 ∧ R32 sl sx d M0 P 45 [some (vR (some l0)), some (vR (some a1)), none, some (vI l3), some (vI l4)] [vI (mI M a3 l4.toNatClampNeg), vI (mI M a2 l4.toNatClampNeg), vR (some l0)] M from ⟨h.1, ?_⟩)
        replace h := h.2
        refine RN_k (callX_det _) 1 _ _ _ _ (show kd M l0 8 ∧ callX TBg sl sx (d + 1) 29 [vR (some l0), vI (mI M a2 l4.toNatClampNeg), vI (mI M a3 l4.toNatClampNeg)] M (fun v M9 => R32 sl sx d M0 P 48 [some (vR (some l0)), some (vR (some a1)), none, some (vI l3), some (vI l4)] (pushO v []) M9) from ⟨h.1, ?_⟩)
        replace h := h.2
        refine callX_mono (callX_len (d := (d + 1)) rfl rfl rfl (c29 (d := d) h)) ?_
        clear h
        rintro v9 M4 ⟨hl, rfl, h⟩
        replace hM := lenT hM hl
        show R32 sl sx d M0 P 48 [some (vR (some l0)), some (vR (some a1)), none, some (vI l3), some (vI l4)] [] M4
        refine RN_k (callX_det _) 2 _ _ _ _ (show R32 sl sx d M0 P 15 [some (vR (some l0)), some (vR (some a1)), none, some (vI l3), some (vI (l4 + (1 : Int32)))] [] M4 from ?_)
        exact RN_weak (K := [some (vR (some l0)), some (vR (some a1)), none, some (vI l3), some (vI (l4 + (1 : Int32)))]) (callX_det _) (show _ ∧ _ ∧ _ ∧ _ ∧ True from ⟨rfl, rfl, rfl, rfl, trivial⟩) (ih l0 (some a1) l3 (l4 + (1 : Int32)) _ hM h)
def w32 (l0 : Nat) (l1 : Option Nat) (l2 : Int32) (l3 : Int32) (M : MM) (P : MM → Prop) : Prop := ∃ a1, l1 = some a1 ∧ (kd M a1 8 ∧ (kd M l0 8 ∧ w25 l0 (mL M a1 0) M (fun M2 => w33 l2 (0 : Int32) M2 (fun r4 M3 => ∃ n2, w32_15  n2 l0 (some a1) l3 r4 M3 P))))
theorem t32_E {sl : Nat} {sx : Nat → Int32} {d : Nat} {M0 : MM} {P : MM → Prop} (l0 : Nat) (l1 : Option Nat) (l2 : Int32) (l3 : Int32) (M : MM) (hM : lenO M0 M) (h : w32  l0 l1 l2 l3 M P) : R32 sl sx d M0 P 0 [some (vR (some l0)), some (vR l1), some (vI l2), some (vI l3), none] [] M := by
  obtain ⟨a1, he, h⟩ := h
  refine RN_k (callX_det _) 2 _ _ _ _ (show R32 sl sx d M0 P 2 [some (vR (some l0)), some (vR l1), some (vI l2), some (vI l3), none] [vR l1, vR (some l0)] M from ?_)
  subst he
  refine RN_k (callX_det _) 1 _ _ _ _ (show kd M a1 8 ∧ R32 sl sx d M0 P 5 [some (vR (some l0)), some (vR (some a1)), some (vI l2), some (vI l3), none] [vL (mL M a1 0), vR (some l0)] M from ⟨h.1, ?_⟩)
  replace h := h.2
  refine RN_k (callX_det _) 1 _ _ _ _ (show kd M l0 8 ∧ callX TBg sl sx (d + 1) 25 [vR (some l0), vL (mL M a1 0)] M (fun v M9 => R32 sl sx d M0 P 8 [some (vR (some l0)), some (vR (some a1)), some (vI l2), some (vI l3), none] (pushO v []) M9) from ⟨h.1, ?_⟩)
  replace h := h.2
  refine callX_mono (callX_len (d := (d + 1)) rfl rfl rfl (c25 (d := d) h)) ?_
  clear h
  rintro v9 M2 ⟨hl, rfl, h⟩
  replace hM := lenT hM hl
  show R32 sl sx d M0 P 8 [some (vR (some l0)), some (vR (some a1)), some (vI l2), some (vI l3), none] [] M2
  refine RN_k (callX_det _) 3 _ _ _ _ (show callX TBg sl sx (d + 1) 33 [vI l2, vI (0 : Int32)] M2 (fun v M9 => R32 sl sx d M0 P 13 [some (vR (some l0)), some (vR (some a1)), some (vI l2), some (vI l3), none] (pushO v []) M9) from ?_)
  refine callX_mono (callX_len (d := (d + 1)) rfl rfl rfl (c33 (d := d) h)) ?_
  clear h
  rintro v9 M3 ⟨hl, r4, rfl, h⟩
  replace hM := lenT hM hl
  show R32 sl sx d M0 P 13 [some (vR (some l0)), some (vR (some a1)), some (vI l2), some (vI l3), none] [vI r4] M3
  refine RN_k (callX_det _) 1 _ _ _ _ (show R32 sl sx d M0 P 15 [some (vR (some l0)), some (vR (some a1)), some (vI l2), some (vI l3), some (vI r4)] [] M3 from ?_)
  obtain ⟨n2, h⟩ := h
  exact RN_weak (K := [some (vR (some l0)), some (vR (some a1)), none, some (vI l3), some (vI r4)]) (callX_det _) (show _ ∧ _ ∧ _ ∧ _ ∧ True from ⟨rfl, rfl, rfl, rfl, trivial⟩) (t32_15  n2 l0 (some a1) l3 r4 _ hM h)
theorem c32 {sl : Nat} {sx : Nat → Int32} {d : Nat} {l0 : Nat} {l1 : Option Nat} {l2 : Int32} {l3 : Int32} {M : MM} {P : MM → Prop} (h : w32 l0 l1 l2 l3 M P) : callX TBg sl sx (d + 2) 32 [vR (some l0), vR l1, vI l2, vI l3] M (PV P) :=
  cX (d := d + 1) q32 (false, tb32) rfl rfl rfl (t32_E l0 l1 l2 l3 M lenR h)
-- TwoLeash$Track.copy(LTwoLeash$Track;)V
abbrev q31 : MQ7 := (2, 1, 2, 8, 0, 0, 0)
abbrev R31 (sl : Nat) (sx : Nat → Int32) (d : Nat) (M0 : MM) (P : MM → Prop) : Nat → LL → List VV → MM → Prop := RN 8 false (mS M0).length (mT M0) 0 0 sl sx (callX TBg sl sx (d + 2)) (rtW q31 M0 (PV P)) (as2 tb31)
def w31 (l0 : Nat) (l1 : Option Nat) (M : MM) (P : MM → Prop) : Prop := ∃ a1, l1 = some a1 ∧ (kd M a1 8 ∧ (kd M l0 8 ∧ w32 l0 (some a1) (0 : Int32) ((mI M a1 1) - (1 : Int32)) M (fun M2 => P M2)))
theorem t31_E {sl : Nat} {sx : Nat → Int32} {d : Nat} {M0 : MM} {P : MM → Prop} (l0 : Nat) (l1 : Option Nat) (M : MM) (hM : lenO M0 M) (h : w31  l0 l1 M P) : R31 sl sx d M0 P 0 [some (vR (some l0)), some (vR l1)] [] M := by
  obtain ⟨a1, he, h⟩ := h
  refine RN_k (callX_det _) 4 _ _ _ _ (show R31 sl sx d M0 P 4 [some (vR (some l0)), some (vR l1)] [vR l1, vI (0 : Int32), vR l1, vR (some l0)] M from ?_)
  subst he
  refine RN_k (callX_det _) 1 _ _ _ _ (show kd M a1 8 ∧ R31 sl sx d M0 P 7 [some (vR (some l0)), some (vR (some a1))] [vI (mI M a1 1), vI (0 : Int32), vR (some a1), vR (some l0)] M from ⟨h.1, ?_⟩)
  replace h := h.2
  refine RN_k (callX_det _) 3 _ _ _ _ (show kd M l0 8 ∧ callX TBg sl sx (d + 2) 32 [vR (some l0), vR (some a1), vI (0 : Int32), vI ((mI M a1 1) - (1 : Int32))] M (fun v M9 => R31 sl sx d M0 P 12 [some (vR (some l0)), some (vR (some a1))] (pushO v []) M9) from ⟨h.1, ?_⟩)
  replace h := h.2
  refine callX_mono (callX_len (d := (d + 2)) rfl rfl rfl (c32 (d := d) h)) ?_
  clear h
  rintro v9 M2 ⟨hl, rfl, h⟩
  replace hM := lenT hM hl
  show R31 sl sx d M0 P 12 [some (vR (some l0)), some (vR (some a1))] [] M2
  exact RN_k (callX_det _) 1 _ _ _ _ (show rtW q31 M0 (PV P) none M2 from ⟨rfl, hM.1, hM.2, rfl, h⟩)
theorem c31 {sl : Nat} {sx : Nat → Int32} {d : Nat} {l0 : Nat} {l1 : Option Nat} {M : MM} {P : MM → Prop} (h : w31 l0 l1 M P) : callX TBg sl sx (d + 3) 31 [vR (some l0), vR l1] M (PV P) :=
  cX (d := d + 2) q31 (false, tb31) rfl rfl rfl (t31_E l0 l1 M lenR h)
-- TwoLeash$Acts.forget()V
abbrev q34 : MQ7 := (1, 1, 1, 0, 0, 0, 0)
abbrev R34 (sl : Nat) (sx : Nat → Int32) (d : Nat) (M0 : MM) (P : MM → Prop) : Nat → LL → List VV → MM → Prop := RN 0 false (mS M0).length (mT M0) 0 0 sl sx (callX TBg sl sx (d + 0)) (rtW q34 M0 (PV P)) (as2 tb34)
def w34 (l0 : Nat) (M : MM) (P : MM → Prop) : Prop := kd M l0 0 ∧ (P (sI M l0 3 (0 : Int32)))
theorem t34_E {sl : Nat} {sx : Nat → Int32} {d : Nat} {M0 : MM} {P : MM → Prop} (l0 : Nat) (M : MM) (hM : lenO M0 M) (h : w34  l0 M P) : R34 sl sx d M0 P 0 [some (vR (some l0))] [] M := by
  refine RN_k (callX_det _) 3 _ _ _ _ (show kd M l0 0 ∧ R34 sl sx d M0 P 5 [some (vR (some l0))] [] (sI M l0 3 (0 : Int32)) from ⟨h.1, ?_⟩)
  replace h := h.2
  exact RN_k (callX_det _) 1 _ _ _ _ (show rtW q34 M0 (PV P) none (sI M l0 3 (0 : Int32)) from ⟨rfl, hM.1, hM.2, rfl, h⟩)
theorem c34 {sl : Nat} {sx : Nat → Int32} {d : Nat} {l0 : Nat} {M : MM} {P : MM → Prop} (h : w34 l0 M P) : callX TBg sl sx (d + 1) 34 [vR (some l0)] M (PV P) :=
  cX (d := d + 0) q34 (false, tb34) rfl rfl rfl (t34_E l0 M lenR h)
-- TwoLeash.answer(I)I
abbrev q35 : MQ7 := (2, 1, 2, 9, 0, 0, 1)
abbrev R35 (sl : Nat) (sx : Nat → Int32) (d : Nat) (M0 : MM) (P : Int32 → MM → Prop) : Nat → LL → List VV → MM → Prop := RN 9 false (mS M0).length (mT M0) 0 0 sl sx (callX TBg sl sx (d + 0)) (rtW q35 M0 (PI P)) (as2 tb35)
def w35 (l0 : Nat) (l1 : Int32) (M : MM) (P : Int32 → MM → Prop) : Prop := kd M l0 9 ∧ (P l1 (sI M l0 10 (0 : Int32)))
theorem t35_E {sl : Nat} {sx : Nat → Int32} {d : Nat} {M0 : MM} {P : Int32 → MM → Prop} (l0 : Nat) (l1 : Int32) (M : MM) (hM : lenO M0 M) (h : w35  l0 l1 M P) : R35 sl sx d M0 P 0 [some (vR (some l0)), some (vI l1)] [] M := by
  refine RN_k (callX_det _) 3 _ _ _ _ (show kd M l0 9 ∧ R35 sl sx d M0 P 5 [some (vR (some l0)), some (vI l1)] [] (sI M l0 10 (0 : Int32)) from ⟨h.1, ?_⟩)
  replace h := h.2
  exact RN_k (callX_det _) 2 _ _ _ _ (show rtW q35 M0 (PI P) (some (vI l1)) (sI M l0 10 (0 : Int32)) from ⟨⟨_, rfl⟩, hM.1, hM.2, _, rfl, h⟩)
theorem c35 {sl : Nat} {sx : Nat → Int32} {d : Nat} {l0 : Nat} {l1 : Int32} {M : MM} {P : Int32 → MM → Prop} (h : w35 l0 l1 M P) : callX TBg sl sx (d + 1) 35 [vR (some l0), vI l1] M (PI P) :=
  cX (d := d + 0) q35 (false, tb35) rfl rfl rfl (t35_E l0 l1 M lenR h)
-- TwoLeash.load(I)I
abbrev q16 : MQ7 := (2, 1, 3, 9, 0, 0, 1)
abbrev R16 (sl : Nat) (sx : Nat → Int32) (d : Nat) (M0 : MM) (P : Int32 → MM → Prop) : Nat → LL → List VV → MM → Prop := RN 9 false (mS M0).length (mT M0) 0 0 sl sx (callX TBg sl sx (d + 4)) (rtW q16 M0 (PI P)) (as2 tb16)
def w16_88 : Nat → Nat → Int32 → MM → (Int32 → MM → Prop) → Prop
  | 0 => fun _ _ _ _ => False
  | n + 1 => fun l0 l2 M P => kd M l0 9 ∧ (((mI M l0 6) ≤ l2 → (kd M l0 9 ∧ (∃ a1, mR M l0 7 = some a1 ∧ (kd M a1 0 ∧ w34 a1 M (fun M2 => kd M2 l0 9 ∧ (kd M2 l0 9 ∧ w35 l0 (mI M2 l0 6) M2 (fun r4 M3 => P r4 M3))))))) ∧ (¬ ((mI M l0 6) ≤ l2) → (kd M l0 9 ∧ (∃ a5, mR M l0 5 = some a5 ∧ (inb M a5 16 l2 ∧ (kd M l0 9 ∧ (∃ a6, mR M l0 2 = some a6 ∧ (kd M a6 6 ∧ (∃ a7, mR M a6 0 = some a7 ∧ (inb M a7 16 l2 ∧ (∃ a8, mR M a5 l2.toNatClampNeg = some a8 ∧ (kd M a8 8 ∧ w31 a8 (mR M a7 l2.toNatClampNeg) M (fun M9 => w16_88  n l0 (l2 + (1 : Int32)) M9 P)))))))))))))
theorem t16_88 {sl : Nat} {sx : Nat → Int32} {d : Nat} {M0 : MM} {P : Int32 → MM → Prop} (n : Nat) : ∀ (l0 : Nat) (l2 : Int32) (M : MM) (_ : lenO M0 M) (_ : w16_88  n l0 l2 M P), R16 sl sx d M0 P 88 [some (vR (some l0)), none, some (vI l2)] [] M := by
  induction n with
  | zero => intro l0 l2 M hM h; cases h
  | succ n ih =>
    intro l0 l2 M hM h
    refine RN_k (callX_det _) 3 _ _ _ _ (show kd M l0 9 ∧ R16 sl sx d M0 P 93 [some (vR (some l0)), none, some (vI l2)] [vI (mI M l0 6), vI l2] M from ⟨h.1, ?_⟩)
    replace h := h.2
    refine RN_k (callX_det _) 1 _ _ _ _ (show ((mI M l0 6) ≤ l2 → R16 sl sx d M0 P 120 [some (vR (some l0)), none, some (vI l2)] [] M) ∧ (¬ ((mI M l0 6) ≤ l2) → R16 sl sx d M0 P 96 [some (vR (some l0)), none, some (vI l2)] [] M) from ⟨fun hc => ?_, fun hc => ?_⟩)
    · replace h := h.1 hc
      refine RN_k (callX_det _) 2 _ _ _ _ (show kd M l0 9 ∧ R16 sl sx d M0 P 124 [some (vR (some l0)), none, some (vI l2)] [vR (mR M l0 7)] M from ⟨h.1, ?_⟩)
      replace h := h.2
      obtain ⟨a1, he, h⟩ := h
      rw [he]
      refine RN_k (callX_det _) 1 _ _ _ _ (show kd M a1 0 ∧ callX TBg sl sx (d + 4) 34 [vR (some a1)] M (fun v M9 => R16 sl sx d M0 P 127 [some (vR (some l0)), none, some (vI l2)] (pushO v []) M9) from ⟨h.1, ?_⟩)
      replace h := h.2
      refine callX_mono (callX_len (d := (d + 4)) rfl rfl rfl (c34 (d := d + 3) h)) ?_
      clear h
      rintro v9 M2 ⟨hl, rfl, h⟩
      replace hM := lenT hM hl
      show R16 sl sx d M0 P 127 [some (vR (some l0)), none, some (vI l2)] [] M2
      refine RN_k (callX_det _) 3 _ _ _ _ (show kd M2 l0 9 ∧ R16 sl sx d M0 P 132 [some (vR (some l0)), none, some (vI l2)] [vI (mI M2 l0 6), vR (some l0)] M2 from ⟨h.1, ?_⟩)
      replace h := h.2
      refine RN_k (callX_det _) 1 _ _ _ _ (show kd M2 l0 9 ∧ callX TBg sl sx (d + 4) 35 [vR (some l0), vI (mI M2 l0 6)] M2 (fun v M9 => R16 sl sx d M0 P 135 [some (vR (some l0)), none, some (vI l2)] (pushO v []) M9) from ⟨h.1, ?_⟩)
      replace h := h.2
      refine callX_mono (callX_len (d := (d + 4)) rfl rfl rfl (c35 (d := d + 3) h)) ?_
      clear h
      rintro v9 M3 ⟨hl, r4, rfl, h⟩
      replace hM := lenT hM hl
      show R16 sl sx d M0 P 135 [some (vR (some l0)), none, some (vI l2)] [vI r4] M3
      exact RN_k (callX_det _) 1 _ _ _ _ (show rtW q16 M0 (PI P) (some (vI r4)) M3 from ⟨⟨_, rfl⟩, hM.1, hM.2, _, rfl, h⟩)
    · replace h := h.2 hc
      refine RN_k (callX_det _) 2 _ _ _ _ (show kd M l0 9 ∧ R16 sl sx d M0 P 100 [some (vR (some l0)), none, some (vI l2)] [vR (mR M l0 5)] M from ⟨h.1, ?_⟩)
      replace h := h.2
      obtain ⟨a5, he, h⟩ := h
      refine RN_k (callX_det _) 1 _ _ _ _ (show R16 sl sx d M0 P 101 [some (vR (some l0)), none, some (vI l2)] [vI l2, vR (mR M l0 5)] M from ?_)
      rw [he]
      refine RN_k (callX_det _) 1 _ _ _ _ (show inb M a5 16 l2 ∧ R16 sl sx d M0 P 102 [some (vR (some l0)), none, some (vI l2)] [vR (mR M a5 l2.toNatClampNeg)] M from ⟨h.1, ?_⟩)
      replace h := h.2
      refine RN_k (callX_det _) 2 _ _ _ _ (show kd M l0 9 ∧ R16 sl sx d M0 P 106 [some (vR (some l0)), none, some (vI l2)] [vR (mR M l0 2), vR (mR M a5 l2.toNatClampNeg)] M from ⟨h.1, ?_⟩)
      replace h := h.2
      obtain ⟨a6, he, h⟩ := h
      rw [he]
      refine RN_k (callX_det _) 1 _ _ _ _ (show kd M a6 6 ∧ R16 sl sx d M0 P 109 [some (vR (some l0)), none, some (vI l2)] [vR (mR M a6 0), vR (mR M a5 l2.toNatClampNeg)] M from ⟨h.1, ?_⟩)
      replace h := h.2
      obtain ⟨a7, he, h⟩ := h
      refine RN_k (callX_det _) 1 _ _ _ _ (show R16 sl sx d M0 P 110 [some (vR (some l0)), none, some (vI l2)] [vI l2, vR (mR M a6 0), vR (mR M a5 l2.toNatClampNeg)] M from ?_)
      rw [he]
      refine RN_k (callX_det _) 1 _ _ _ _ (show inb M a7 16 l2 ∧ R16 sl sx d M0 P 111 [some (vR (some l0)), none, some (vI l2)] [vR (mR M a7 l2.toNatClampNeg), vR (mR M a5 l2.toNatClampNeg)] M from ⟨h.1, ?_⟩)
      replace h := h.2
      obtain ⟨a8, he, h⟩ := h
      rw [he]
      refine RN_k (callX_det _) 1 _ _ _ _ (show kd M a8 8 ∧ callX TBg sl sx (d + 4) 31 [vR (some a8), vR (mR M a7 l2.toNatClampNeg)] M (fun v M9 => R16 sl sx d M0 P 114 [some (vR (some l0)), none, some (vI l2)] (pushO v []) M9) from ⟨h.1, ?_⟩)
      replace h := h.2
      refine callX_mono (callX_len (d := (d + 4)) rfl rfl rfl (c31 (d := d + 1) h)) ?_
      clear h
      rintro v9 M9 ⟨hl, rfl, h⟩
      replace hM := lenT hM hl
      show R16 sl sx d M0 P 114 [some (vR (some l0)), none, some (vI l2)] [] M9
      refine RN_k (callX_det _) 2 _ _ _ _ (show R16 sl sx d M0 P 88 [some (vR (some l0)), none, some (vI (l2 + (1 : Int32)))] [] M9 from ?_)
      exact RN_weak (K := [some (vR (some l0)), none, some (vI (l2 + (1 : Int32)))]) (callX_det _) (show _ ∧ _ ∧ True from ⟨rfl, rfl, trivial⟩) (ih l0 (l2 + (1 : Int32)) _ hM h)
def w16_58 (l0 : Nat) (s0 : Option Nat) (s1 : Int32) (M : MM) (P : Int32 → MM → Prop) : Prop := ∃ a1, s0 = some a1 ∧ (kd M a1 9 ∧ (kd (sI M a1 4 s1) l0 9 ∧ (((mI (sI M a1 4 s1) l0 3) = 0 → (kd (sI M a1 4 s1) l0 9 ∧ (∃ a2, mR (sI M a1 4 s1) l0 2 = some a2 ∧ (kd (sI M a1 4 s1) a2 6 ∧ (kd (sI M a1 4 s1) l0 9 ∧ (∃ n2, w16_88  n2 l0 (0 : Int32) (sI (sI M a1 4 s1) l0 6 (mI (sI M a1 4 s1) a2 1)) P)))))) ∧ (¬ ((mI (sI M a1 4 s1) l0 3) = 0) → (kd (sI M a1 4 s1) l0 9 ∧ w17 l0 (9 : Int32) (sI M a1 4 s1) (fun r4 M3 => P r4 M3))))))
theorem t16_58 {sl : Nat} {sx : Nat → Int32} {d : Nat} {M0 : MM} {P : Int32 → MM → Prop} (l0 : Nat) (s0 : Option Nat) (s1 : Int32) (M : MM) (hM : lenO M0 M) (h : w16_58  l0 s0 s1 M P) : R16 sl sx d M0 P 58 [some (vR (some l0)), none, none] [vI s1, vR s0] M := by
  obtain ⟨a1, he, h⟩ := h
  subst he
  refine RN_k (callX_det _) 1 _ _ _ _ (show kd M a1 9 ∧ R16 sl sx d M0 P 61 [some (vR (some l0)), none, none] [] (sI M a1 4 s1) from ⟨h.1, ?_⟩)
  replace h := h.2
  refine RN_k (callX_det _) 2 _ _ _ _ (show kd (sI M a1 4 s1) l0 9 ∧ R16 sl sx d M0 P 65 [some (vR (some l0)), none, none] [vI (mI (sI M a1 4 s1) l0 3)] (sI M a1 4 s1) from ⟨h.1, ?_⟩)
  replace h := h.2
  refine RN_k (callX_det _) 1 _ _ _ _ (show ((mI (sI M a1 4 s1) l0 3) = 0 → R16 sl sx d M0 P 75 [some (vR (some l0)), none, none] [] (sI M a1 4 s1)) ∧ (¬ ((mI (sI M a1 4 s1) l0 3) = 0) → R16 sl sx d M0 P 68 [some (vR (some l0)), none, none] [] (sI M a1 4 s1)) from ⟨fun hc => ?_, fun hc => ?_⟩)
  · replace h := h.1 hc
    refine RN_k (callX_det _) 3 _ _ _ _ (show kd (sI M a1 4 s1) l0 9 ∧ R16 sl sx d M0 P 80 [some (vR (some l0)), none, none] [vR (mR (sI M a1 4 s1) l0 2), vR (some l0)] (sI M a1 4 s1) from ⟨h.1, ?_⟩)
    replace h := h.2
    obtain ⟨a2, he, h⟩ := h
    rw [he]
    refine RN_k (callX_det _) 1 _ _ _ _ (show kd (sI M a1 4 s1) a2 6 ∧ R16 sl sx d M0 P 83 [some (vR (some l0)), none, none] [vI (mI (sI M a1 4 s1) a2 1), vR (some l0)] (sI M a1 4 s1) from ⟨h.1, ?_⟩)
    replace h := h.2
    refine RN_k (callX_det _) 1 _ _ _ _ (show kd (sI M a1 4 s1) l0 9 ∧ R16 sl sx d M0 P 86 [some (vR (some l0)), none, none] [] (sI (sI M a1 4 s1) l0 6 (mI (sI M a1 4 s1) a2 1)) from ⟨h.1, ?_⟩)
    replace h := h.2
    refine RN_k (callX_det _) 2 _ _ _ _ (show R16 sl sx d M0 P 88 [some (vR (some l0)), none, some (vI (0 : Int32))] [] (sI (sI M a1 4 s1) l0 6 (mI (sI M a1 4 s1) a2 1)) from ?_)
    obtain ⟨n2, h⟩ := h
    exact RN_weak (K := [some (vR (some l0)), none, some (vI (0 : Int32))]) (callX_det _) (show _ ∧ _ ∧ True from ⟨rfl, rfl, trivial⟩) (t16_88  n2 l0 (0 : Int32) _ hM h)
  · replace h := h.2 hc
    refine RN_k (callX_det _) 3 _ _ _ _ (show kd (sI M a1 4 s1) l0 9 ∧ callX TBg sl sx (d + 4) 17 [vR (some l0), vI (9 : Int32)] (sI M a1 4 s1) (fun v M9 => R16 sl sx d M0 P 74 [some (vR (some l0)), none, none] (pushO v []) M9) from ⟨h.1, ?_⟩)
    replace h := h.2
    refine callX_mono (callX_len (d := (d + 4)) rfl rfl rfl (c17 (d := d + 3) h)) ?_
    clear h
    rintro v9 M3 ⟨hl, r4, rfl, h⟩
    replace hM := lenT hM hl
    show R16 sl sx d M0 P 74 [some (vR (some l0)), none, none] [vI r4] M3
    exact RN_k (callX_det _) 1 _ _ _ _ (show rtW q16 M0 (PI P) (some (vI r4)) M3 from ⟨⟨_, rfl⟩, hM.1, hM.2, _, rfl, h⟩)
def w16_12 (l0 : Nat) (M : MM) (P : Int32 → MM → Prop) : Prop := kd M l0 9 ∧ w17 l0 (1 : Int32) M (fun r2 M1 => P r2 M1)
theorem t16_12 {sl : Nat} {sx : Nat → Int32} {d : Nat} {M0 : MM} {P : Int32 → MM → Prop} (l0 : Nat) (M : MM) (hM : lenO M0 M) (h : w16_12  l0 M P) : R16 sl sx d M0 P 12 [some (vR (some l0)), none, none] [] M := by
  refine RN_k (callX_det _) 3 _ _ _ _ (show kd M l0 9 ∧ callX TBg sl sx (d + 4) 17 [vR (some l0), vI (1 : Int32)] M (fun v M9 => R16 sl sx d M0 P 17 [some (vR (some l0)), none, none] (pushO v []) M9) from ⟨h.1, ?_⟩)
  replace h := h.2
  refine callX_mono (callX_len (d := (d + 4)) rfl rfl rfl (c17 (d := d + 3) h)) ?_
  clear h
  rintro v9 M1 ⟨hl, r2, rfl, h⟩
  replace hM := lenT hM hl
  show R16 sl sx d M0 P 17 [some (vR (some l0)), none, none] [vI r2] M1
  exact RN_k (callX_det _) 1 _ _ _ _ (show rtW q16 M0 (PI P) (some (vI r2)) M1 from ⟨⟨_, rfl⟩, hM.1, hM.2, _, rfl, h⟩)
def w16 (l0 : Nat) (l1 : Int32) (M : MM) (P : Int32 → MM → Prop) : Prop := (l1 < 0 → (w16_12  l0 M P)) ∧ (¬ (l1 < 0) → (kd M l0 9 ∧ ((l1 ≤ (mI M l0 1) → (kd M l0 9 ∧ (kd (sI M l0 1 (0 : Int32)) l0 9 ∧ (kd (sI M l0 1 (0 : Int32)) l0 9 ∧ (∃ a1, mR (sI M l0 1 (0 : Int32)) l0 2 = some a1 ∧ (kd (sI M l0 1 (0 : Int32)) a1 6 ∧ w18 a1 (mR (sI M l0 1 (0 : Int32)) l0 0) l1 (sI M l0 1 (0 : Int32)) (fun r3 M2 => kd M2 l0 9 ∧ (kd (sI M2 l0 3 r3) l0 9 ∧ (((mI (sI M2 l0 3 r3) l0 3) ≠ 0 → (kd (sI M2 l0 3 r3) l0 9 ∧ (∃ a4, mR (sI M2 l0 3 r3) l0 2 = some a4 ∧ (kd (sI M2 l0 3 r3) a4 6 ∧ w30 a4 (sI M2 l0 3 r3) (fun r6 M5 => w16_58  l0 (some l0) r6 M5 P))))) ∧ (¬ ((mI (sI M2 l0 3 r3) l0 3) ≠ 0) → (w16_58  l0 (some l0) (-1 : Int32) (sI M2 l0 3 r3) P))))))))))) ∧ (¬ (l1 ≤ (mI M l0 1)) → (w16_12  l0 M P)))))
theorem t16_E {sl : Nat} {sx : Nat → Int32} {d : Nat} {M0 : MM} {P : Int32 → MM → Prop} (l0 : Nat) (l1 : Int32) (M : MM) (hM : lenO M0 M) (h : w16  l0 l1 M P) : R16 sl sx d M0 P 0 [some (vR (some l0)), some (vI l1), none] [] M := by
  refine RN_k (callX_det _) 2 _ _ _ _ (show (l1 < 0 → R16 sl sx d M0 P 12 [some (vR (some l0)), some (vI l1), none] [] M) ∧ (¬ (l1 < 0) → R16 sl sx d M0 P 4 [some (vR (some l0)), some (vI l1), none] [] M) from ⟨fun hc => ?_, fun hc => ?_⟩)
  · replace h := h.1 hc
    exact RN_weak (K := [some (vR (some l0)), none, none]) (callX_det _) (show _ ∧ True from ⟨rfl, trivial⟩) (t16_12  l0 _ hM h)
  · replace h := h.2 hc
    refine RN_k (callX_det _) 3 _ _ _ _ (show kd M l0 9 ∧ R16 sl sx d M0 P 9 [some (vR (some l0)), some (vI l1), none] [vI (mI M l0 1), vI l1] M from ⟨h.1, ?_⟩)
    replace h := h.2
    refine RN_k (callX_det _) 1 _ _ _ _ (show (l1 ≤ (mI M l0 1) → R16 sl sx d M0 P 18 [some (vR (some l0)), some (vI l1), none] [] M) ∧ (¬ (l1 ≤ (mI M l0 1)) → R16 sl sx d M0 P 12 [some (vR (some l0)), some (vI l1), none] [] M) from ⟨fun hc => ?_, fun hc => ?_⟩)
    · replace h := h.1 hc
      refine RN_k (callX_det _) 3 _ _ _ _ (show kd M l0 9 ∧ R16 sl sx d M0 P 23 [some (vR (some l0)), some (vI l1), none] [] (sI M l0 1 (0 : Int32)) from ⟨h.1, ?_⟩)
      replace h := h.2
      refine RN_k (callX_det _) 3 _ _ _ _ (show kd (sI M l0 1 (0 : Int32)) l0 9 ∧ R16 sl sx d M0 P 28 [some (vR (some l0)), some (vI l1), none] [vR (mR (sI M l0 1 (0 : Int32)) l0 2), vR (some l0)] (sI M l0 1 (0 : Int32)) from ⟨h.1, ?_⟩)
      replace h := h.2
      refine RN_k (callX_det _) 2 _ _ _ _ (show kd (sI M l0 1 (0 : Int32)) l0 9 ∧ R16 sl sx d M0 P 32 [some (vR (some l0)), some (vI l1), none] [vR (mR (sI M l0 1 (0 : Int32)) l0 0), vR (mR (sI M l0 1 (0 : Int32)) l0 2), vR (some l0)] (sI M l0 1 (0 : Int32)) from ⟨h.1, ?_⟩)
      replace h := h.2
      obtain ⟨a1, he, h⟩ := h
      refine RN_k (callX_det _) 1 _ _ _ _ (show R16 sl sx d M0 P 33 [some (vR (some l0)), some (vI l1), none] [vI l1, vR (mR (sI M l0 1 (0 : Int32)) l0 0), vR (mR (sI M l0 1 (0 : Int32)) l0 2), vR (some l0)] (sI M l0 1 (0 : Int32)) from ?_)
      rw [he]
      refine RN_k (callX_det _) 1 _ _ _ _ (show kd (sI M l0 1 (0 : Int32)) a1 6 ∧ callX TBg sl sx (d + 4) 18 [vR (some a1), vR (mR (sI M l0 1 (0 : Int32)) l0 0), vI l1] (sI M l0 1 (0 : Int32)) (fun v M9 => R16 sl sx d M0 P 36 [some (vR (some l0)), some (vI l1), none] (pushO v [vR (some l0)]) M9) from ⟨h.1, ?_⟩)
      replace h := h.2
      refine callX_mono (callX_len (d := (d + 4)) rfl rfl rfl (c18 (d := d) h)) ?_
      clear h
      rintro v9 M2 ⟨hl, r3, rfl, h⟩
      replace hM := lenT hM hl
      show R16 sl sx d M0 P 36 [some (vR (some l0)), some (vI l1), none] [vI r3, vR (some l0)] M2
      refine RN_k (callX_det _) 1 _ _ _ _ (show kd M2 l0 9 ∧ R16 sl sx d M0 P 39 [some (vR (some l0)), some (vI l1), none] [] (sI M2 l0 3 r3) from ⟨h.1, ?_⟩)
      replace h := h.2
      refine RN_k (callX_det _) 3 _ _ _ _ (show kd (sI M2 l0 3 r3) l0 9 ∧ R16 sl sx d M0 P 44 [some (vR (some l0)), some (vI l1), none] [vI (mI (sI M2 l0 3 r3) l0 3), vR (some l0)] (sI M2 l0 3 r3) from ⟨h.1, ?_⟩)
      replace h := h.2
      refine RN_k (callX_det _) 1 _ _ _ _ (show ((mI (sI M2 l0 3 r3) l0 3) ≠ 0 → R16 sl sx d M0 P 51 [some (vR (some l0)), some (vI l1), none] [vR (some l0)] (sI M2 l0 3 r3)) ∧ (¬ ((mI (sI M2 l0 3 r3) l0 3) ≠ 0) → R16 sl sx d M0 P 47 [some (vR (some l0)), some (vI l1), none] [vR (some l0)] (sI M2 l0 3 r3)) from ⟨fun hc => ?_, fun hc => ?_⟩)
      · replace h := h.1 hc
        refine RN_k (callX_det _) 2 _ _ _ _ (show kd (sI M2 l0 3 r3) l0 9 ∧ R16 sl sx d M0 P 55 [some (vR (some l0)), some (vI l1), none] [vR (mR (sI M2 l0 3 r3) l0 2), vR (some l0)] (sI M2 l0 3 r3) from ⟨h.1, ?_⟩)
        replace h := h.2
        obtain ⟨a4, he, h⟩ := h
        rw [he]
        refine RN_k (callX_det _) 1 _ _ _ _ (show kd (sI M2 l0 3 r3) a4 6 ∧ callX TBg sl sx (d + 4) 30 [vR (some a4)] (sI M2 l0 3 r3) (fun v M9 => R16 sl sx d M0 P 58 [some (vR (some l0)), some (vI l1), none] (pushO v [vR (some l0)]) M9) from ⟨h.1, ?_⟩)
        replace h := h.2
        refine callX_mono (callX_len (d := (d + 4)) rfl rfl rfl (c30 (d := d + 3) h)) ?_
        clear h
        rintro v9 M5 ⟨hl, r6, rfl, h⟩
        replace hM := lenT hM hl
        show R16 sl sx d M0 P 58 [some (vR (some l0)), some (vI l1), none] [vI r6, vR (some l0)] M5
        exact RN_weak (K := [some (vR (some l0)), none, none]) (callX_det _) (show _ ∧ True from ⟨rfl, trivial⟩) (t16_58  l0 (some l0) r6 _ hM h)
      · replace h := h.2 hc
        refine RN_k (callX_det _) 2 _ _ _ _ (show R16 sl sx d M0 P 58 [some (vR (some l0)), some (vI l1), none] [vI (-1 : Int32), vR (some l0)] (sI M2 l0 3 r3) from ?_)
        exact RN_weak (K := [some (vR (some l0)), none, none]) (callX_det _) (show _ ∧ True from ⟨rfl, trivial⟩) (t16_58  l0 (some l0) (-1 : Int32) _ hM h)
    · replace h := h.2 hc
      exact RN_weak (K := [some (vR (some l0)), none, none]) (callX_det _) (show _ ∧ True from ⟨rfl, trivial⟩) (t16_12  l0 _ hM h)
theorem c16 {sl : Nat} {sx : Nat → Int32} {d : Nat} {l0 : Nat} {l1 : Int32} {M : MM} {P : Int32 → MM → Prop} (h : w16 l0 l1 M P) : callX TBg sl sx (d + 5) 16 [vR (some l0), vI l1] M (PI P) :=
  cX (d := d + 4) q16 (false, tb16) rfl rfl rfl (t16_E l0 l1 M lenR h)
-- TwoLeash.fault(I)I
abbrev q36 : MQ7 := (2, 1, 2, 9, 0, 0, 1)
abbrev R36 (sl : Nat) (sx : Nat → Int32) (d : Nat) (M0 : MM) (P : Int32 → MM → Prop) : Nat → LL → List VV → MM → Prop := RN 9 false (mS M0).length (mT M0) 0 0 sl sx (callX TBg sl sx (d + 0)) (rtW q36 M0 (PI P)) (as2 tb36)
def w36_22 (s0 : Int32) (M : MM) (P : Int32 → MM → Prop) : Prop := P s0 M
theorem t36_22 {sl : Nat} {sx : Nat → Int32} {d : Nat} {M0 : MM} {P : Int32 → MM → Prop} (s0 : Int32) (M : MM) (hM : lenO M0 M) (h : w36_22  s0 M P) : R36 sl sx d M0 P 22 [none, none] [vI s0] M := by
  exact RN_k (callX_det _) 1 _ _ _ _ (show rtW q36 M0 (PI P) (some (vI s0)) M from ⟨⟨_, rfl⟩, hM.1, hM.2, _, rfl, h⟩)
def w36 (l0 : Nat) (l1 : Int32) (M : MM) (P : Int32 → MM → Prop) : Prop := (l1 ≠ 0 → ((l1 ≠ (1 : Int32) → (w36_22  (-1 : Int32) M P)) ∧ (¬ (l1 ≠ (1 : Int32)) → (kd M l0 9 ∧ (w36_22  (mI M l0 4) M P))))) ∧ (¬ (l1 ≠ 0) → (kd M l0 9 ∧ (P (mI M l0 3) M)))
theorem t36_E {sl : Nat} {sx : Nat → Int32} {d : Nat} {M0 : MM} {P : Int32 → MM → Prop} (l0 : Nat) (l1 : Int32) (M : MM) (hM : lenO M0 M) (h : w36  l0 l1 M P) : R36 sl sx d M0 P 0 [some (vR (some l0)), some (vI l1)] [] M := by
  refine RN_k (callX_det _) 2 _ _ _ _ (show (l1 ≠ 0 → R36 sl sx d M0 P 9 [some (vR (some l0)), some (vI l1)] [] M) ∧ (¬ (l1 ≠ 0) → R36 sl sx d M0 P 4 [some (vR (some l0)), some (vI l1)] [] M) from ⟨fun hc => ?_, fun hc => ?_⟩)
  · replace h := h.1 hc
    refine RN_k (callX_det _) 3 _ _ _ _ (show (l1 ≠ (1 : Int32) → R36 sl sx d M0 P 21 [some (vR (some l0)), some (vI l1)] [] M) ∧ (¬ (l1 ≠ (1 : Int32)) → R36 sl sx d M0 P 14 [some (vR (some l0)), some (vI l1)] [] M) from ⟨fun hc => ?_, fun hc => ?_⟩)
    · replace h := h.1 hc
      refine RN_k (callX_det _) 1 _ _ _ _ (show R36 sl sx d M0 P 22 [some (vR (some l0)), some (vI l1)] [vI (-1 : Int32)] M from ?_)
      exact RN_weak (K := [none, none]) (callX_det _) (show True from trivial) (t36_22  (-1 : Int32) _ hM h)
    · replace h := h.2 hc
      refine RN_k (callX_det _) 2 _ _ _ _ (show kd M l0 9 ∧ R36 sl sx d M0 P 18 [some (vR (some l0)), some (vI l1)] [vI (mI M l0 4)] M from ⟨h.1, ?_⟩)
      replace h := h.2
      refine RN_k (callX_det _) 1 _ _ _ _ (show R36 sl sx d M0 P 22 [some (vR (some l0)), some (vI l1)] [vI (mI M l0 4)] M from ?_)
      exact RN_weak (K := [none, none]) (callX_det _) (show True from trivial) (t36_22  (mI M l0 4) _ hM h)
  · replace h := h.2 hc
    refine RN_k (callX_det _) 2 _ _ _ _ (show kd M l0 9 ∧ R36 sl sx d M0 P 8 [some (vR (some l0)), some (vI l1)] [vI (mI M l0 3)] M from ⟨h.1, ?_⟩)
    replace h := h.2
    exact RN_k (callX_det _) 1 _ _ _ _ (show rtW q36 M0 (PI P) (some (vI (mI M l0 3))) M from ⟨⟨_, rfl⟩, hM.1, hM.2, _, rfl, h⟩)
theorem c36 {sl : Nat} {sx : Nat → Int32} {d : Nat} {l0 : Nat} {l1 : Int32} {M : MM} {P : Int32 → MM → Prop} (h : w36 l0 l1 M P) : callX TBg sl sx (d + 1) 36 [vR (some l0), vI l1] M (PI P) :=
  cX (d := d + 0) q36 (false, tb36) rfl rfl rfl (t36_E l0 l1 M lenR h)
-- TwoLeash.pointsOfAll()I
abbrev q38 : MQ7 := (1, 1, 3, 9, 0, 0, 1)
abbrev R38 (sl : Nat) (sx : Nat → Int32) (d : Nat) (M0 : MM) (P : Int32 → MM → Prop) : Nat → LL → List VV → MM → Prop := RN 9 false (mS M0).length (mT M0) 0 0 sl sx (callX TBg sl sx (d + 0)) (rtW q38 M0 (PI P)) (as2 tb38)
def w38_4 : Nat → Nat → Int32 → Int32 → MM → (Int32 → MM → Prop) → Prop
  | 0 => fun _ _ _ _ _ => False
  | n + 1 => fun l0 l1 l2 M P => kd M l0 9 ∧ (((mI M l0 6) ≤ l2 → (P l1 M)) ∧ (¬ ((mI M l0 6) ≤ l2) → (kd M l0 9 ∧ (∃ a1, mR M l0 5 = some a1 ∧ (inb M a1 16 l2 ∧ (∃ a2, mR M a1 l2.toNatClampNeg = some a2 ∧ (kd M a2 8 ∧ (w38_4  n l0 (l1 + (mI M a2 1)) (l2 + (1 : Int32)) M P))))))))
theorem t38_4 {sl : Nat} {sx : Nat → Int32} {d : Nat} {M0 : MM} {P : Int32 → MM → Prop} (n : Nat) : ∀ (l0 : Nat) (l1 : Int32) (l2 : Int32) (M : MM) (_ : lenO M0 M) (_ : w38_4  n l0 l1 l2 M P), R38 sl sx d M0 P 4 [some (vR (some l0)), some (vI l1), some (vI l2)] [] M := by
  induction n with
  | zero => intro l0 l1 l2 M hM h; cases h
  | succ n ih =>
    intro l0 l1 l2 M hM h
    refine RN_k (callX_det _) 3 _ _ _ _ (show kd M l0 9 ∧ R38 sl sx d M0 P 9 [some (vR (some l0)), some (vI l1), some (vI l2)] [vI (mI M l0 6), vI l2] M from ⟨h.1, ?_⟩)
    replace h := h.2
    refine RN_k (callX_det _) 1 _ _ _ _ (show ((mI M l0 6) ≤ l2 → R38 sl sx d M0 P 30 [some (vR (some l0)), some (vI l1), some (vI l2)] [] M) ∧ (¬ ((mI M l0 6) ≤ l2) → R38 sl sx d M0 P 12 [some (vR (some l0)), some (vI l1), some (vI l2)] [] M) from ⟨fun hc => ?_, fun hc => ?_⟩)
    · replace h := h.1 hc
      exact RN_k (callX_det _) 2 _ _ _ _ (show rtW q38 M0 (PI P) (some (vI l1)) M from ⟨⟨_, rfl⟩, hM.1, hM.2, _, rfl, h⟩)
    · replace h := h.2 hc
      refine RN_k (callX_det _) 3 _ _ _ _ (show kd M l0 9 ∧ R38 sl sx d M0 P 17 [some (vR (some l0)), some (vI l1), some (vI l2)] [vR (mR M l0 5), vI l1] M from ⟨h.1, ?_⟩)
      replace h := h.2
      obtain ⟨a1, he, h⟩ := h
      refine RN_k (callX_det _) 1 _ _ _ _ (show R38 sl sx d M0 P 18 [some (vR (some l0)), some (vI l1), some (vI l2)] [vI l2, vR (mR M l0 5), vI l1] M from ?_)
      rw [he]
      refine RN_k (callX_det _) 1 _ _ _ _ (show inb M a1 16 l2 ∧ R38 sl sx d M0 P 19 [some (vR (some l0)), some (vI l1), some (vI l2)] [vR (mR M a1 l2.toNatClampNeg), vI l1] M from ⟨h.1, ?_⟩)
      replace h := h.2
      obtain ⟨a2, he, h⟩ := h
      rw [he]
      refine RN_k (callX_det _) 1 _ _ _ _ (show kd M a2 8 ∧ R38 sl sx d M0 P 22 [some (vR (some l0)), some (vI l1), some (vI l2)] [vI (mI M a2 1), vI l1] M from ⟨h.1, ?_⟩)
      replace h := h.2
      refine RN_k (callX_det _) 4 _ _ _ _ (show R38 sl sx d M0 P 4 [some (vR (some l0)), some (vI (l1 + (mI M a2 1))), some (vI (l2 + (1 : Int32)))] [] M from ?_)
      exact RN_weak (K := [some (vR (some l0)), some (vI (l1 + (mI M a2 1))), some (vI (l2 + (1 : Int32)))]) (callX_det _) (show _ ∧ _ ∧ _ ∧ True from ⟨rfl, rfl, rfl, trivial⟩) (ih l0 (l1 + (mI M a2 1)) (l2 + (1 : Int32)) _ hM h)
def w38 (l0 : Nat) (M : MM) (P : Int32 → MM → Prop) : Prop := ∃ n2, w38_4  n2 l0 (0 : Int32) (0 : Int32) M P
theorem t38_E {sl : Nat} {sx : Nat → Int32} {d : Nat} {M0 : MM} {P : Int32 → MM → Prop} (l0 : Nat) (M : MM) (hM : lenO M0 M) (h : w38  l0 M P) : R38 sl sx d M0 P 0 [some (vR (some l0)), none, none] [] M := by
  refine RN_k (callX_det _) 4 _ _ _ _ (show R38 sl sx d M0 P 4 [some (vR (some l0)), some (vI (0 : Int32)), some (vI (0 : Int32))] [] M from ?_)
  obtain ⟨n2, h⟩ := h
  exact RN_weak (K := [some (vR (some l0)), some (vI (0 : Int32)), some (vI (0 : Int32))]) (callX_det _) (show _ ∧ _ ∧ _ ∧ True from ⟨rfl, rfl, rfl, trivial⟩) (t38_4  n2 l0 (0 : Int32) (0 : Int32) _ hM h)
theorem c38 {sl : Nat} {sx : Nat → Int32} {d : Nat} {l0 : Nat} {M : MM} {P : Int32 → MM → Prop} (h : w38 l0 M P) : callX TBg sl sx (d + 1) 38 [vR (some l0)] M (PI P) :=
  cX (d := d + 0) q38 (false, tb38) rfl rfl rfl (t38_E l0 M lenR h)
-- TwoLeash.many(I)I
abbrev q37 : MQ7 := (2, 1, 2, 9, 0, 0, 1)
abbrev R37 (sl : Nat) (sx : Nat → Int32) (d : Nat) (M0 : MM) (P : Int32 → MM → Prop) : Nat → LL → List VV → MM → Prop := RN 9 false (mS M0).length (mT M0) 0 0 sl sx (callX TBg sl sx (d + 1)) (rtW q37 M0 (PI P)) (as2 tb37)
def w37_48 (s0 : Option Nat) (s1 : Int32) (M : MM) (P : Int32 → MM → Prop) : Prop := ∃ a1, s0 = some a1 ∧ (kd M a1 9 ∧ w35 a1 s1 M (fun r3 M2 => P r3 M2))
theorem t37_48 {sl : Nat} {sx : Nat → Int32} {d : Nat} {M0 : MM} {P : Int32 → MM → Prop} (s0 : Option Nat) (s1 : Int32) (M : MM) (hM : lenO M0 M) (h : w37_48  s0 s1 M P) : R37 sl sx d M0 P 48 [none, none] [vI s1, vR s0] M := by
  obtain ⟨a1, he, h⟩ := h
  subst he
  refine RN_k (callX_det _) 1 _ _ _ _ (show kd M a1 9 ∧ callX TBg sl sx (d + 1) 35 [vR (some a1), vI s1] M (fun v M9 => R37 sl sx d M0 P 51 [none, none] (pushO v []) M9) from ⟨h.1, ?_⟩)
  replace h := h.2
  refine callX_mono (callX_len (d := (d + 1)) rfl rfl rfl (c35 (d := d) h)) ?_
  clear h
  rintro v9 M2 ⟨hl, r3, rfl, h⟩
  replace hM := lenT hM hl
  show R37 sl sx d M0 P 51 [none, none] [vI r3] M2
  exact RN_k (callX_det _) 1 _ _ _ _ (show rtW q37 M0 (PI P) (some (vI r3)) M2 from ⟨⟨_, rfl⟩, hM.1, hM.2, _, rfl, h⟩)
def w37_9 (l0 : Nat) (M : MM) (P : Int32 → MM → Prop) : Prop := kd M l0 9 ∧ w17 l0 (1 : Int32) M (fun r2 M1 => P r2 M1)
theorem t37_9 {sl : Nat} {sx : Nat → Int32} {d : Nat} {M0 : MM} {P : Int32 → MM → Prop} (l0 : Nat) (M : MM) (hM : lenO M0 M) (h : w37_9  l0 M P) : R37 sl sx d M0 P 9 [some (vR (some l0)), none] [] M := by
  refine RN_k (callX_det _) 3 _ _ _ _ (show kd M l0 9 ∧ callX TBg sl sx (d + 1) 17 [vR (some l0), vI (1 : Int32)] M (fun v M9 => R37 sl sx d M0 P 14 [some (vR (some l0)), none] (pushO v []) M9) from ⟨h.1, ?_⟩)
  replace h := h.2
  refine callX_mono (callX_len (d := (d + 1)) rfl rfl rfl (c17 (d := d) h)) ?_
  clear h
  rintro v9 M1 ⟨hl, r2, rfl, h⟩
  replace hM := lenT hM hl
  show R37 sl sx d M0 P 14 [some (vR (some l0)), none] [vI r2] M1
  exact RN_k (callX_det _) 1 _ _ _ _ (show rtW q37 M0 (PI P) (some (vI r2)) M1 from ⟨⟨_, rfl⟩, hM.1, hM.2, _, rfl, h⟩)
def w37 (l0 : Nat) (l1 : Int32) (M : MM) (P : Int32 → MM → Prop) : Prop := (l1 < 0 → (w37_9  l0 M P)) ∧ (¬ (l1 < 0) → ((l1 ≤ (2 : Int32) → ((l1 ≠ 0 → ((l1 ≠ (1 : Int32) → (kd M l0 9 ∧ (∃ a1, mR M l0 7 = some a1 ∧ (kd M a1 0 ∧ (w37_48  (some l0) (mI M a1 3) M P))))) ∧ (¬ (l1 ≠ (1 : Int32)) → (kd M l0 9 ∧ w38 l0 M (fun r3 M2 => w37_48  (some l0) r3 M2 P))))) ∧ (¬ (l1 ≠ 0) → (kd M l0 9 ∧ (kd M l0 9 ∧ w35 l0 (mI M l0 6) M (fun r5 M4 => P r5 M4)))))) ∧ (¬ (l1 ≤ (2 : Int32)) → (w37_9  l0 M P))))
theorem t37_E {sl : Nat} {sx : Nat → Int32} {d : Nat} {M0 : MM} {P : Int32 → MM → Prop} (l0 : Nat) (l1 : Int32) (M : MM) (hM : lenO M0 M) (h : w37  l0 l1 M P) : R37 sl sx d M0 P 0 [some (vR (some l0)), some (vI l1)] [] M := by
  refine RN_k (callX_det _) 2 _ _ _ _ (show (l1 < 0 → R37 sl sx d M0 P 9 [some (vR (some l0)), some (vI l1)] [] M) ∧ (¬ (l1 < 0) → R37 sl sx d M0 P 4 [some (vR (some l0)), some (vI l1)] [] M) from ⟨fun hc => ?_, fun hc => ?_⟩)
  · replace h := h.1 hc
    exact RN_weak (K := [some (vR (some l0)), none]) (callX_det _) (show _ ∧ True from ⟨rfl, trivial⟩) (t37_9  l0 _ hM h)
  · replace h := h.2 hc
    refine RN_k (callX_det _) 3 _ _ _ _ (show (l1 ≤ (2 : Int32) → R37 sl sx d M0 P 15 [some (vR (some l0)), some (vI l1)] [] M) ∧ (¬ (l1 ≤ (2 : Int32)) → R37 sl sx d M0 P 9 [some (vR (some l0)), some (vI l1)] [] M) from ⟨fun hc => ?_, fun hc => ?_⟩)
    · replace h := h.1 hc
      refine RN_k (callX_det _) 2 _ _ _ _ (show (l1 ≠ 0 → R37 sl sx d M0 P 28 [some (vR (some l0)), some (vI l1)] [] M) ∧ (¬ (l1 ≠ 0) → R37 sl sx d M0 P 19 [some (vR (some l0)), some (vI l1)] [] M) from ⟨fun hc => ?_, fun hc => ?_⟩)
      · replace h := h.1 hc
        refine RN_k (callX_det _) 4 _ _ _ _ (show (l1 ≠ (1 : Int32) → R37 sl sx d M0 P 41 [some (vR (some l0)), some (vI l1)] [vR (some l0)] M) ∧ (¬ (l1 ≠ (1 : Int32)) → R37 sl sx d M0 P 34 [some (vR (some l0)), some (vI l1)] [vR (some l0)] M) from ⟨fun hc => ?_, fun hc => ?_⟩)
        · replace h := h.1 hc
          refine RN_k (callX_det _) 2 _ _ _ _ (show kd M l0 9 ∧ R37 sl sx d M0 P 45 [some (vR (some l0)), some (vI l1)] [vR (mR M l0 7), vR (some l0)] M from ⟨h.1, ?_⟩)
          replace h := h.2
          obtain ⟨a1, he, h⟩ := h
          rw [he]
          refine RN_k (callX_det _) 1 _ _ _ _ (show kd M a1 0 ∧ R37 sl sx d M0 P 48 [some (vR (some l0)), some (vI l1)] [vI (mI M a1 3), vR (some l0)] M from ⟨h.1, ?_⟩)
          replace h := h.2
          exact RN_weak (K := [none, none]) (callX_det _) (show True from trivial) (t37_48  (some l0) (mI M a1 3) _ hM h)
        · replace h := h.2 hc
          refine RN_k (callX_det _) 2 _ _ _ _ (show kd M l0 9 ∧ callX TBg sl sx (d + 1) 38 [vR (some l0)] M (fun v M9 => R37 sl sx d M0 P 38 [some (vR (some l0)), some (vI l1)] (pushO v [vR (some l0)]) M9) from ⟨h.1, ?_⟩)
          replace h := h.2
          refine callX_mono (callX_len (d := (d + 1)) rfl rfl rfl (c38 (d := d) h)) ?_
          clear h
          rintro v9 M2 ⟨hl, r3, rfl, h⟩
          replace hM := lenT hM hl
          show R37 sl sx d M0 P 38 [some (vR (some l0)), some (vI l1)] [vI r3, vR (some l0)] M2
          refine RN_k (callX_det _) 1 _ _ _ _ (show R37 sl sx d M0 P 48 [some (vR (some l0)), some (vI l1)] [vI r3, vR (some l0)] M2 from ?_)
          exact RN_weak (K := [none, none]) (callX_det _) (show True from trivial) (t37_48  (some l0) r3 _ hM h)
      · replace h := h.2 hc
        refine RN_k (callX_det _) 3 _ _ _ _ (show kd M l0 9 ∧ R37 sl sx d M0 P 24 [some (vR (some l0)), some (vI l1)] [vI (mI M l0 6), vR (some l0)] M from ⟨h.1, ?_⟩)
        replace h := h.2
        refine RN_k (callX_det _) 1 _ _ _ _ (show kd M l0 9 ∧ callX TBg sl sx (d + 1) 35 [vR (some l0), vI (mI M l0 6)] M (fun v M9 => R37 sl sx d M0 P 27 [some (vR (some l0)), some (vI l1)] (pushO v []) M9) from ⟨h.1, ?_⟩)
        replace h := h.2
        refine callX_mono (callX_len (d := (d + 1)) rfl rfl rfl (c35 (d := d) h)) ?_
        clear h
        rintro v9 M4 ⟨hl, r5, rfl, h⟩
        replace hM := lenT hM hl
        show R37 sl sx d M0 P 27 [some (vR (some l0)), some (vI l1)] [vI r5] M4
        exact RN_k (callX_det _) 1 _ _ _ _ (show rtW q37 M0 (PI P) (some (vI r5)) M4 from ⟨⟨_, rfl⟩, hM.1, hM.2, _, rfl, h⟩)
    · replace h := h.2 hc
      exact RN_weak (K := [some (vR (some l0)), none]) (callX_det _) (show _ ∧ True from ⟨rfl, trivial⟩) (t37_9  l0 _ hM h)
theorem c37 {sl : Nat} {sx : Nat → Int32} {d : Nat} {l0 : Nat} {l1 : Int32} {M : MM} {P : Int32 → MM → Prop} (h : w37 l0 l1 M P) : callX TBg sl sx (d + 2) 37 [vR (some l0), vI l1] M (PI P) :=
  cX (d := d + 1) q37 (false, tb37) rfl rfl rfl (t37_E l0 l1 M lenR h)
-- TwoLeash.isWay(I)Z
abbrev q40 : MQ7 := (2, 1, 2, 9, 0, 0, 4)
abbrev R40 (sl : Nat) (sx : Nat → Int32) (d : Nat) (M0 : MM) (P : Int32 → MM → Prop) : Nat → LL → List VV → MM → Prop := RN 9 false (mS M0).length (mT M0) 0 0 sl sx (callX TBg sl sx (d + 0)) (rtW q40 M0 (PI P)) (as2 tb40)
def w40_17 (s0 : Int32) (M : MM) (P : Int32 → MM → Prop) : Prop := (s0 = 0 ∨ s0 = 1) ∧ P s0 M
theorem t40_17 {sl : Nat} {sx : Nat → Int32} {d : Nat} {M0 : MM} {P : Int32 → MM → Prop} (s0 : Int32) (M : MM) (hM : lenO M0 M) (h : w40_17  s0 M P) : R40 sl sx d M0 P 17 [none, none] [vI s0] M := by
  exact RN_k (callX_det _) 1 _ _ _ _ (show rtW q40 M0 (PI P) (some (vI s0)) M from ⟨⟨_, rfl, h.1⟩, hM.1, hM.2, _, rfl, h.2⟩)
def w40_16 (M : MM) (P : Int32 → MM → Prop) : Prop := w40_17  (0 : Int32) M P
theorem t40_16 {sl : Nat} {sx : Nat → Int32} {d : Nat} {M0 : MM} {P : Int32 → MM → Prop}  (M : MM) (hM : lenO M0 M) (h : w40_16   M P) : R40 sl sx d M0 P 16 [none, none] [] M := by
  refine RN_k (callX_det _) 1 _ _ _ _ (show R40 sl sx d M0 P 17 [none, none] [vI (0 : Int32)] M from ?_)
  exact RN_weak (K := [none, none]) (callX_det _) (show True from trivial) (t40_17  (0 : Int32) _ hM h)
def w40 (l0 : Nat) (l1 : Int32) (M : MM) (P : Int32 → MM → Prop) : Prop := (l1 < 0 → (w40_16  M P)) ∧ (¬ (l1 < 0) → (kd M l0 9 ∧ (((mI M l0 6) ≤ l1 → (w40_16  M P)) ∧ (¬ ((mI M l0 6) ≤ l1) → (w40_17  (1 : Int32) M P)))))
theorem t40_E {sl : Nat} {sx : Nat → Int32} {d : Nat} {M0 : MM} {P : Int32 → MM → Prop} (l0 : Nat) (l1 : Int32) (M : MM) (hM : lenO M0 M) (h : w40  l0 l1 M P) : R40 sl sx d M0 P 0 [some (vR (some l0)), some (vI l1)] [] M := by
  refine RN_k (callX_det _) 2 _ _ _ _ (show (l1 < 0 → R40 sl sx d M0 P 16 [some (vR (some l0)), some (vI l1)] [] M) ∧ (¬ (l1 < 0) → R40 sl sx d M0 P 4 [some (vR (some l0)), some (vI l1)] [] M) from ⟨fun hc => ?_, fun hc => ?_⟩)
  · replace h := h.1 hc
    exact RN_weak (K := [none, none]) (callX_det _) (show True from trivial) (t40_16   _ hM h)
  · replace h := h.2 hc
    refine RN_k (callX_det _) 3 _ _ _ _ (show kd M l0 9 ∧ R40 sl sx d M0 P 9 [some (vR (some l0)), some (vI l1)] [vI (mI M l0 6), vI l1] M from ⟨h.1, ?_⟩)
    replace h := h.2
    refine RN_k (callX_det _) 1 _ _ _ _ (show ((mI M l0 6) ≤ l1 → R40 sl sx d M0 P 16 [some (vR (some l0)), some (vI l1)] [] M) ∧ (¬ ((mI M l0 6) ≤ l1) → R40 sl sx d M0 P 12 [some (vR (some l0)), some (vI l1)] [] M) from ⟨fun hc => ?_, fun hc => ?_⟩)
    · replace h := h.1 hc
      exact RN_weak (K := [none, none]) (callX_det _) (show True from trivial) (t40_16   _ hM h)
    · replace h := h.2 hc
      refine RN_k (callX_det _) 2 _ _ _ _ (show R40 sl sx d M0 P 17 [some (vR (some l0)), some (vI l1)] [vI (1 : Int32)] M from ?_)
      exact RN_weak (K := [none, none]) (callX_det _) (show True from trivial) (t40_17  (1 : Int32) _ hM h)
theorem c40 {sl : Nat} {sx : Nat → Int32} {d : Nat} {l0 : Nat} {l1 : Int32} {M : MM} {P : Int32 → MM → Prop} (h : w40 l0 l1 M P) : callX TBg sl sx (d + 1) 40 [vR (some l0), vI l1] M (PI P) :=
  cX (d := d + 0) q40 (false, tb40) rfl rfl rfl (t40_E l0 l1 M lenR h)
-- TwoLeash$Track.squareTo(ILTwoLeash$Track;I)I
abbrev q42 : MQ7 := (4, 1, 6, 8, 0, 0, 1)
abbrev R42 (sl : Nat) (sx : Nat → Int32) (d : Nat) (M0 : MM) (P : Int32 → MM → Prop) : Nat → LL → List VV → MM → Prop := RN 8 false (mS M0).length (mT M0) 0 0 sl sx (callX TBg sl sx (d + 0)) (rtW q42 M0 (PI P)) (as2 tb42)
def w42 (l0 : Nat) (l1 : Int32) (l2 : Option Nat) (l3 : Int32) (M : MM) (P : Int32 → MM → Prop) : Prop := ∃ a1, l2 = some a1 ∧ (kd M a1 8 ∧ (∃ a2, mR M a1 2 = some a2 ∧ (inb M a2 11 l3 ∧ (kd M l0 8 ∧ (∃ a3, mR M l0 2 = some a3 ∧ (inb M a3 11 l1 ∧ (kd M a1 8 ∧ (∃ a4, mR M a1 3 = some a4 ∧ (inb M a4 11 l3 ∧ (kd M l0 8 ∧ (∃ a5, mR M l0 3 = some a5 ∧ (inb M a5 11 l1 ∧ (P ((((mI M a2 l3.toNatClampNeg) - (mI M a3 l1.toNatClampNeg)) * ((mI M a2 l3.toNatClampNeg) - (mI M a3 l1.toNatClampNeg))) + (((mI M a4 l3.toNatClampNeg) - (mI M a5 l1.toNatClampNeg)) * ((mI M a4 l3.toNatClampNeg) - (mI M a5 l1.toNatClampNeg)))) M)))))))))))))
theorem t42_E {sl : Nat} {sx : Nat → Int32} {d : Nat} {M0 : MM} {P : Int32 → MM → Prop} (l0 : Nat) (l1 : Int32) (l2 : Option Nat) (l3 : Int32) (M : MM) (hM : lenO M0 M) (h : w42  l0 l1 l2 l3 M P) : R42 sl sx d M0 P 0 [some (vR (some l0)), some (vI l1), some (vR l2), some (vI l3), none, none] [] M := by
  obtain ⟨a1, he, h⟩ := h
  refine RN_k (callX_det _) 1 _ _ _ _ (show R42 sl sx d M0 P 1 [some (vR (some l0)), some (vI l1), some (vR l2), some (vI l3), none, none] [vR l2] M from ?_)
  subst he
  refine RN_k (callX_det _) 1 _ _ _ _ (show kd M a1 8 ∧ R42 sl sx d M0 P 4 [some (vR (some l0)), some (vI l1), some (vR (some a1)), some (vI l3), none, none] [vR (mR M a1 2)] M from ⟨h.1, ?_⟩)
  replace h := h.2
  obtain ⟨a2, he, h⟩ := h
  refine RN_k (callX_det _) 1 _ _ _ _ (show R42 sl sx d M0 P 5 [some (vR (some l0)), some (vI l1), some (vR (some a1)), some (vI l3), none, none] [vI l3, vR (mR M a1 2)] M from ?_)
  rw [he]
  refine RN_k (callX_det _) 1 _ _ _ _ (show inb M a2 11 l3 ∧ R42 sl sx d M0 P 6 [some (vR (some l0)), some (vI l1), some (vR (some a1)), some (vI l3), none, none] [vI (mI M a2 l3.toNatClampNeg)] M from ⟨h.1, ?_⟩)
  replace h := h.2
  refine RN_k (callX_det _) 2 _ _ _ _ (show kd M l0 8 ∧ R42 sl sx d M0 P 10 [some (vR (some l0)), some (vI l1), some (vR (some a1)), some (vI l3), none, none] [vR (mR M l0 2), vI (mI M a2 l3.toNatClampNeg)] M from ⟨h.1, ?_⟩)
  replace h := h.2
  obtain ⟨a3, he, h⟩ := h
  refine RN_k (callX_det _) 1 _ _ _ _ (show R42 sl sx d M0 P 11 [some (vR (some l0)), some (vI l1), some (vR (some a1)), some (vI l3), none, none] [vI l1, vR (mR M l0 2), vI (mI M a2 l3.toNatClampNeg)] M from ?_)
  rw [he]
  refine RN_k (callX_det _) 1 _ _ _ _ (show inb M a3 11 l1 ∧ R42 sl sx d M0 P 12 [some (vR (some l0)), some (vI l1), some (vR (some a1)), some (vI l3), none, none] [vI (mI M a3 l1.toNatClampNeg), vI (mI M a2 l3.toNatClampNeg)] M from ⟨h.1, ?_⟩)
  replace h := h.2
  refine RN_k (callX_det _) 4 _ _ _ _ (show kd M a1 8 ∧ R42 sl sx d M0 P 19 [some (vR (some l0)), some (vI l1), some (vR (some a1)), some (vI l3), some (vI ((mI M a2 l3.toNatClampNeg) - (mI M a3 l1.toNatClampNeg))), none] [vR (mR M a1 3)] M from ⟨h.1, ?_⟩)
  replace h := h.2
  obtain ⟨a4, he, h⟩ := h
  refine RN_k (callX_det _) 1 _ _ _ _ (show R42 sl sx d M0 P 20 [some (vR (some l0)), some (vI l1), some (vR (some a1)), some (vI l3), some (vI ((mI M a2 l3.toNatClampNeg) - (mI M a3 l1.toNatClampNeg))), none] [vI l3, vR (mR M a1 3)] M from ?_)
  rw [he]
  refine RN_k (callX_det _) 1 _ _ _ _ (show inb M a4 11 l3 ∧ R42 sl sx d M0 P 21 [some (vR (some l0)), some (vI l1), some (vR (some a1)), some (vI l3), some (vI ((mI M a2 l3.toNatClampNeg) - (mI M a3 l1.toNatClampNeg))), none] [vI (mI M a4 l3.toNatClampNeg)] M from ⟨h.1, ?_⟩)
  replace h := h.2
  refine RN_k (callX_det _) 2 _ _ _ _ (show kd M l0 8 ∧ R42 sl sx d M0 P 25 [some (vR (some l0)), some (vI l1), some (vR (some a1)), some (vI l3), some (vI ((mI M a2 l3.toNatClampNeg) - (mI M a3 l1.toNatClampNeg))), none] [vR (mR M l0 3), vI (mI M a4 l3.toNatClampNeg)] M from ⟨h.1, ?_⟩)
  replace h := h.2
  obtain ⟨a5, he, h⟩ := h
  refine RN_k (callX_det _) 1 _ _ _ _ (show R42 sl sx d M0 P 26 [some (vR (some l0)), some (vI l1), some (vR (some a1)), some (vI l3), some (vI ((mI M a2 l3.toNatClampNeg) - (mI M a3 l1.toNatClampNeg))), none] [vI l1, vR (mR M l0 3), vI (mI M a4 l3.toNatClampNeg)] M from ?_)
  rw [he]
  refine RN_k (callX_det _) 1 _ _ _ _ (show inb M a5 11 l1 ∧ R42 sl sx d M0 P 27 [some (vR (some l0)), some (vI l1), some (vR (some a1)), some (vI l3), some (vI ((mI M a2 l3.toNatClampNeg) - (mI M a3 l1.toNatClampNeg))), none] [vI (mI M a5 l1.toNatClampNeg), vI (mI M a4 l3.toNatClampNeg)] M from ⟨h.1, ?_⟩)
  replace h := h.2
  exact RN_k (callX_det _) 10 _ _ _ _ (show rtW q42 M0 (PI P) (some (vI ((((mI M a2 l3.toNatClampNeg) - (mI M a3 l1.toNatClampNeg)) * ((mI M a2 l3.toNatClampNeg) - (mI M a3 l1.toNatClampNeg))) + (((mI M a4 l3.toNatClampNeg) - (mI M a5 l1.toNatClampNeg)) * ((mI M a4 l3.toNatClampNeg) - (mI M a5 l1.toNatClampNeg)))))) M from ⟨⟨_, rfl⟩, hM.1, hM.2, _, rfl, h⟩)
theorem c42 {sl : Nat} {sx : Nat → Int32} {d : Nat} {l0 : Nat} {l1 : Int32} {l2 : Option Nat} {l3 : Int32} {M : MM} {P : Int32 → MM → Prop} (h : w42 l0 l1 l2 l3 M P) : callX TBg sl sx (d + 1) 42 [vR (some l0), vI l1, vR l2, vI l3] M (PI P) :=
  cX (d := d + 0) q42 (false, tb42) rfl rfl rfl (t42_E l0 l1 l2 l3 M lenR h)
-- TwoLeash$Track.squaresOfEdges()I
abbrev q41 : MQ7 := (1, 1, 3, 8, 0, 0, 1)
abbrev R41 (sl : Nat) (sx : Nat → Int32) (d : Nat) (M0 : MM) (P : Int32 → MM → Prop) : Nat → LL → List VV → MM → Prop := RN 8 false (mS M0).length (mT M0) 0 0 sl sx (callX TBg sl sx (d + 1)) (rtW q41 M0 (PI P)) (as2 tb41)
def w41_4 : Nat → Nat → Int32 → Int32 → MM → (Int32 → MM → Prop) → Prop
  | 0 => fun _ _ _ _ _ => False
  | n + 1 => fun l0 l1 l2 M P => kd M l0 8 ∧ (((mI M l0 1) ≤ (l2 + (1 : Int32)) → (P l1 M)) ∧ (¬ ((mI M l0 1) ≤ (l2 + (1 : Int32))) → (kd M l0 8 ∧ w42 l0 l2 (some l0) (l2 + (1 : Int32)) M (fun r2 M1 => w41_4  n l0 (l1 + r2) (l2 + (1 : Int32)) M1 P))))
theorem t41_4 {sl : Nat} {sx : Nat → Int32} {d : Nat} {M0 : MM} {P : Int32 → MM → Prop} (n : Nat) : ∀ (l0 : Nat) (l1 : Int32) (l2 : Int32) (M : MM) (_ : lenO M0 M) (_ : w41_4  n l0 l1 l2 M P), R41 sl sx d M0 P 4 [some (vR (some l0)), some (vI l1), some (vI l2)] [] M := by
  induction n with
  | zero => intro l0 l1 l2 M hM h; cases h
  | succ n ih =>
    intro l0 l1 l2 M hM h
    refine RN_k (callX_det _) 5 _ _ _ _ (show kd M l0 8 ∧ R41 sl sx d M0 P 11 [some (vR (some l0)), some (vI l1), some (vI l2)] [vI (mI M l0 1), vI (l2 + (1 : Int32))] M from ⟨h.1, ?_⟩)
    replace h := h.2
    refine RN_k (callX_det _) 1 _ _ _ _ (show ((mI M l0 1) ≤ (l2 + (1 : Int32)) → R41 sl sx d M0 P 32 [some (vR (some l0)), some (vI l1), some (vI l2)] [] M) ∧ (¬ ((mI M l0 1) ≤ (l2 + (1 : Int32))) → R41 sl sx d M0 P 14 [some (vR (some l0)), some (vI l1), some (vI l2)] [] M) from ⟨fun hc => ?_, fun hc => ?_⟩)
    · replace h := h.1 hc
      exact RN_k (callX_det _) 2 _ _ _ _ (show rtW q41 M0 (PI P) (some (vI l1)) M from ⟨⟨_, rfl⟩, hM.1, hM.2, _, rfl, h⟩)
    · replace h := h.2 hc
      refine RN_k (callX_det _) 8 _ _ _ _ (show kd M l0 8 ∧ callX TBg sl sx (d + 1) 42 [vR (some l0), vI l2, vR (some l0), vI (l2 + (1 : Int32))] M (fun v M9 => R41 sl sx d M0 P 24 [some (vR (some l0)), some (vI l1), some (vI l2)] (pushO v [vI l1]) M9) from ⟨h.1, ?_⟩)
      replace h := h.2
      refine callX_mono (callX_len (d := (d + 1)) rfl rfl rfl (c42 (d := d) h)) ?_
      clear h
      rintro v9 M1 ⟨hl, r2, rfl, h⟩
      replace hM := lenT hM hl
      show R41 sl sx d M0 P 24 [some (vR (some l0)), some (vI l1), some (vI l2)] [vI r2, vI l1] M1
      refine RN_k (callX_det _) 4 _ _ _ _ (show R41 sl sx d M0 P 4 [some (vR (some l0)), some (vI (l1 + r2)), some (vI (l2 + (1 : Int32)))] [] M1 from ?_)
      exact RN_weak (K := [some (vR (some l0)), some (vI (l1 + r2)), some (vI (l2 + (1 : Int32)))]) (callX_det _) (show _ ∧ _ ∧ _ ∧ True from ⟨rfl, rfl, rfl, trivial⟩) (ih l0 (l1 + r2) (l2 + (1 : Int32)) _ hM h)
def w41 (l0 : Nat) (M : MM) (P : Int32 → MM → Prop) : Prop := ∃ n2, w41_4  n2 l0 (0 : Int32) (0 : Int32) M P
theorem t41_E {sl : Nat} {sx : Nat → Int32} {d : Nat} {M0 : MM} {P : Int32 → MM → Prop} (l0 : Nat) (M : MM) (hM : lenO M0 M) (h : w41  l0 M P) : R41 sl sx d M0 P 0 [some (vR (some l0)), none, none] [] M := by
  refine RN_k (callX_det _) 4 _ _ _ _ (show R41 sl sx d M0 P 4 [some (vR (some l0)), some (vI (0 : Int32)), some (vI (0 : Int32))] [] M from ?_)
  obtain ⟨n2, h⟩ := h
  exact RN_weak (K := [some (vR (some l0)), some (vI (0 : Int32)), some (vI (0 : Int32))]) (callX_det _) (show _ ∧ _ ∧ _ ∧ True from ⟨rfl, rfl, rfl, trivial⟩) (t41_4  n2 l0 (0 : Int32) (0 : Int32) _ hM h)
theorem c41 {sl : Nat} {sx : Nat → Int32} {d : Nat} {l0 : Nat} {M : MM} {P : Int32 → MM → Prop} (h : w41 l0 M P) : callX TBg sl sx (d + 2) 41 [vR (some l0)] M (PI P) :=
  cX (d := d + 1) q41 (false, tb41) rfl rfl rfl (t41_E l0 M lenR h)
-- TwoLeash$Track.longestEdge()I
abbrev q43 : MQ7 := (1, 1, 3, 8, 0, 0, 1)
abbrev R43 (sl : Nat) (sx : Nat → Int32) (d : Nat) (M0 : MM) (P : Int32 → MM → Prop) : Nat → LL → List VV → MM → Prop := RN 8 false (mS M0).length (mT M0) 0 0 sl sx (callX TBg sl sx (d + 1)) (rtW q43 M0 (PI P)) (as2 tb43)
def w43_37 (k4 : Nat → Int32 → Int32 → MM → Prop) (l0 : Nat) (l1 : Int32) (l2 : Int32) (M : MM) (P : Int32 → MM → Prop) : Prop := k4 l0 l1 (l2 + (1 : Int32)) M
theorem t43_37 {sl : Nat} {sx : Nat → Int32} {d : Nat} {M0 : MM} {P : Int32 → MM → Prop} {k4 : Nat → Int32 → Int32 → MM → Prop} (hk4 : ∀ (l0 : Nat) (l1 : Int32) (l2 : Int32) (M : MM), lenO M0 M → k4 l0 l1 l2 M → R43 sl sx d M0 P 4 [some (vR (some l0)), some (vI l1), some (vI l2)] [] M) (l0 : Nat) (l1 : Int32) (l2 : Int32) (M : MM) (hM : lenO M0 M) (h : w43_37 k4 l0 l1 l2 M P) : R43 sl sx d M0 P 37 [some (vR (some l0)), some (vI l1), some (vI l2)] [] M := by
  refine RN_k (callX_det _) 2 _ _ _ _ (show R43 sl sx d M0 P 4 [some (vR (some l0)), some (vI l1), some (vI (l2 + (1 : Int32)))] [] M from ?_)
  exact RN_weak (K := [some (vR (some l0)), some (vI l1), some (vI (l2 + (1 : Int32)))]) (callX_det _) (show _ ∧ _ ∧ _ ∧ True from ⟨rfl, rfl, rfl, trivial⟩) (hk4 l0 l1 (l2 + (1 : Int32)) _ hM h)
def w43_4 : Nat → Nat → Int32 → Int32 → MM → (Int32 → MM → Prop) → Prop
  | 0 => fun _ _ _ _ _ => False
  | n + 1 => fun l0 l1 l2 M P => kd M l0 8 ∧ (((mI M l0 1) ≤ (l2 + (1 : Int32)) → (P l1 M)) ∧ (¬ ((mI M l0 1) ≤ (l2 + (1 : Int32))) → (kd M l0 8 ∧ w42 l0 l2 (some l0) (l2 + (1 : Int32)) M (fun r2 M1 => kd M1 l0 8 ∧ w42 l0 l1 (some l0) (l1 + (1 : Int32)) M1 (fun r4 M3 => (r2 ≤ r4 → (w43_37 (fun z0 z1 z2 z3 => w43_4  n z0 z1 z2 z3 P) l0 l1 l2 M3 P)) ∧ (¬ (r2 ≤ r4) → (w43_37 (fun z0 z1 z2 z3 => w43_4  n z0 z1 z2 z3 P) l0 l2 l2 M3 P)))))))
theorem t43_4 {sl : Nat} {sx : Nat → Int32} {d : Nat} {M0 : MM} {P : Int32 → MM → Prop} (n : Nat) : ∀ (l0 : Nat) (l1 : Int32) (l2 : Int32) (M : MM) (_ : lenO M0 M) (_ : w43_4  n l0 l1 l2 M P), R43 sl sx d M0 P 4 [some (vR (some l0)), some (vI l1), some (vI l2)] [] M := by
  induction n with
  | zero => intro l0 l1 l2 M hM h; cases h
  | succ n ih =>
    intro l0 l1 l2 M hM h
    refine RN_k (callX_det _) 5 _ _ _ _ (show kd M l0 8 ∧ R43 sl sx d M0 P 11 [some (vR (some l0)), some (vI l1), some (vI l2)] [vI (mI M l0 1), vI (l2 + (1 : Int32))] M from ⟨h.1, ?_⟩)
    replace h := h.2
    refine RN_k (callX_det _) 1 _ _ _ _ (show ((mI M l0 1) ≤ (l2 + (1 : Int32)) → R43 sl sx d M0 P 43 [some (vR (some l0)), some (vI l1), some (vI l2)] [] M) ∧ (¬ ((mI M l0 1) ≤ (l2 + (1 : Int32))) → R43 sl sx d M0 P 14 [some (vR (some l0)), some (vI l1), some (vI l2)] [] M) from ⟨fun hc => ?_, fun hc => ?_⟩)
    · replace h := h.1 hc
      exact RN_k (callX_det _) 2 _ _ _ _ (show rtW q43 M0 (PI P) (some (vI l1)) M from ⟨⟨_, rfl⟩, hM.1, hM.2, _, rfl, h⟩)
    · replace h := h.2 hc
      refine RN_k (callX_det _) 7 _ _ _ _ (show kd M l0 8 ∧ callX TBg sl sx (d + 1) 42 [vR (some l0), vI l2, vR (some l0), vI (l2 + (1 : Int32))] M (fun v M9 => R43 sl sx d M0 P 23 [some (vR (some l0)), some (vI l1), some (vI l2)] (pushO v []) M9) from ⟨h.1, ?_⟩)
      replace h := h.2
      refine callX_mono (callX_len (d := (d + 1)) rfl rfl rfl (c42 (d := d) h)) ?_
      clear h
      rintro v9 M1 ⟨hl, r2, rfl, h⟩
      replace hM := lenT hM hl
      show R43 sl sx d M0 P 23 [some (vR (some l0)), some (vI l1), some (vI l2)] [vI r2] M1
      refine RN_k (callX_det _) 7 _ _ _ _ (show kd M1 l0 8 ∧ callX TBg sl sx (d + 1) 42 [vR (some l0), vI l1, vR (some l0), vI (l1 + (1 : Int32))] M1 (fun v M9 => R43 sl sx d M0 P 32 [some (vR (some l0)), some (vI l1), some (vI l2)] (pushO v [vI r2]) M9) from ⟨h.1, ?_⟩)
      replace h := h.2
      refine callX_mono (callX_len (d := (d + 1)) rfl rfl rfl (c42 (d := d) h)) ?_
      clear h
      rintro v9 M3 ⟨hl, r4, rfl, h⟩
      replace hM := lenT hM hl
      show R43 sl sx d M0 P 32 [some (vR (some l0)), some (vI l1), some (vI l2)] [vI r4, vI r2] M3
      refine RN_k (callX_det _) 1 _ _ _ _ (show (r2 ≤ r4 → R43 sl sx d M0 P 37 [some (vR (some l0)), some (vI l1), some (vI l2)] [] M3) ∧ (¬ (r2 ≤ r4) → R43 sl sx d M0 P 35 [some (vR (some l0)), some (vI l1), some (vI l2)] [] M3) from ⟨fun hc => ?_, fun hc => ?_⟩)
      · replace h := h.1 hc
        exact RN_weak (K := [some (vR (some l0)), some (vI l1), some (vI l2)]) (callX_det _) (show _ ∧ _ ∧ _ ∧ True from ⟨rfl, rfl, rfl, trivial⟩) (t43_37 ih l0 l1 l2 _ hM h)
      · replace h := h.2 hc
        refine RN_k (callX_det _) 2 _ _ _ _ (show R43 sl sx d M0 P 37 [some (vR (some l0)), some (vI l2), some (vI l2)] [] M3 from ?_)
        exact RN_weak (K := [some (vR (some l0)), some (vI l2), some (vI l2)]) (callX_det _) (show _ ∧ _ ∧ _ ∧ True from ⟨rfl, rfl, rfl, trivial⟩) (t43_37 ih l0 l2 l2 _ hM h)
def w43 (l0 : Nat) (M : MM) (P : Int32 → MM → Prop) : Prop := ∃ n2, w43_4  n2 l0 (0 : Int32) (1 : Int32) M P
theorem t43_E {sl : Nat} {sx : Nat → Int32} {d : Nat} {M0 : MM} {P : Int32 → MM → Prop} (l0 : Nat) (M : MM) (hM : lenO M0 M) (h : w43  l0 M P) : R43 sl sx d M0 P 0 [some (vR (some l0)), none, none] [] M := by
  refine RN_k (callX_det _) 4 _ _ _ _ (show R43 sl sx d M0 P 4 [some (vR (some l0)), some (vI (0 : Int32)), some (vI (1 : Int32))] [] M from ?_)
  obtain ⟨n2, h⟩ := h
  exact RN_weak (K := [some (vR (some l0)), some (vI (0 : Int32)), some (vI (1 : Int32))]) (callX_det _) (show _ ∧ _ ∧ _ ∧ True from ⟨rfl, rfl, rfl, trivial⟩) (t43_4  n2 l0 (0 : Int32) (1 : Int32) _ hM h)
theorem c43 {sl : Nat} {sx : Nat → Int32} {d : Nat} {l0 : Nat} {M : MM} {P : Int32 → MM → Prop} (h : w43 l0 M P) : callX TBg sl sx (d + 2) 43 [vR (some l0)] M (PI P) :=
  cX (d := d + 1) q43 (false, tb43) rfl rfl rfl (t43_E l0 M lenR h)
-- TwoLeash.way(II)I
abbrev q39 : MQ7 := (3, 1, 7, 9, 0, 0, 1)
abbrev R39 (sl : Nat) (sx : Nat → Int32) (d : Nat) (M0 : MM) (P : Int32 → MM → Prop) : Nat → LL → List VV → MM → Prop := RN 9 false (mS M0).length (mT M0) 0 0 sl sx (callX TBg sl sx (d + 2)) (rtW q39 M0 (PI P)) (as2 tb39)
def w39_186 (s0 : Option Nat) (s1 : Int32) (M : MM) (P : Int32 → MM → Prop) : Prop := ∃ a1, s0 = some a1 ∧ (kd M a1 9 ∧ w35 a1 s1 M (fun r3 M2 => P r3 M2))
theorem t39_186 {sl : Nat} {sx : Nat → Int32} {d : Nat} {M0 : MM} {P : Int32 → MM → Prop} (s0 : Option Nat) (s1 : Int32) (M : MM) (hM : lenO M0 M) (h : w39_186  s0 s1 M P) : R39 sl sx d M0 P 186 [none, none, none, none, none, none, none] [vI s1, vR s0] M := by
  obtain ⟨a1, he, h⟩ := h
  subst he
  refine RN_k (callX_det _) 1 _ _ _ _ (show kd M a1 9 ∧ callX TBg sl sx (d + 2) 35 [vR (some a1), vI s1] M (fun v M9 => R39 sl sx d M0 P 189 [none, none, none, none, none, none, none] (pushO v []) M9) from ⟨h.1, ?_⟩)
  replace h := h.2
  refine callX_mono (callX_len (d := (d + 2)) rfl rfl rfl (c35 (d := d + 1) h)) ?_
  clear h
  rintro v9 M2 ⟨hl, r3, rfl, h⟩
  replace hM := lenT hM hl
  show R39 sl sx d M0 P 189 [none, none, none, none, none, none, none] [vI r3] M2
  exact RN_k (callX_det _) 1 _ _ _ _ (show rtW q39 M0 (PI P) (some (vI r3)) M2 from ⟨⟨_, rfl⟩, hM.1, hM.2, _, rfl, h⟩)
def w39_149 (s0 : Option Nat) (s1 : Int32) (M : MM) (P : Int32 → MM → Prop) : Prop := ∃ a1, s0 = some a1 ∧ (kd M a1 9 ∧ w35 a1 s1 M (fun r3 M2 => P r3 M2))
theorem t39_149 {sl : Nat} {sx : Nat → Int32} {d : Nat} {M0 : MM} {P : Int32 → MM → Prop} (s0 : Option Nat) (s1 : Int32) (M : MM) (hM : lenO M0 M) (h : w39_149  s0 s1 M P) : R39 sl sx d M0 P 149 [none, none, none, none, none, none, none] [vI s1, vR s0] M := by
  obtain ⟨a1, he, h⟩ := h
  subst he
  refine RN_k (callX_det _) 1 _ _ _ _ (show kd M a1 9 ∧ callX TBg sl sx (d + 2) 35 [vR (some a1), vI s1] M (fun v M9 => R39 sl sx d M0 P 152 [none, none, none, none, none, none, none] (pushO v []) M9) from ⟨h.1, ?_⟩)
  replace h := h.2
  refine callX_mono (callX_len (d := (d + 2)) rfl rfl rfl (c35 (d := d + 1) h)) ?_
  clear h
  rintro v9 M2 ⟨hl, r3, rfl, h⟩
  replace hM := lenT hM hl
  show R39 sl sx d M0 P 152 [none, none, none, none, none, none, none] [vI r3] M2
  exact RN_k (callX_det _) 1 _ _ _ _ (show rtW q39 M0 (PI P) (some (vI r3)) M2 from ⟨⟨_, rfl⟩, hM.1, hM.2, _, rfl, h⟩)
def w39_107 (l0 : Nat) (l3 : Int32) (l5 : Option Nat) (s0 : Int32) (M : MM) (P : Int32 → MM → Prop) : Prop := ∃ a1, l5 = some a1 ∧ (kd M a1 8 ∧ ((s0 < (mI M a1 1) → ((l3 = 0 → (kd M a1 8 ∧ (∃ a2, mR M a1 3 = some a2 ∧ (inb M a2 11 s0 ∧ (w39_149  (some l0) (mI M a2 s0.toNatClampNeg) M P))))) ∧ (¬ (l3 = 0) → (kd M a1 8 ∧ (∃ a3, mR M a1 2 = some a3 ∧ (inb M a3 11 s0 ∧ (w39_149  (some l0) (mI M a3 s0.toNatClampNeg) M P))))))) ∧ (¬ (s0 < (mI M a1 1)) → (kd M l0 9 ∧ w17 l0 (2 : Int32) M (fun r5 M4 => P r5 M4)))))
theorem t39_107 {sl : Nat} {sx : Nat → Int32} {d : Nat} {M0 : MM} {P : Int32 → MM → Prop} (l0 : Nat) (l3 : Int32) (l5 : Option Nat) (s0 : Int32) (M : MM) (hM : lenO M0 M) (h : w39_107  l0 l3 l5 s0 M P) : R39 sl sx d M0 P 107 [some (vR (some l0)), none, none, some (vI l3), none, some (vR l5), none] [vI s0] M := by
  obtain ⟨a1, he, h⟩ := h
  refine RN_k (callX_det _) 3 _ _ _ _ (show R39 sl sx d M0 P 113 [some (vR (some l0)), none, none, some (vI l3), none, some (vR l5), some (vI s0)] [vR l5, vI s0] M from ?_)
  subst he
  refine RN_k (callX_det _) 1 _ _ _ _ (show kd M a1 8 ∧ R39 sl sx d M0 P 116 [some (vR (some l0)), none, none, some (vI l3), none, some (vR (some a1)), some (vI s0)] [vI (mI M a1 1), vI s0] M from ⟨h.1, ?_⟩)
  replace h := h.2
  refine RN_k (callX_det _) 1 _ _ _ _ (show (s0 < (mI M a1 1) → R39 sl sx d M0 P 125 [some (vR (some l0)), none, none, some (vI l3), none, some (vR (some a1)), some (vI s0)] [] M) ∧ (¬ (s0 < (mI M a1 1)) → R39 sl sx d M0 P 119 [some (vR (some l0)), none, none, some (vI l3), none, some (vR (some a1)), some (vI s0)] [] M) from ⟨fun hc => ?_, fun hc => ?_⟩)
  · replace h := h.1 hc
    refine RN_k (callX_det _) 3 _ _ _ _ (show (l3 = 0 → R39 sl sx d M0 P 141 [some (vR (some l0)), none, none, some (vI l3), none, some (vR (some a1)), some (vI s0)] [vR (some l0)] M) ∧ (¬ (l3 = 0) → R39 sl sx d M0 P 130 [some (vR (some l0)), none, none, some (vI l3), none, some (vR (some a1)), some (vI s0)] [vR (some l0)] M) from ⟨fun hc => ?_, fun hc => ?_⟩)
    · replace h := h.1 hc
      refine RN_k (callX_det _) 2 _ _ _ _ (show kd M a1 8 ∧ R39 sl sx d M0 P 146 [some (vR (some l0)), none, none, some (vI l3), none, some (vR (some a1)), some (vI s0)] [vR (mR M a1 3), vR (some l0)] M from ⟨h.1, ?_⟩)
      replace h := h.2
      obtain ⟨a2, he, h⟩ := h
      refine RN_k (callX_det _) 1 _ _ _ _ (show R39 sl sx d M0 P 148 [some (vR (some l0)), none, none, some (vI l3), none, some (vR (some a1)), some (vI s0)] [vI s0, vR (mR M a1 3), vR (some l0)] M from ?_)
      rw [he]
      refine RN_k (callX_det _) 1 _ _ _ _ (show inb M a2 11 s0 ∧ R39 sl sx d M0 P 149 [some (vR (some l0)), none, none, some (vI l3), none, some (vR (some a1)), some (vI s0)] [vI (mI M a2 s0.toNatClampNeg), vR (some l0)] M from ⟨h.1, ?_⟩)
      replace h := h.2
      exact RN_weak (K := [none, none, none, none, none, none, none]) (callX_det _) (show True from trivial) (t39_149  (some l0) (mI M a2 s0.toNatClampNeg) _ hM h)
    · replace h := h.2 hc
      refine RN_k (callX_det _) 2 _ _ _ _ (show kd M a1 8 ∧ R39 sl sx d M0 P 135 [some (vR (some l0)), none, none, some (vI l3), none, some (vR (some a1)), some (vI s0)] [vR (mR M a1 2), vR (some l0)] M from ⟨h.1, ?_⟩)
      replace h := h.2
      obtain ⟨a3, he, h⟩ := h
      refine RN_k (callX_det _) 1 _ _ _ _ (show R39 sl sx d M0 P 137 [some (vR (some l0)), none, none, some (vI l3), none, some (vR (some a1)), some (vI s0)] [vI s0, vR (mR M a1 2), vR (some l0)] M from ?_)
      rw [he]
      refine RN_k (callX_det _) 1 _ _ _ _ (show inb M a3 11 s0 ∧ R39 sl sx d M0 P 138 [some (vR (some l0)), none, none, some (vI l3), none, some (vR (some a1)), some (vI s0)] [vI (mI M a3 s0.toNatClampNeg), vR (some l0)] M from ⟨h.1, ?_⟩)
      replace h := h.2
      refine RN_k (callX_det _) 1 _ _ _ _ (show R39 sl sx d M0 P 149 [some (vR (some l0)), none, none, some (vI l3), none, some (vR (some a1)), some (vI s0)] [vI (mI M a3 s0.toNatClampNeg), vR (some l0)] M from ?_)
      exact RN_weak (K := [none, none, none, none, none, none, none]) (callX_det _) (show True from trivial) (t39_149  (some l0) (mI M a3 s0.toNatClampNeg) _ hM h)
  · replace h := h.2 hc
    refine RN_k (callX_det _) 3 _ _ _ _ (show kd M l0 9 ∧ callX TBg sl sx (d + 2) 17 [vR (some l0), vI (2 : Int32)] M (fun v M9 => R39 sl sx d M0 P 124 [some (vR (some l0)), none, none, some (vI l3), none, some (vR (some a1)), some (vI s0)] (pushO v []) M9) from ⟨h.1, ?_⟩)
    replace h := h.2
    refine callX_mono (callX_len (d := (d + 2)) rfl rfl rfl (c17 (d := d + 1) h)) ?_
    clear h
    rintro v9 M4 ⟨hl, r5, rfl, h⟩
    replace hM := lenT hM hl
    show R39 sl sx d M0 P 124 [some (vR (some l0)), none, none, some (vI l3), none, some (vR (some a1)), some (vI s0)] [vI r5] M4
    exact RN_k (callX_det _) 1 _ _ _ _ (show rtW q39 M0 (PI P) (some (vI r5)) M4 from ⟨⟨_, rfl⟩, hM.1, hM.2, _, rfl, h⟩)
def w39_92 (l0 : Nat) (l2 : Int32) (l3 : Int32) (l5 : Option Nat) (M : MM) (P : Int32 → MM → Prop) : Prop := (l3 = 0 → (w39_107  l0 l3 l5 (l2 - (20 : Int32)) M P)) ∧ (¬ (l3 = 0) → (w39_107  l0 l3 l5 (l2 - (10 : Int32)) M P))
theorem t39_92 {sl : Nat} {sx : Nat → Int32} {d : Nat} {M0 : MM} {P : Int32 → MM → Prop} (l0 : Nat) (l2 : Int32) (l3 : Int32) (l5 : Option Nat) (M : MM) (hM : lenO M0 M) (h : w39_92  l0 l2 l3 l5 M P) : R39 sl sx d M0 P 92 [some (vR (some l0)), none, some (vI l2), some (vI l3), none, some (vR l5), none] [] M := by
  refine RN_k (callX_det _) 2 _ _ _ _ (show (l3 = 0 → R39 sl sx d M0 P 103 [some (vR (some l0)), none, some (vI l2), some (vI l3), none, some (vR l5), none] [] M) ∧ (¬ (l3 = 0) → R39 sl sx d M0 P 96 [some (vR (some l0)), none, some (vI l2), some (vI l3), none, some (vR l5), none] [] M) from ⟨fun hc => ?_, fun hc => ?_⟩)
  · replace h := h.1 hc
    refine RN_k (callX_det _) 3 _ _ _ _ (show R39 sl sx d M0 P 107 [some (vR (some l0)), none, some (vI l2), some (vI l3), none, some (vR l5), none] [vI (l2 - (20 : Int32))] M from ?_)
    exact RN_weak (K := [some (vR (some l0)), none, none, some (vI l3), none, some (vR l5), none]) (callX_det _) (show _ ∧ _ ∧ _ ∧ True from ⟨rfl, rfl, rfl, trivial⟩) (t39_107  l0 l3 l5 (l2 - (20 : Int32)) _ hM h)
  · replace h := h.2 hc
    refine RN_k (callX_det _) 4 _ _ _ _ (show R39 sl sx d M0 P 107 [some (vR (some l0)), none, some (vI l2), some (vI l3), none, some (vR l5), none] [vI (l2 - (10 : Int32))] M from ?_)
    exact RN_weak (K := [some (vR (some l0)), none, none, some (vI l3), none, some (vR l5), none]) (callX_det _) (show _ ∧ _ ∧ _ ∧ True from ⟨rfl, rfl, rfl, trivial⟩) (t39_107  l0 l3 l5 (l2 - (10 : Int32)) _ hM h)
def w39_61 (l0 : Nat) (l1 : Int32) (l2 : Int32) (l3 : Int32) (l4 : Int32) (M : MM) (P : Int32 → MM → Prop) : Prop := kd M l0 9 ∧ w40 l0 l1 M (fun r2 M1 => (r2 ≠ 0 → (kd M1 l0 9 ∧ (∃ a3, mR M1 l0 5 = some a3 ∧ (inb M1 a3 16 l1 ∧ ((l3 ≠ 0 → (w39_92  l0 l2 l3 (mR M1 a3 l1.toNatClampNeg) M1 P)) ∧ (¬ (l3 ≠ 0) → ((l4 = 0 → ((l2 ≠ 0 → ((l2 ≠ (1 : Int32) → (∃ a4, mR M1 a3 l1.toNatClampNeg = some a4 ∧ (kd M1 a4 8 ∧ w43 a4 M1 (fun r6 M5 => w39_186  (some l0) r6 M5 P)))) ∧ (¬ (l2 ≠ (1 : Int32)) → (∃ a7, mR M1 a3 l1.toNatClampNeg = some a7 ∧ (kd M1 a7 8 ∧ w41 a7 M1 (fun r9 M8 => w39_186  (some l0) r9 M8 P)))))) ∧ (¬ (l2 ≠ 0) → (∃ a10, mR M1 a3 l1.toNatClampNeg = some a10 ∧ (kd M1 a10 8 ∧ (kd M1 l0 9 ∧ w35 l0 (mI M1 a10 1) M1 (fun r12 M11 => P r12 M11))))))) ∧ (¬ (l4 = 0) → (w39_92  l0 l2 l3 (mR M1 a3 l1.toNatClampNeg) M1 P))))))))) ∧ (¬ (r2 ≠ 0) → (kd M1 l0 9 ∧ w17 l0 (2 : Int32) M1 (fun r14 M13 => P r14 M13))))
theorem t39_61 {sl : Nat} {sx : Nat → Int32} {d : Nat} {M0 : MM} {P : Int32 → MM → Prop} (l0 : Nat) (l1 : Int32) (l2 : Int32) (l3 : Int32) (l4 : Int32) (M : MM) (hM : lenO M0 M) (h : w39_61  l0 l1 l2 l3 l4 M P) : R39 sl sx d M0 P 61 [some (vR (some l0)), some (vI l1), some (vI l2), some (vI l3), some (vI l4), none, none] [] M := by
  refine RN_k (callX_det _) 3 _ _ _ _ (show kd M l0 9 ∧ callX TBg sl sx (d + 2) 40 [vR (some l0), vI l1] M (fun v M9 => R39 sl sx d M0 P 66 [some (vR (some l0)), some (vI l1), some (vI l2), some (vI l3), some (vI l4), none, none] (pushO v []) M9) from ⟨h.1, ?_⟩)
  replace h := h.2
  refine callX_mono (callX_len (d := (d + 2)) rfl rfl rfl (c40 (d := d + 1) h)) ?_
  clear h
  rintro v9 M1 ⟨hl, r2, rfl, h⟩
  replace hM := lenT hM hl
  show R39 sl sx d M0 P 66 [some (vR (some l0)), some (vI l1), some (vI l2), some (vI l3), some (vI l4), none, none] [vI r2] M1
  refine RN_k (callX_det _) 1 _ _ _ _ (show (r2 ≠ 0 → R39 sl sx d M0 P 75 [some (vR (some l0)), some (vI l1), some (vI l2), some (vI l3), some (vI l4), none, none] [] M1) ∧ (¬ (r2 ≠ 0) → R39 sl sx d M0 P 69 [some (vR (some l0)), some (vI l1), some (vI l2), some (vI l3), some (vI l4), none, none] [] M1) from ⟨fun hc => ?_, fun hc => ?_⟩)
  · replace h := h.1 hc
    refine RN_k (callX_det _) 2 _ _ _ _ (show kd M1 l0 9 ∧ R39 sl sx d M0 P 79 [some (vR (some l0)), some (vI l1), some (vI l2), some (vI l3), some (vI l4), none, none] [vR (mR M1 l0 5)] M1 from ⟨h.1, ?_⟩)
    replace h := h.2
    obtain ⟨a3, he, h⟩ := h
    refine RN_k (callX_det _) 1 _ _ _ _ (show R39 sl sx d M0 P 80 [some (vR (some l0)), some (vI l1), some (vI l2), some (vI l3), some (vI l4), none, none] [vI l1, vR (mR M1 l0 5)] M1 from ?_)
    rw [he]
    refine RN_k (callX_det _) 1 _ _ _ _ (show inb M1 a3 16 l1 ∧ R39 sl sx d M0 P 81 [some (vR (some l0)), some (vI l1), some (vI l2), some (vI l3), some (vI l4), none, none] [vR (mR M1 a3 l1.toNatClampNeg)] M1 from ⟨h.1, ?_⟩)
    replace h := h.2
    refine RN_k (callX_det _) 3 _ _ _ _ (show (l3 ≠ 0 → R39 sl sx d M0 P 92 [some (vR (some l0)), some (vI l1), some (vI l2), some (vI l3), some (vI l4), some (vR (mR M1 a3 l1.toNatClampNeg)), none] [] M1) ∧ (¬ (l3 ≠ 0) → R39 sl sx d M0 P 87 [some (vR (some l0)), some (vI l1), some (vI l2), some (vI l3), some (vI l4), some (vR (mR M1 a3 l1.toNatClampNeg)), none] [] M1) from ⟨fun hc => ?_, fun hc => ?_⟩)
    · replace h := h.1 hc
      exact RN_weak (K := [some (vR (some l0)), none, some (vI l2), some (vI l3), none, some (vR (mR M1 a3 l1.toNatClampNeg)), none]) (callX_det _) (show _ ∧ _ ∧ _ ∧ _ ∧ True from ⟨rfl, rfl, rfl, rfl, trivial⟩) (t39_92  l0 l2 l3 (mR M1 a3 l1.toNatClampNeg) _ hM h)
    · replace h := h.2 hc
      refine RN_k (callX_det _) 2 _ _ _ _ (show (l4 = 0 → R39 sl sx d M0 P 153 [some (vR (some l0)), some (vI l1), some (vI l2), some (vI l3), some (vI l4), some (vR (mR M1 a3 l1.toNatClampNeg)), none] [] M1) ∧ (¬ (l4 = 0) → R39 sl sx d M0 P 92 [some (vR (some l0)), some (vI l1), some (vI l2), some (vI l3), some (vI l4), some (vR (mR M1 a3 l1.toNatClampNeg)), none] [] M1) from ⟨fun hc => ?_, fun hc => ?_⟩)
      · replace h := h.1 hc
        refine RN_k (callX_det _) 2 _ _ _ _ (show (l2 ≠ 0 → R39 sl sx d M0 P 167 [some (vR (some l0)), some (vI l1), some (vI l2), some (vI l3), some (vI l4), some (vR (mR M1 a3 l1.toNatClampNeg)), none] [] M1) ∧ (¬ (l2 ≠ 0) → R39 sl sx d M0 P 157 [some (vR (some l0)), some (vI l1), some (vI l2), some (vI l3), some (vI l4), some (vR (mR M1 a3 l1.toNatClampNeg)), none] [] M1) from ⟨fun hc => ?_, fun hc => ?_⟩)
        · replace h := h.1 hc
          refine RN_k (callX_det _) 4 _ _ _ _ (show (l2 ≠ (1 : Int32) → R39 sl sx d M0 P 181 [some (vR (some l0)), some (vI l1), some (vI l2), some (vI l3), some (vI l4), some (vR (mR M1 a3 l1.toNatClampNeg)), none] [vR (some l0)] M1) ∧ (¬ (l2 ≠ (1 : Int32)) → R39 sl sx d M0 P 173 [some (vR (some l0)), some (vI l1), some (vI l2), some (vI l3), some (vI l4), some (vR (mR M1 a3 l1.toNatClampNeg)), none] [vR (some l0)] M1) from ⟨fun hc => ?_, fun hc => ?_⟩)
          · replace h := h.1 hc
            obtain ⟨a4, he, h⟩ := h
            refine RN_k (callX_det _) 1 _ _ _ _ (show R39 sl sx d M0 P 183 [some (vR (some l0)), some (vI l1), some (vI l2), some (vI l3), some (vI l4), some (vR (mR M1 a3 l1.toNatClampNeg)), none] [vR (mR M1 a3 l1.toNatClampNeg), vR (some l0)] M1 from ?_)
            rw [he]
            refine RN_k (callX_det _) 1 _ _ _ _ (show kd M1 a4 8 ∧ callX TBg sl sx (d + 2) 43 [vR (some a4)] M1 (fun v M9 => R39 sl sx d M0 P 186 [some (vR (some l0)), some (vI l1), some (vI l2), some (vI l3), some (vI l4), some (vR (some a4)), none] (pushO v [vR (some l0)]) M9) from ⟨h.1, ?_⟩)
            replace h := h.2
            refine callX_mono (callX_len (d := (d + 2)) rfl rfl rfl (c43 (d := d) h)) ?_
            clear h
            rintro v9 M5 ⟨hl, r6, rfl, h⟩
            replace hM := lenT hM hl
            show R39 sl sx d M0 P 186 [some (vR (some l0)), some (vI l1), some (vI l2), some (vI l3), some (vI l4), some (vR (some a4)), none] [vI r6, vR (some l0)] M5
            exact RN_weak (K := [none, none, none, none, none, none, none]) (callX_det _) (show True from trivial) (t39_186  (some l0) r6 _ hM h)
          · replace h := h.2 hc
            obtain ⟨a7, he, h⟩ := h
            refine RN_k (callX_det _) 1 _ _ _ _ (show R39 sl sx d M0 P 175 [some (vR (some l0)), some (vI l1), some (vI l2), some (vI l3), some (vI l4), some (vR (mR M1 a3 l1.toNatClampNeg)), none] [vR (mR M1 a3 l1.toNatClampNeg), vR (some l0)] M1 from ?_)
            rw [he]
            refine RN_k (callX_det _) 1 _ _ _ _ (show kd M1 a7 8 ∧ callX TBg sl sx (d + 2) 41 [vR (some a7)] M1 (fun v M9 => R39 sl sx d M0 P 178 [some (vR (some l0)), some (vI l1), some (vI l2), some (vI l3), some (vI l4), some (vR (some a7)), none] (pushO v [vR (some l0)]) M9) from ⟨h.1, ?_⟩)
            replace h := h.2
            refine callX_mono (callX_len (d := (d + 2)) rfl rfl rfl (c41 (d := d) h)) ?_
            clear h
            rintro v9 M8 ⟨hl, r9, rfl, h⟩
            replace hM := lenT hM hl
            show R39 sl sx d M0 P 178 [some (vR (some l0)), some (vI l1), some (vI l2), some (vI l3), some (vI l4), some (vR (some a7)), none] [vI r9, vR (some l0)] M8
            refine RN_k (callX_det _) 1 _ _ _ _ (show R39 sl sx d M0 P 186 [some (vR (some l0)), some (vI l1), some (vI l2), some (vI l3), some (vI l4), some (vR (some a7)), none] [vI r9, vR (some l0)] M8 from ?_)
            exact RN_weak (K := [none, none, none, none, none, none, none]) (callX_det _) (show True from trivial) (t39_186  (some l0) r9 _ hM h)
        · replace h := h.2 hc
          obtain ⟨a10, he, h⟩ := h
          refine RN_k (callX_det _) 2 _ _ _ _ (show R39 sl sx d M0 P 160 [some (vR (some l0)), some (vI l1), some (vI l2), some (vI l3), some (vI l4), some (vR (mR M1 a3 l1.toNatClampNeg)), none] [vR (mR M1 a3 l1.toNatClampNeg), vR (some l0)] M1 from ?_)
          rw [he]
          refine RN_k (callX_det _) 1 _ _ _ _ (show kd M1 a10 8 ∧ R39 sl sx d M0 P 163 [some (vR (some l0)), some (vI l1), some (vI l2), some (vI l3), some (vI l4), some (vR (some a10)), none] [vI (mI M1 a10 1), vR (some l0)] M1 from ⟨h.1, ?_⟩)
          replace h := h.2
          refine RN_k (callX_det _) 1 _ _ _ _ (show kd M1 l0 9 ∧ callX TBg sl sx (d + 2) 35 [vR (some l0), vI (mI M1 a10 1)] M1 (fun v M9 => R39 sl sx d M0 P 166 [some (vR (some l0)), some (vI l1), some (vI l2), some (vI l3), some (vI l4), some (vR (some a10)), none] (pushO v []) M9) from ⟨h.1, ?_⟩)
          replace h := h.2
          refine callX_mono (callX_len (d := (d + 2)) rfl rfl rfl (c35 (d := d + 1) h)) ?_
          clear h
          rintro v9 M11 ⟨hl, r12, rfl, h⟩
          replace hM := lenT hM hl
          show R39 sl sx d M0 P 166 [some (vR (some l0)), some (vI l1), some (vI l2), some (vI l3), some (vI l4), some (vR (some a10)), none] [vI r12] M11
          exact RN_k (callX_det _) 1 _ _ _ _ (show rtW q39 M0 (PI P) (some (vI r12)) M11 from ⟨⟨_, rfl⟩, hM.1, hM.2, _, rfl, h⟩)
      · replace h := h.2 hc
        exact RN_weak (K := [some (vR (some l0)), none, some (vI l2), some (vI l3), none, some (vR (mR M1 a3 l1.toNatClampNeg)), none]) (callX_det _) (show _ ∧ _ ∧ _ ∧ _ ∧ True from ⟨rfl, rfl, rfl, rfl, trivial⟩) (t39_92  l0 l2 l3 (mR M1 a3 l1.toNatClampNeg) _ hM h)
  · replace h := h.2 hc
    refine RN_k (callX_det _) 3 _ _ _ _ (show kd M1 l0 9 ∧ callX TBg sl sx (d + 2) 17 [vR (some l0), vI (2 : Int32)] M1 (fun v M9 => R39 sl sx d M0 P 74 [some (vR (some l0)), some (vI l1), some (vI l2), some (vI l3), some (vI l4), none, none] (pushO v []) M9) from ⟨h.1, ?_⟩)
    replace h := h.2
    refine callX_mono (callX_len (d := (d + 2)) rfl rfl rfl (c17 (d := d + 1) h)) ?_
    clear h
    rintro v9 M13 ⟨hl, r14, rfl, h⟩
    replace hM := lenT hM hl
    show R39 sl sx d M0 P 74 [some (vR (some l0)), some (vI l1), some (vI l2), some (vI l3), some (vI l4), none, none] [vI r14] M13
    exact RN_k (callX_det _) 1 _ _ _ _ (show rtW q39 M0 (PI P) (some (vI r14)) M13 from ⟨⟨_, rfl⟩, hM.1, hM.2, _, rfl, h⟩)
def w39_55 (l0 : Nat) (M : MM) (P : Int32 → MM → Prop) : Prop := kd M l0 9 ∧ w17 l0 (1 : Int32) M (fun r2 M1 => P r2 M1)
theorem t39_55 {sl : Nat} {sx : Nat → Int32} {d : Nat} {M0 : MM} {P : Int32 → MM → Prop} (l0 : Nat) (M : MM) (hM : lenO M0 M) (h : w39_55  l0 M P) : R39 sl sx d M0 P 55 [some (vR (some l0)), none, none, none, none, none, none] [] M := by
  refine RN_k (callX_det _) 3 _ _ _ _ (show kd M l0 9 ∧ callX TBg sl sx (d + 2) 17 [vR (some l0), vI (1 : Int32)] M (fun v M9 => R39 sl sx d M0 P 60 [some (vR (some l0)), none, none, none, none, none, none] (pushO v []) M9) from ⟨h.1, ?_⟩)
  replace h := h.2
  refine callX_mono (callX_len (d := (d + 2)) rfl rfl rfl (c17 (d := d + 1) h)) ?_
  clear h
  rintro v9 M1 ⟨hl, r2, rfl, h⟩
  replace hM := lenT hM hl
  show R39 sl sx d M0 P 60 [some (vR (some l0)), none, none, none, none, none, none] [vI r2] M1
  exact RN_k (callX_det _) 1 _ _ _ _ (show rtW q39 M0 (PI P) (some (vI r2)) M1 from ⟨⟨_, rfl⟩, hM.1, hM.2, _, rfl, h⟩)
def w39_35 (l0 : Nat) (l1 : Int32) (l2 : Int32) (l3 : Int32) (s0 : Int32) (M : MM) (P : Int32 → MM → Prop) : Prop := (l3 ≠ 0 → (w39_61  l0 l1 l2 l3 s0 M P)) ∧ (¬ (l3 ≠ 0) → ((s0 ≠ 0 → (w39_61  l0 l1 l2 l3 s0 M P)) ∧ (¬ (s0 ≠ 0) → ((l2 < 0 → (w39_55  l0 M P)) ∧ (¬ (l2 < 0) → ((l2 ≤ (2 : Int32) → (w39_61  l0 l1 l2 l3 s0 M P)) ∧ (¬ (l2 ≤ (2 : Int32)) → (w39_55  l0 M P))))))))
theorem t39_35 {sl : Nat} {sx : Nat → Int32} {d : Nat} {M0 : MM} {P : Int32 → MM → Prop} (l0 : Nat) (l1 : Int32) (l2 : Int32) (l3 : Int32) (s0 : Int32) (M : MM) (hM : lenO M0 M) (h : w39_35  l0 l1 l2 l3 s0 M P) : R39 sl sx d M0 P 35 [some (vR (some l0)), some (vI l1), some (vI l2), some (vI l3), none, none, none] [vI s0] M := by
  refine RN_k (callX_det _) 3 _ _ _ _ (show (l3 ≠ 0 → R39 sl sx d M0 P 61 [some (vR (some l0)), some (vI l1), some (vI l2), some (vI l3), some (vI s0), none, none] [] M) ∧ (¬ (l3 ≠ 0) → R39 sl sx d M0 P 41 [some (vR (some l0)), some (vI l1), some (vI l2), some (vI l3), some (vI s0), none, none] [] M) from ⟨fun hc => ?_, fun hc => ?_⟩)
  · replace h := h.1 hc
    exact RN_weak (K := [some (vR (some l0)), some (vI l1), some (vI l2), some (vI l3), some (vI s0), none, none]) (callX_det _) (show _ ∧ _ ∧ _ ∧ _ ∧ _ ∧ True from ⟨rfl, rfl, rfl, rfl, rfl, trivial⟩) (t39_61  l0 l1 l2 l3 s0 _ hM h)
  · replace h := h.2 hc
    refine RN_k (callX_det _) 2 _ _ _ _ (show (s0 ≠ 0 → R39 sl sx d M0 P 61 [some (vR (some l0)), some (vI l1), some (vI l2), some (vI l3), some (vI s0), none, none] [] M) ∧ (¬ (s0 ≠ 0) → R39 sl sx d M0 P 46 [some (vR (some l0)), some (vI l1), some (vI l2), some (vI l3), some (vI s0), none, none] [] M) from ⟨fun hc => ?_, fun hc => ?_⟩)
    · replace h := h.1 hc
      exact RN_weak (K := [some (vR (some l0)), some (vI l1), some (vI l2), some (vI l3), some (vI s0), none, none]) (callX_det _) (show _ ∧ _ ∧ _ ∧ _ ∧ _ ∧ True from ⟨rfl, rfl, rfl, rfl, rfl, trivial⟩) (t39_61  l0 l1 l2 l3 s0 _ hM h)
    · replace h := h.2 hc
      refine RN_k (callX_det _) 2 _ _ _ _ (show (l2 < 0 → R39 sl sx d M0 P 55 [some (vR (some l0)), some (vI l1), some (vI l2), some (vI l3), some (vI s0), none, none] [] M) ∧ (¬ (l2 < 0) → R39 sl sx d M0 P 50 [some (vR (some l0)), some (vI l1), some (vI l2), some (vI l3), some (vI s0), none, none] [] M) from ⟨fun hc => ?_, fun hc => ?_⟩)
      · replace h := h.1 hc
        exact RN_weak (K := [some (vR (some l0)), none, none, none, none, none, none]) (callX_det _) (show _ ∧ True from ⟨rfl, trivial⟩) (t39_55  l0 _ hM h)
      · replace h := h.2 hc
        refine RN_k (callX_det _) 3 _ _ _ _ (show (l2 ≤ (2 : Int32) → R39 sl sx d M0 P 61 [some (vR (some l0)), some (vI l1), some (vI l2), some (vI l3), some (vI s0), none, none] [] M) ∧ (¬ (l2 ≤ (2 : Int32)) → R39 sl sx d M0 P 55 [some (vR (some l0)), some (vI l1), some (vI l2), some (vI l3), some (vI s0), none, none] [] M) from ⟨fun hc => ?_, fun hc => ?_⟩)
        · replace h := h.1 hc
          exact RN_weak (K := [some (vR (some l0)), some (vI l1), some (vI l2), some (vI l3), some (vI s0), none, none]) (callX_det _) (show _ ∧ _ ∧ _ ∧ _ ∧ _ ∧ True from ⟨rfl, rfl, rfl, rfl, rfl, trivial⟩) (t39_61  l0 l1 l2 l3 s0 _ hM h)
        · replace h := h.2 hc
          exact RN_weak (K := [some (vR (some l0)), none, none, none, none, none, none]) (callX_det _) (show _ ∧ True from ⟨rfl, trivial⟩) (t39_55  l0 _ hM h)
def w39_34 (l0 : Nat) (l1 : Int32) (l2 : Int32) (l3 : Int32) (M : MM) (P : Int32 → MM → Prop) : Prop := w39_35  l0 l1 l2 l3 (0 : Int32) M P
theorem t39_34 {sl : Nat} {sx : Nat → Int32} {d : Nat} {M0 : MM} {P : Int32 → MM → Prop} (l0 : Nat) (l1 : Int32) (l2 : Int32) (l3 : Int32) (M : MM) (hM : lenO M0 M) (h : w39_34  l0 l1 l2 l3 M P) : R39 sl sx d M0 P 34 [some (vR (some l0)), some (vI l1), some (vI l2), some (vI l3), none, none, none] [] M := by
  refine RN_k (callX_det _) 1 _ _ _ _ (show R39 sl sx d M0 P 35 [some (vR (some l0)), some (vI l1), some (vI l2), some (vI l3), none, none, none] [vI (0 : Int32)] M from ?_)
  exact RN_weak (K := [some (vR (some l0)), some (vI l1), some (vI l2), some (vI l3), none, none, none]) (callX_det _) (show _ ∧ _ ∧ _ ∧ _ ∧ True from ⟨rfl, rfl, rfl, rfl, trivial⟩) (t39_35  l0 l1 l2 l3 (0 : Int32) _ hM h)
def w39_17 (l0 : Nat) (l1 : Int32) (l2 : Int32) (s0 : Int32) (M : MM) (P : Int32 → MM → Prop) : Prop := (l2 < (20 : Int32) → (w39_34  l0 l1 l2 s0 M P)) ∧ (¬ (l2 < (20 : Int32)) → (((28 : Int32) ≤ l2 → (w39_34  l0 l1 l2 s0 M P)) ∧ (¬ ((28 : Int32) ≤ l2) → (w39_35  l0 l1 l2 s0 (1 : Int32) M P))))
theorem t39_17 {sl : Nat} {sx : Nat → Int32} {d : Nat} {M0 : MM} {P : Int32 → MM → Prop} (l0 : Nat) (l1 : Int32) (l2 : Int32) (s0 : Int32) (M : MM) (hM : lenO M0 M) (h : w39_17  l0 l1 l2 s0 M P) : R39 sl sx d M0 P 17 [some (vR (some l0)), some (vI l1), some (vI l2), none, none, none, none] [vI s0] M := by
  refine RN_k (callX_det _) 4 _ _ _ _ (show (l2 < (20 : Int32) → R39 sl sx d M0 P 34 [some (vR (some l0)), some (vI l1), some (vI l2), some (vI s0), none, none, none] [] M) ∧ (¬ (l2 < (20 : Int32)) → R39 sl sx d M0 P 24 [some (vR (some l0)), some (vI l1), some (vI l2), some (vI s0), none, none, none] [] M) from ⟨fun hc => ?_, fun hc => ?_⟩)
  · replace h := h.1 hc
    exact RN_weak (K := [some (vR (some l0)), some (vI l1), some (vI l2), some (vI s0), none, none, none]) (callX_det _) (show _ ∧ _ ∧ _ ∧ _ ∧ True from ⟨rfl, rfl, rfl, rfl, trivial⟩) (t39_34  l0 l1 l2 s0 _ hM h)
  · replace h := h.2 hc
    refine RN_k (callX_det _) 3 _ _ _ _ (show ((28 : Int32) ≤ l2 → R39 sl sx d M0 P 34 [some (vR (some l0)), some (vI l1), some (vI l2), some (vI s0), none, none, none] [] M) ∧ (¬ ((28 : Int32) ≤ l2) → R39 sl sx d M0 P 30 [some (vR (some l0)), some (vI l1), some (vI l2), some (vI s0), none, none, none] [] M) from ⟨fun hc => ?_, fun hc => ?_⟩)
    · replace h := h.1 hc
      exact RN_weak (K := [some (vR (some l0)), some (vI l1), some (vI l2), some (vI s0), none, none, none]) (callX_det _) (show _ ∧ _ ∧ _ ∧ _ ∧ True from ⟨rfl, rfl, rfl, rfl, trivial⟩) (t39_34  l0 l1 l2 s0 _ hM h)
    · replace h := h.2 hc
      refine RN_k (callX_det _) 2 _ _ _ _ (show R39 sl sx d M0 P 35 [some (vR (some l0)), some (vI l1), some (vI l2), some (vI s0), none, none, none] [vI (1 : Int32)] M from ?_)
      exact RN_weak (K := [some (vR (some l0)), some (vI l1), some (vI l2), some (vI s0), none, none, none]) (callX_det _) (show _ ∧ _ ∧ _ ∧ _ ∧ True from ⟨rfl, rfl, rfl, rfl, trivial⟩) (t39_35  l0 l1 l2 s0 (1 : Int32) _ hM h)
def w39_16 (l0 : Nat) (l1 : Int32) (l2 : Int32) (M : MM) (P : Int32 → MM → Prop) : Prop := w39_17  l0 l1 l2 (0 : Int32) M P
theorem t39_16 {sl : Nat} {sx : Nat → Int32} {d : Nat} {M0 : MM} {P : Int32 → MM → Prop} (l0 : Nat) (l1 : Int32) (l2 : Int32) (M : MM) (hM : lenO M0 M) (h : w39_16  l0 l1 l2 M P) : R39 sl sx d M0 P 16 [some (vR (some l0)), some (vI l1), some (vI l2), none, none, none, none] [] M := by
  refine RN_k (callX_det _) 1 _ _ _ _ (show R39 sl sx d M0 P 17 [some (vR (some l0)), some (vI l1), some (vI l2), none, none, none, none] [vI (0 : Int32)] M from ?_)
  exact RN_weak (K := [some (vR (some l0)), some (vI l1), some (vI l2), none, none, none, none]) (callX_det _) (show _ ∧ _ ∧ _ ∧ True from ⟨rfl, rfl, rfl, trivial⟩) (t39_17  l0 l1 l2 (0 : Int32) _ hM h)
def w39 (l0 : Nat) (l1 : Int32) (l2 : Int32) (M : MM) (P : Int32 → MM → Prop) : Prop := (l2 < (10 : Int32) → (w39_16  l0 l1 l2 M P)) ∧ (¬ (l2 < (10 : Int32)) → (((18 : Int32) ≤ l2 → (w39_16  l0 l1 l2 M P)) ∧ (¬ ((18 : Int32) ≤ l2) → (w39_17  l0 l1 l2 (1 : Int32) M P))))
theorem t39_E {sl : Nat} {sx : Nat → Int32} {d : Nat} {M0 : MM} {P : Int32 → MM → Prop} (l0 : Nat) (l1 : Int32) (l2 : Int32) (M : MM) (hM : lenO M0 M) (h : w39  l0 l1 l2 M P) : R39 sl sx d M0 P 0 [some (vR (some l0)), some (vI l1), some (vI l2), none, none, none, none] [] M := by
  refine RN_k (callX_det _) 3 _ _ _ _ (show (l2 < (10 : Int32) → R39 sl sx d M0 P 16 [some (vR (some l0)), some (vI l1), some (vI l2), none, none, none, none] [] M) ∧ (¬ (l2 < (10 : Int32)) → R39 sl sx d M0 P 6 [some (vR (some l0)), some (vI l1), some (vI l2), none, none, none, none] [] M) from ⟨fun hc => ?_, fun hc => ?_⟩)
  · replace h := h.1 hc
    exact RN_weak (K := [some (vR (some l0)), some (vI l1), some (vI l2), none, none, none, none]) (callX_det _) (show _ ∧ _ ∧ _ ∧ True from ⟨rfl, rfl, rfl, trivial⟩) (t39_16  l0 l1 l2 _ hM h)
  · replace h := h.2 hc
    refine RN_k (callX_det _) 3 _ _ _ _ (show ((18 : Int32) ≤ l2 → R39 sl sx d M0 P 16 [some (vR (some l0)), some (vI l1), some (vI l2), none, none, none, none] [] M) ∧ (¬ ((18 : Int32) ≤ l2) → R39 sl sx d M0 P 12 [some (vR (some l0)), some (vI l1), some (vI l2), none, none, none, none] [] M) from ⟨fun hc => ?_, fun hc => ?_⟩)
    · replace h := h.1 hc
      exact RN_weak (K := [some (vR (some l0)), some (vI l1), some (vI l2), none, none, none, none]) (callX_det _) (show _ ∧ _ ∧ _ ∧ True from ⟨rfl, rfl, rfl, trivial⟩) (t39_16  l0 l1 l2 _ hM h)
    · replace h := h.2 hc
      refine RN_k (callX_det _) 2 _ _ _ _ (show R39 sl sx d M0 P 17 [some (vR (some l0)), some (vI l1), some (vI l2), none, none, none, none] [vI (1 : Int32)] M from ?_)
      exact RN_weak (K := [some (vR (some l0)), some (vI l1), some (vI l2), none, none, none, none]) (callX_det _) (show _ ∧ _ ∧ _ ∧ True from ⟨rfl, rfl, rfl, trivial⟩) (t39_17  l0 l1 l2 (1 : Int32) _ hM h)
theorem c39 {sl : Nat} {sx : Nat → Int32} {d : Nat} {l0 : Nat} {l1 : Int32} {l2 : Int32} {M : MM} {P : Int32 → MM → Prop} (h : w39 l0 l1 l2 M P) : callX TBg sl sx (d + 3) 39 [vR (some l0), vI l1, vI l2] M (PI P) :=
  cX (d := d + 2) q39 (false, tb39) rfl rfl rfl (t39_E l0 l1 l2 M lenR h)
-- TwoLeash.isPoint(II)Z
abbrev q45 : MQ7 := (3, 1, 3, 9, 0, 0, 4)
abbrev R45 (sl : Nat) (sx : Nat → Int32) (d : Nat) (M0 : MM) (P : Int32 → MM → Prop) : Nat → LL → List VV → MM → Prop := RN 9 false (mS M0).length (mT M0) 0 0 sl sx (callX TBg sl sx (d + 1)) (rtW q45 M0 (PI P)) (as2 tb45)
def w45_30 (s0 : Int32) (M : MM) (P : Int32 → MM → Prop) : Prop := (s0 = 0 ∨ s0 = 1) ∧ P s0 M
theorem t45_30 {sl : Nat} {sx : Nat → Int32} {d : Nat} {M0 : MM} {P : Int32 → MM → Prop} (s0 : Int32) (M : MM) (hM : lenO M0 M) (h : w45_30  s0 M P) : R45 sl sx d M0 P 30 [none, none, none] [vI s0] M := by
  exact RN_k (callX_det _) 1 _ _ _ _ (show rtW q45 M0 (PI P) (some (vI s0)) M from ⟨⟨_, rfl, h.1⟩, hM.1, hM.2, _, rfl, h.2⟩)
def w45_29 (M : MM) (P : Int32 → MM → Prop) : Prop := w45_30  (0 : Int32) M P
theorem t45_29 {sl : Nat} {sx : Nat → Int32} {d : Nat} {M0 : MM} {P : Int32 → MM → Prop}  (M : MM) (hM : lenO M0 M) (h : w45_29   M P) : R45 sl sx d M0 P 29 [none, none, none] [] M := by
  refine RN_k (callX_det _) 1 _ _ _ _ (show R45 sl sx d M0 P 30 [none, none, none] [vI (0 : Int32)] M from ?_)
  exact RN_weak (K := [none, none, none]) (callX_det _) (show True from trivial) (t45_30  (0 : Int32) _ hM h)
def w45 (l0 : Nat) (l1 : Int32) (l2 : Int32) (M : MM) (P : Int32 → MM → Prop) : Prop := kd M l0 9 ∧ w40 l0 l1 M (fun r2 M1 => (r2 = 0 → (w45_29  M1 P)) ∧ (¬ (r2 = 0) → ((l2 < 0 → (w45_29  M1 P)) ∧ (¬ (l2 < 0) → (kd M1 l0 9 ∧ (∃ a3, mR M1 l0 5 = some a3 ∧ (inb M1 a3 16 l1 ∧ (∃ a4, mR M1 a3 l1.toNatClampNeg = some a4 ∧ (kd M1 a4 8 ∧ (((mI M1 a4 1) ≤ l2 → (w45_29  M1 P)) ∧ (¬ ((mI M1 a4 1) ≤ l2) → (w45_30  (1 : Int32) M1 P))))))))))))
theorem t45_E {sl : Nat} {sx : Nat → Int32} {d : Nat} {M0 : MM} {P : Int32 → MM → Prop} (l0 : Nat) (l1 : Int32) (l2 : Int32) (M : MM) (hM : lenO M0 M) (h : w45  l0 l1 l2 M P) : R45 sl sx d M0 P 0 [some (vR (some l0)), some (vI l1), some (vI l2)] [] M := by
  refine RN_k (callX_det _) 3 _ _ _ _ (show kd M l0 9 ∧ callX TBg sl sx (d + 1) 40 [vR (some l0), vI l1] M (fun v M9 => R45 sl sx d M0 P 5 [some (vR (some l0)), some (vI l1), some (vI l2)] (pushO v []) M9) from ⟨h.1, ?_⟩)
  replace h := h.2
  refine callX_mono (callX_len (d := (d + 1)) rfl rfl rfl (c40 (d := d) h)) ?_
  clear h
  rintro v9 M1 ⟨hl, r2, rfl, h⟩
  replace hM := lenT hM hl
  show R45 sl sx d M0 P 5 [some (vR (some l0)), some (vI l1), some (vI l2)] [vI r2] M1
  refine RN_k (callX_det _) 1 _ _ _ _ (show (r2 = 0 → R45 sl sx d M0 P 29 [some (vR (some l0)), some (vI l1), some (vI l2)] [] M1) ∧ (¬ (r2 = 0) → R45 sl sx d M0 P 8 [some (vR (some l0)), some (vI l1), some (vI l2)] [] M1) from ⟨fun hc => ?_, fun hc => ?_⟩)
  · replace h := h.1 hc
    exact RN_weak (K := [none, none, none]) (callX_det _) (show True from trivial) (t45_29   _ hM h)
  · replace h := h.2 hc
    refine RN_k (callX_det _) 2 _ _ _ _ (show (l2 < 0 → R45 sl sx d M0 P 29 [some (vR (some l0)), some (vI l1), some (vI l2)] [] M1) ∧ (¬ (l2 < 0) → R45 sl sx d M0 P 12 [some (vR (some l0)), some (vI l1), some (vI l2)] [] M1) from ⟨fun hc => ?_, fun hc => ?_⟩)
    · replace h := h.1 hc
      exact RN_weak (K := [none, none, none]) (callX_det _) (show True from trivial) (t45_29   _ hM h)
    · replace h := h.2 hc
      refine RN_k (callX_det _) 3 _ _ _ _ (show kd M1 l0 9 ∧ R45 sl sx d M0 P 17 [some (vR (some l0)), some (vI l1), some (vI l2)] [vR (mR M1 l0 5), vI l2] M1 from ⟨h.1, ?_⟩)
      replace h := h.2
      obtain ⟨a3, he, h⟩ := h
      refine RN_k (callX_det _) 1 _ _ _ _ (show R45 sl sx d M0 P 18 [some (vR (some l0)), some (vI l1), some (vI l2)] [vI l1, vR (mR M1 l0 5), vI l2] M1 from ?_)
      rw [he]
      refine RN_k (callX_det _) 1 _ _ _ _ (show inb M1 a3 16 l1 ∧ R45 sl sx d M0 P 19 [some (vR (some l0)), some (vI l1), some (vI l2)] [vR (mR M1 a3 l1.toNatClampNeg), vI l2] M1 from ⟨h.1, ?_⟩)
      replace h := h.2
      obtain ⟨a4, he, h⟩ := h
      rw [he]
      refine RN_k (callX_det _) 1 _ _ _ _ (show kd M1 a4 8 ∧ R45 sl sx d M0 P 22 [some (vR (some l0)), some (vI l1), some (vI l2)] [vI (mI M1 a4 1), vI l2] M1 from ⟨h.1, ?_⟩)
      replace h := h.2
      refine RN_k (callX_det _) 1 _ _ _ _ (show ((mI M1 a4 1) ≤ l2 → R45 sl sx d M0 P 29 [some (vR (some l0)), some (vI l1), some (vI l2)] [] M1) ∧ (¬ ((mI M1 a4 1) ≤ l2) → R45 sl sx d M0 P 25 [some (vR (some l0)), some (vI l1), some (vI l2)] [] M1) from ⟨fun hc => ?_, fun hc => ?_⟩)
      · replace h := h.1 hc
        exact RN_weak (K := [none, none, none]) (callX_det _) (show True from trivial) (t45_29   _ hM h)
      · replace h := h.2 hc
        refine RN_k (callX_det _) 2 _ _ _ _ (show R45 sl sx d M0 P 30 [some (vR (some l0)), some (vI l1), some (vI l2)] [vI (1 : Int32)] M1 from ?_)
        exact RN_weak (K := [none, none, none]) (callX_det _) (show True from trivial) (t45_30  (1 : Int32) _ hM h)
theorem c45 {sl : Nat} {sx : Nat → Int32} {d : Nat} {l0 : Nat} {l1 : Int32} {l2 : Int32} {M : MM} {P : Int32 → MM → Prop} (h : w45 l0 l1 l2 M P) : callX TBg sl sx (d + 2) 45 [vR (some l0), vI l1, vI l2] M (PI P) :=
  cX (d := d + 1) q45 (false, tb45) rfl rfl rfl (t45_E l0 l1 l2 M lenR h)
-- TwoLeash.square(IIII)I
abbrev q44 : MQ7 := (5, 1, 5, 9, 0, 0, 1)
abbrev R44 (sl : Nat) (sx : Nat → Int32) (d : Nat) (M0 : MM) (P : Int32 → MM → Prop) : Nat → LL → List VV → MM → Prop := RN 9 false (mS M0).length (mT M0) 0 0 sl sx (callX TBg sl sx (d + 2)) (rtW q44 M0 (PI P)) (as2 tb44)
def w44_19 (l0 : Nat) (M : MM) (P : Int32 → MM → Prop) : Prop := kd M l0 9 ∧ w17 l0 (2 : Int32) M (fun r2 M1 => P r2 M1)
theorem t44_19 {sl : Nat} {sx : Nat → Int32} {d : Nat} {M0 : MM} {P : Int32 → MM → Prop} (l0 : Nat) (M : MM) (hM : lenO M0 M) (h : w44_19  l0 M P) : R44 sl sx d M0 P 19 [some (vR (some l0)), none, none, none, none] [] M := by
  refine RN_k (callX_det _) 3 _ _ _ _ (show kd M l0 9 ∧ callX TBg sl sx (d + 2) 17 [vR (some l0), vI (2 : Int32)] M (fun v M9 => R44 sl sx d M0 P 24 [some (vR (some l0)), none, none, none, none] (pushO v []) M9) from ⟨h.1, ?_⟩)
  replace h := h.2
  refine callX_mono (callX_len (d := (d + 2)) rfl rfl rfl (c17 (d := d + 1) h)) ?_
  clear h
  rintro v9 M1 ⟨hl, r2, rfl, h⟩
  replace hM := lenT hM hl
  show R44 sl sx d M0 P 24 [some (vR (some l0)), none, none, none, none] [vI r2] M1
  exact RN_k (callX_det _) 1 _ _ _ _ (show rtW q44 M0 (PI P) (some (vI r2)) M1 from ⟨⟨_, rfl⟩, hM.1, hM.2, _, rfl, h⟩)
def w44 (l0 : Nat) (l1 : Int32) (l2 : Int32) (l3 : Int32) (l4 : Int32) (M : MM) (P : Int32 → MM → Prop) : Prop := kd M l0 9 ∧ w45 l0 l1 l2 M (fun r2 M1 => (r2 = 0 → (w44_19  l0 M1 P)) ∧ (¬ (r2 = 0) → (kd M1 l0 9 ∧ w45 l0 l3 l4 M1 (fun r4 M3 => (r4 ≠ 0 → (kd M3 l0 9 ∧ (∃ a5, mR M3 l0 5 = some a5 ∧ (inb M3 a5 16 l1 ∧ (kd M3 l0 9 ∧ (∃ a6, mR M3 l0 5 = some a6 ∧ (inb M3 a6 16 l3 ∧ (∃ a7, mR M3 a5 l1.toNatClampNeg = some a7 ∧ (kd M3 a7 8 ∧ w42 a7 l2 (mR M3 a6 l3.toNatClampNeg) l4 M3 (fun r9 M8 => kd M8 l0 9 ∧ w35 l0 r9 M8 (fun r11 M10 => P r11 M10))))))))))) ∧ (¬ (r4 ≠ 0) → (w44_19  l0 M3 P))))))
theorem t44_E {sl : Nat} {sx : Nat → Int32} {d : Nat} {M0 : MM} {P : Int32 → MM → Prop} (l0 : Nat) (l1 : Int32) (l2 : Int32) (l3 : Int32) (l4 : Int32) (M : MM) (hM : lenO M0 M) (h : w44  l0 l1 l2 l3 l4 M P) : R44 sl sx d M0 P 0 [some (vR (some l0)), some (vI l1), some (vI l2), some (vI l3), some (vI l4)] [] M := by
  refine RN_k (callX_det _) 4 _ _ _ _ (show kd M l0 9 ∧ callX TBg sl sx (d + 2) 45 [vR (some l0), vI l1, vI l2] M (fun v M9 => R44 sl sx d M0 P 6 [some (vR (some l0)), some (vI l1), some (vI l2), some (vI l3), some (vI l4)] (pushO v []) M9) from ⟨h.1, ?_⟩)
  replace h := h.2
  refine callX_mono (callX_len (d := (d + 2)) rfl rfl rfl (c45 (d := d) h)) ?_
  clear h
  rintro v9 M1 ⟨hl, r2, rfl, h⟩
  replace hM := lenT hM hl
  show R44 sl sx d M0 P 6 [some (vR (some l0)), some (vI l1), some (vI l2), some (vI l3), some (vI l4)] [vI r2] M1
  refine RN_k (callX_det _) 1 _ _ _ _ (show (r2 = 0 → R44 sl sx d M0 P 19 [some (vR (some l0)), some (vI l1), some (vI l2), some (vI l3), some (vI l4)] [] M1) ∧ (¬ (r2 = 0) → R44 sl sx d M0 P 9 [some (vR (some l0)), some (vI l1), some (vI l2), some (vI l3), some (vI l4)] [] M1) from ⟨fun hc => ?_, fun hc => ?_⟩)
  · replace h := h.1 hc
    exact RN_weak (K := [some (vR (some l0)), none, none, none, none]) (callX_det _) (show _ ∧ True from ⟨rfl, trivial⟩) (t44_19  l0 _ hM h)
  · replace h := h.2 hc
    refine RN_k (callX_det _) 4 _ _ _ _ (show kd M1 l0 9 ∧ callX TBg sl sx (d + 2) 45 [vR (some l0), vI l3, vI l4] M1 (fun v M9 => R44 sl sx d M0 P 16 [some (vR (some l0)), some (vI l1), some (vI l2), some (vI l3), some (vI l4)] (pushO v []) M9) from ⟨h.1, ?_⟩)
    replace h := h.2
    refine callX_mono (callX_len (d := (d + 2)) rfl rfl rfl (c45 (d := d) h)) ?_
    clear h
    rintro v9 M3 ⟨hl, r4, rfl, h⟩
    replace hM := lenT hM hl
    show R44 sl sx d M0 P 16 [some (vR (some l0)), some (vI l1), some (vI l2), some (vI l3), some (vI l4)] [vI r4] M3
    refine RN_k (callX_det _) 1 _ _ _ _ (show (r4 ≠ 0 → R44 sl sx d M0 P 25 [some (vR (some l0)), some (vI l1), some (vI l2), some (vI l3), some (vI l4)] [] M3) ∧ (¬ (r4 ≠ 0) → R44 sl sx d M0 P 19 [some (vR (some l0)), some (vI l1), some (vI l2), some (vI l3), some (vI l4)] [] M3) from ⟨fun hc => ?_, fun hc => ?_⟩)
    · replace h := h.1 hc
      refine RN_k (callX_det _) 3 _ _ _ _ (show kd M3 l0 9 ∧ R44 sl sx d M0 P 30 [some (vR (some l0)), some (vI l1), some (vI l2), some (vI l3), some (vI l4)] [vR (mR M3 l0 5), vR (some l0)] M3 from ⟨h.1, ?_⟩)
      replace h := h.2
      obtain ⟨a5, he, h⟩ := h
      refine RN_k (callX_det _) 1 _ _ _ _ (show R44 sl sx d M0 P 31 [some (vR (some l0)), some (vI l1), some (vI l2), some (vI l3), some (vI l4)] [vI l1, vR (mR M3 l0 5), vR (some l0)] M3 from ?_)
      rw [he]
      refine RN_k (callX_det _) 1 _ _ _ _ (show inb M3 a5 16 l1 ∧ R44 sl sx d M0 P 32 [some (vR (some l0)), some (vI l1), some (vI l2), some (vI l3), some (vI l4)] [vR (mR M3 a5 l1.toNatClampNeg), vR (some l0)] M3 from ⟨h.1, ?_⟩)
      replace h := h.2
      refine RN_k (callX_det _) 3 _ _ _ _ (show kd M3 l0 9 ∧ R44 sl sx d M0 P 37 [some (vR (some l0)), some (vI l1), some (vI l2), some (vI l3), some (vI l4)] [vR (mR M3 l0 5), vI l2, vR (mR M3 a5 l1.toNatClampNeg), vR (some l0)] M3 from ⟨h.1, ?_⟩)
      replace h := h.2
      obtain ⟨a6, he, h⟩ := h
      refine RN_k (callX_det _) 1 _ _ _ _ (show R44 sl sx d M0 P 38 [some (vR (some l0)), some (vI l1), some (vI l2), some (vI l3), some (vI l4)] [vI l3, vR (mR M3 l0 5), vI l2, vR (mR M3 a5 l1.toNatClampNeg), vR (some l0)] M3 from ?_)
      rw [he]
      refine RN_k (callX_det _) 1 _ _ _ _ (show inb M3 a6 16 l3 ∧ R44 sl sx d M0 P 39 [some (vR (some l0)), some (vI l1), some (vI l2), some (vI l3), some (vI l4)] [vR (mR M3 a6 l3.toNatClampNeg), vI l2, vR (mR M3 a5 l1.toNatClampNeg), vR (some l0)] M3 from ⟨h.1, ?_⟩)
      replace h := h.2
      obtain ⟨a7, he, h⟩ := h
      refine RN_k (callX_det _) 1 _ _ _ _ (show R44 sl sx d M0 P 41 [some (vR (some l0)), some (vI l1), some (vI l2), some (vI l3), some (vI l4)] [vI l4, vR (mR M3 a6 l3.toNatClampNeg), vI l2, vR (mR M3 a5 l1.toNatClampNeg), vR (some l0)] M3 from ?_)
      rw [he]
      refine RN_k (callX_det _) 1 _ _ _ _ (show kd M3 a7 8 ∧ callX TBg sl sx (d + 2) 42 [vR (some a7), vI l2, vR (mR M3 a6 l3.toNatClampNeg), vI l4] M3 (fun v M9 => R44 sl sx d M0 P 44 [some (vR (some l0)), some (vI l1), some (vI l2), some (vI l3), some (vI l4)] (pushO v [vR (some l0)]) M9) from ⟨h.1, ?_⟩)
      replace h := h.2
      refine callX_mono (callX_len (d := (d + 2)) rfl rfl rfl (c42 (d := d + 1) h)) ?_
      clear h
      rintro v9 M8 ⟨hl, r9, rfl, h⟩
      replace hM := lenT hM hl
      show R44 sl sx d M0 P 44 [some (vR (some l0)), some (vI l1), some (vI l2), some (vI l3), some (vI l4)] [vI r9, vR (some l0)] M8
      refine RN_k (callX_det _) 1 _ _ _ _ (show kd M8 l0 9 ∧ callX TBg sl sx (d + 2) 35 [vR (some l0), vI r9] M8 (fun v M9 => R44 sl sx d M0 P 47 [some (vR (some l0)), some (vI l1), some (vI l2), some (vI l3), some (vI l4)] (pushO v []) M9) from ⟨h.1, ?_⟩)
      replace h := h.2
      refine callX_mono (callX_len (d := (d + 2)) rfl rfl rfl (c35 (d := d + 1) h)) ?_
      clear h
      rintro v9 M10 ⟨hl, r11, rfl, h⟩
      replace hM := lenT hM hl
      show R44 sl sx d M0 P 47 [some (vR (some l0)), some (vI l1), some (vI l2), some (vI l3), some (vI l4)] [vI r11] M10
      exact RN_k (callX_det _) 1 _ _ _ _ (show rtW q44 M0 (PI P) (some (vI r11)) M10 from ⟨⟨_, rfl⟩, hM.1, hM.2, _, rfl, h⟩)
    · replace h := h.2 hc
      exact RN_weak (K := [some (vR (some l0)), none, none, none, none]) (callX_det _) (show _ ∧ True from ⟨rfl, trivial⟩) (t44_19  l0 _ hM h)
theorem c44 {sl : Nat} {sx : Nat → Int32} {d : Nat} {l0 : Nat} {l1 : Int32} {l2 : Int32} {l3 : Int32} {l4 : Int32} {M : MM} {P : Int32 → MM → Prop} (h : w44 l0 l1 l2 l3 l4 M P) : callX TBg sl sx (d + 3) 44 [vR (some l0), vI l1, vI l2, vI l3, vI l4] M (PI P) :=
  cX (d := d + 2) q44 (false, tb44) rfl rfl rfl (t44_E l0 l1 l2 l3 l4 M lenR h)
-- TwoLeash.isEdge(II)Z
abbrev q47 : MQ7 := (3, 1, 3, 9, 0, 0, 4)
abbrev R47 (sl : Nat) (sx : Nat → Int32) (d : Nat) (M0 : MM) (P : Int32 → MM → Prop) : Nat → LL → List VV → MM → Prop := RN 9 false (mS M0).length (mT M0) 0 0 sl sx (callX TBg sl sx (d + 1)) (rtW q47 M0 (PI P)) (as2 tb47)
def w47_32 (s0 : Int32) (M : MM) (P : Int32 → MM → Prop) : Prop := (s0 = 0 ∨ s0 = 1) ∧ P s0 M
theorem t47_32 {sl : Nat} {sx : Nat → Int32} {d : Nat} {M0 : MM} {P : Int32 → MM → Prop} (s0 : Int32) (M : MM) (hM : lenO M0 M) (h : w47_32  s0 M P) : R47 sl sx d M0 P 32 [none, none, none] [vI s0] M := by
  exact RN_k (callX_det _) 1 _ _ _ _ (show rtW q47 M0 (PI P) (some (vI s0)) M from ⟨⟨_, rfl, h.1⟩, hM.1, hM.2, _, rfl, h.2⟩)
def w47_31 (M : MM) (P : Int32 → MM → Prop) : Prop := w47_32  (0 : Int32) M P
theorem t47_31 {sl : Nat} {sx : Nat → Int32} {d : Nat} {M0 : MM} {P : Int32 → MM → Prop}  (M : MM) (hM : lenO M0 M) (h : w47_31   M P) : R47 sl sx d M0 P 31 [none, none, none] [] M := by
  refine RN_k (callX_det _) 1 _ _ _ _ (show R47 sl sx d M0 P 32 [none, none, none] [vI (0 : Int32)] M from ?_)
  exact RN_weak (K := [none, none, none]) (callX_det _) (show True from trivial) (t47_32  (0 : Int32) _ hM h)
def w47 (l0 : Nat) (l1 : Int32) (l2 : Int32) (M : MM) (P : Int32 → MM → Prop) : Prop := kd M l0 9 ∧ w40 l0 l1 M (fun r2 M1 => (r2 = 0 → (w47_31  M1 P)) ∧ (¬ (r2 = 0) → ((l2 < 0 → (w47_31  M1 P)) ∧ (¬ (l2 < 0) → (kd M1 l0 9 ∧ (∃ a3, mR M1 l0 5 = some a3 ∧ (inb M1 a3 16 l1 ∧ (∃ a4, mR M1 a3 l1.toNatClampNeg = some a4 ∧ (kd M1 a4 8 ∧ ((((mI M1 a4 1) - (1 : Int32)) ≤ l2 → (w47_31  M1 P)) ∧ (¬ (((mI M1 a4 1) - (1 : Int32)) ≤ l2) → (w47_32  (1 : Int32) M1 P))))))))))))
theorem t47_E {sl : Nat} {sx : Nat → Int32} {d : Nat} {M0 : MM} {P : Int32 → MM → Prop} (l0 : Nat) (l1 : Int32) (l2 : Int32) (M : MM) (hM : lenO M0 M) (h : w47  l0 l1 l2 M P) : R47 sl sx d M0 P 0 [some (vR (some l0)), some (vI l1), some (vI l2)] [] M := by
  refine RN_k (callX_det _) 3 _ _ _ _ (show kd M l0 9 ∧ callX TBg sl sx (d + 1) 40 [vR (some l0), vI l1] M (fun v M9 => R47 sl sx d M0 P 5 [some (vR (some l0)), some (vI l1), some (vI l2)] (pushO v []) M9) from ⟨h.1, ?_⟩)
  replace h := h.2
  refine callX_mono (callX_len (d := (d + 1)) rfl rfl rfl (c40 (d := d) h)) ?_
  clear h
  rintro v9 M1 ⟨hl, r2, rfl, h⟩
  replace hM := lenT hM hl
  show R47 sl sx d M0 P 5 [some (vR (some l0)), some (vI l1), some (vI l2)] [vI r2] M1
  refine RN_k (callX_det _) 1 _ _ _ _ (show (r2 = 0 → R47 sl sx d M0 P 31 [some (vR (some l0)), some (vI l1), some (vI l2)] [] M1) ∧ (¬ (r2 = 0) → R47 sl sx d M0 P 8 [some (vR (some l0)), some (vI l1), some (vI l2)] [] M1) from ⟨fun hc => ?_, fun hc => ?_⟩)
  · replace h := h.1 hc
    exact RN_weak (K := [none, none, none]) (callX_det _) (show True from trivial) (t47_31   _ hM h)
  · replace h := h.2 hc
    refine RN_k (callX_det _) 2 _ _ _ _ (show (l2 < 0 → R47 sl sx d M0 P 31 [some (vR (some l0)), some (vI l1), some (vI l2)] [] M1) ∧ (¬ (l2 < 0) → R47 sl sx d M0 P 12 [some (vR (some l0)), some (vI l1), some (vI l2)] [] M1) from ⟨fun hc => ?_, fun hc => ?_⟩)
    · replace h := h.1 hc
      exact RN_weak (K := [none, none, none]) (callX_det _) (show True from trivial) (t47_31   _ hM h)
    · replace h := h.2 hc
      refine RN_k (callX_det _) 3 _ _ _ _ (show kd M1 l0 9 ∧ R47 sl sx d M0 P 17 [some (vR (some l0)), some (vI l1), some (vI l2)] [vR (mR M1 l0 5), vI l2] M1 from ⟨h.1, ?_⟩)
      replace h := h.2
      obtain ⟨a3, he, h⟩ := h
      refine RN_k (callX_det _) 1 _ _ _ _ (show R47 sl sx d M0 P 18 [some (vR (some l0)), some (vI l1), some (vI l2)] [vI l1, vR (mR M1 l0 5), vI l2] M1 from ?_)
      rw [he]
      refine RN_k (callX_det _) 1 _ _ _ _ (show inb M1 a3 16 l1 ∧ R47 sl sx d M0 P 19 [some (vR (some l0)), some (vI l1), some (vI l2)] [vR (mR M1 a3 l1.toNatClampNeg), vI l2] M1 from ⟨h.1, ?_⟩)
      replace h := h.2
      obtain ⟨a4, he, h⟩ := h
      rw [he]
      refine RN_k (callX_det _) 1 _ _ _ _ (show kd M1 a4 8 ∧ R47 sl sx d M0 P 22 [some (vR (some l0)), some (vI l1), some (vI l2)] [vI (mI M1 a4 1), vI l2] M1 from ⟨h.1, ?_⟩)
      replace h := h.2
      refine RN_k (callX_det _) 3 _ _ _ _ (show (((mI M1 a4 1) - (1 : Int32)) ≤ l2 → R47 sl sx d M0 P 31 [some (vR (some l0)), some (vI l1), some (vI l2)] [] M1) ∧ (¬ (((mI M1 a4 1) - (1 : Int32)) ≤ l2) → R47 sl sx d M0 P 27 [some (vR (some l0)), some (vI l1), some (vI l2)] [] M1) from ⟨fun hc => ?_, fun hc => ?_⟩)
      · replace h := h.1 hc
        exact RN_weak (K := [none, none, none]) (callX_det _) (show True from trivial) (t47_31   _ hM h)
      · replace h := h.2 hc
        refine RN_k (callX_det _) 2 _ _ _ _ (show R47 sl sx d M0 P 32 [some (vR (some l0)), some (vI l1), some (vI l2)] [vI (1 : Int32)] M1 from ?_)
        exact RN_weak (K := [none, none, none]) (callX_det _) (show True from trivial) (t47_32  (1 : Int32) _ hM h)
theorem c47 {sl : Nat} {sx : Nat → Int32} {d : Nat} {l0 : Nat} {l1 : Int32} {l2 : Int32} {M : MM} {P : Int32 → MM → Prop} (h : w47 l0 l1 l2 M P) : callX TBg sl sx (d + 2) 47 [vR (some l0), vI l1, vI l2] M (PI P) :=
  cX (d := d + 1) q47 (false, tb47) rfl rfl rfl (t47_E l0 l1 l2 M lenR h)
-- TwoLeash.deny(I)Z
abbrev q48 : MQ7 := (2, 1, 2, 9, 0, 0, 4)
abbrev R48 (sl : Nat) (sx : Nat → Int32) (d : Nat) (M0 : MM) (P : Int32 → MM → Prop) : Nat → LL → List VV → MM → Prop := RN 9 false (mS M0).length (mT M0) 0 0 sl sx (callX TBg sl sx (d + 0)) (rtW q48 M0 (PI P)) (as2 tb48)
def w48 (l0 : Nat) (l1 : Int32) (M : MM) (P : Int32 → MM → Prop) : Prop := kd M l0 9 ∧ (P (0 : Int32) (sI M l0 10 l1))
theorem t48_E {sl : Nat} {sx : Nat → Int32} {d : Nat} {M0 : MM} {P : Int32 → MM → Prop} (l0 : Nat) (l1 : Int32) (M : MM) (hM : lenO M0 M) (h : w48  l0 l1 M P) : R48 sl sx d M0 P 0 [some (vR (some l0)), some (vI l1)] [] M := by
  refine RN_k (callX_det _) 3 _ _ _ _ (show kd M l0 9 ∧ R48 sl sx d M0 P 5 [some (vR (some l0)), some (vI l1)] [] (sI M l0 10 l1) from ⟨h.1, ?_⟩)
  replace h := h.2
  exact RN_k (callX_det _) 2 _ _ _ _ (show rtW q48 M0 (PI P) (some (vI (0 : Int32))) (sI M l0 10 l1) from ⟨⟨_, rfl, Or.inl rfl⟩, hM.1, hM.2, _, rfl, h⟩)
theorem c48 {sl : Nat} {sx : Nat → Int32} {d : Nat} {l0 : Nat} {l1 : Int32} {M : MM} {P : Int32 → MM → Prop} (h : w48 l0 l1 M P) : callX TBg sl sx (d + 1) 48 [vR (some l0), vI l1] M (PI P) :=
  cX (d := d + 0) q48 (false, tb48) rfl rfl rfl (t48_E l0 l1 M lenR h)
-- TwoLeash$Side.stretch(LTwoLeash$Track;ILTwoLeash$Track;I)V
abbrev q49 : MQ7 := (5, 1, 15, 7, 0, 0, 0)
abbrev R49 (sl : Nat) (sx : Nat → Int32) (d : Nat) (M0 : MM) (P : MM → Prop) : Nat → LL → List VV → MM → Prop := RN 7 false (mS M0).length (mT M0) 0 0 sl sx (callX TBg sl sx (d + 0)) (rtW q49 M0 (PV P)) (as2 tb49)
def w49_146 (l0 : Nat) (l13 : Int64) (s0 : Option Nat) (s1 : Int64) (s2 : Int64) (M : MM) (P : MM → Prop) : Prop := ∃ a1, s0 = some a1 ∧ (kd M a1 7 ∧ (kd (sL M a1 3 (s1 + s2)) l0 7 ∧ (P (sL (sL M a1 3 (s1 + s2)) l0 4 (l13 * l13)))))
theorem t49_146 {sl : Nat} {sx : Nat → Int32} {d : Nat} {M0 : MM} {P : MM → Prop} (l0 : Nat) (l13 : Int64) (s0 : Option Nat) (s1 : Int64) (s2 : Int64) (M : MM) (hM : lenO M0 M) (h : w49_146  l0 l13 s0 s1 s2 M P) : R49 sl sx d M0 P 146 [some (vR (some l0)), none, none, none, none, none, none, none, none, none, none, none, none, some (vL l13), none] [vL s2, vL s1, vR s0] M := by
  obtain ⟨a1, he, h⟩ := h
  refine RN_k (callX_det _) 1 _ _ _ _ (show R49 sl sx d M0 P 147 [some (vR (some l0)), none, none, none, none, none, none, none, none, none, none, none, none, some (vL l13), none] [vL (s1 + s2), vR s0] M from ?_)
  subst he
  refine RN_k (callX_det _) 1 _ _ _ _ (show kd M a1 7 ∧ R49 sl sx d M0 P 150 [some (vR (some l0)), none, none, none, none, none, none, none, none, none, none, none, none, some (vL l13), none] [] (sL M a1 3 (s1 + s2)) from ⟨h.1, ?_⟩)
  replace h := h.2
  refine RN_k (callX_det _) 5 _ _ _ _ (show kd (sL M a1 3 (s1 + s2)) l0 7 ∧ R49 sl sx d M0 P 159 [some (vR (some l0)), none, none, none, none, none, none, none, none, none, none, none, none, some (vL l13), none] [] (sL (sL M a1 3 (s1 + s2)) l0 4 (l13 * l13)) from ⟨h.1, ?_⟩)
  replace h := h.2
  exact RN_k (callX_det _) 1 _ _ _ _ (show rtW q49 M0 (PV P) none (sL (sL M a1 3 (s1 + s2)) l0 4 (l13 * l13)) from ⟨rfl, hM.1, hM.2, rfl, h⟩)
def w49_98 (l0 : Nat) (l5 : Int64) (l7 : Int64) (l9 : Int64) (l11 : Int64) (l13 : Int64) (M : MM) (P : MM → Prop) : Prop := kd M l0 7 ∧ (kd (sL M l0 1 ((l5 * l9) + (l7 * l11))) l0 7 ∧ (kd (sL (sL M l0 1 ((l5 * l9) + (l7 * l11))) l0 2 ((l9 * l9) + (l11 * l11))) l0 7 ∧ (kd (sL (sL M l0 1 ((l5 * l9) + (l7 * l11))) l0 2 ((l9 * l9) + (l11 * l11))) l0 7 ∧ (kd (sL (sL M l0 1 ((l5 * l9) + (l7 * l11))) l0 2 ((l9 * l9) + (l11 * l11))) l0 7 ∧ (w49_146  l0 l13 (some l0) ((mL (sL (sL M l0 1 ((l5 * l9) + (l7 * l11))) l0 2 ((l9 * l9) + (l11 * l11))) l0 2) - ((2 : Int64) * (mL (sL (sL M l0 1 ((l5 * l9) + (l7 * l11))) l0 2 ((l9 * l9) + (l11 * l11))) l0 1))) (mL (sL (sL M l0 1 ((l5 * l9) + (l7 * l11))) l0 2 ((l9 * l9) + (l11 * l11))) l0 0) (sL (sL M l0 1 ((l5 * l9) + (l7 * l11))) l0 2 ((l9 * l9) + (l11 * l11))) P)))))
theorem t49_98 {sl : Nat} {sx : Nat → Int32} {d : Nat} {M0 : MM} {P : MM → Prop} (l0 : Nat) (l5 : Int64) (l7 : Int64) (l9 : Int64) (l11 : Int64) (l13 : Int64) (M : MM) (hM : lenO M0 M) (h : w49_98  l0 l5 l7 l9 l11 l13 M P) : R49 sl sx d M0 P 98 [some (vR (some l0)), none, none, none, none, some (vL l5), none, some (vL l7), none, some (vL l9), none, some (vL l11), none, some (vL l13), none] [] M := by
  refine RN_k (callX_det _) 9 _ _ _ _ (show kd M l0 7 ∧ R49 sl sx d M0 P 113 [some (vR (some l0)), none, none, none, none, some (vL l5), none, some (vL l7), none, some (vL l9), none, some (vL l11), none, some (vL l13), none] [] (sL M l0 1 ((l5 * l9) + (l7 * l11))) from ⟨h.1, ?_⟩)
  replace h := h.2
  refine RN_k (callX_det _) 9 _ _ _ _ (show kd (sL M l0 1 ((l5 * l9) + (l7 * l11))) l0 7 ∧ R49 sl sx d M0 P 128 [some (vR (some l0)), none, none, none, none, some (vL l5), none, some (vL l7), none, some (vL l9), none, some (vL l11), none, some (vL l13), none] [] (sL (sL M l0 1 ((l5 * l9) + (l7 * l11))) l0 2 ((l9 * l9) + (l11 * l11))) from ⟨h.1, ?_⟩)
  replace h := h.2
  refine RN_k (callX_det _) 3 _ _ _ _ (show kd (sL (sL M l0 1 ((l5 * l9) + (l7 * l11))) l0 2 ((l9 * l9) + (l11 * l11))) l0 7 ∧ R49 sl sx d M0 P 133 [some (vR (some l0)), none, none, none, none, some (vL l5), none, some (vL l7), none, some (vL l9), none, some (vL l11), none, some (vL l13), none] [vL (mL (sL (sL M l0 1 ((l5 * l9) + (l7 * l11))) l0 2 ((l9 * l9) + (l11 * l11))) l0 2), vR (some l0)] (sL (sL M l0 1 ((l5 * l9) + (l7 * l11))) l0 2 ((l9 * l9) + (l11 * l11))) from ⟨h.1, ?_⟩)
  replace h := h.2
  refine RN_k (callX_det _) 3 _ _ _ _ (show kd (sL (sL M l0 1 ((l5 * l9) + (l7 * l11))) l0 2 ((l9 * l9) + (l11 * l11))) l0 7 ∧ R49 sl sx d M0 P 140 [some (vR (some l0)), none, none, none, none, some (vL l5), none, some (vL l7), none, some (vL l9), none, some (vL l11), none, some (vL l13), none] [vL (mL (sL (sL M l0 1 ((l5 * l9) + (l7 * l11))) l0 2 ((l9 * l9) + (l11 * l11))) l0 1), vL (2 : Int64), vL (mL (sL (sL M l0 1 ((l5 * l9) + (l7 * l11))) l0 2 ((l9 * l9) + (l11 * l11))) l0 2), vR (some l0)] (sL (sL M l0 1 ((l5 * l9) + (l7 * l11))) l0 2 ((l9 * l9) + (l11 * l11))) from ⟨h.1, ?_⟩)
  replace h := h.2
  refine RN_k (callX_det _) 4 _ _ _ _ (show kd (sL (sL M l0 1 ((l5 * l9) + (l7 * l11))) l0 2 ((l9 * l9) + (l11 * l11))) l0 7 ∧ R49 sl sx d M0 P 146 [some (vR (some l0)), none, none, none, none, some (vL l5), none, some (vL l7), none, some (vL l9), none, some (vL l11), none, some (vL l13), none] [vL (mL (sL (sL M l0 1 ((l5 * l9) + (l7 * l11))) l0 2 ((l9 * l9) + (l11 * l11))) l0 0), vL ((mL (sL (sL M l0 1 ((l5 * l9) + (l7 * l11))) l0 2 ((l9 * l9) + (l11 * l11))) l0 2) - ((2 : Int64) * (mL (sL (sL M l0 1 ((l5 * l9) + (l7 * l11))) l0 2 ((l9 * l9) + (l11 * l11))) l0 1))), vR (some l0)] (sL (sL M l0 1 ((l5 * l9) + (l7 * l11))) l0 2 ((l9 * l9) + (l11 * l11))) from ⟨h.1, ?_⟩)
  replace h := h.2
  exact RN_weak (K := [some (vR (some l0)), none, none, none, none, none, none, none, none, none, none, none, none, some (vL l13), none]) (callX_det _) (show _ ∧ _ ∧ True from ⟨rfl, rfl, trivial⟩) (t49_146  l0 l13 (some l0) ((mL (sL (sL M l0 1 ((l5 * l9) + (l7 * l11))) l0 2 ((l9 * l9) + (l11 * l11))) l0 2) - ((2 : Int64) * (mL (sL (sL M l0 1 ((l5 * l9) + (l7 * l11))) l0 2 ((l9 * l9) + (l11 * l11))) l0 1))) (mL (sL (sL M l0 1 ((l5 * l9) + (l7 * l11))) l0 2 ((l9 * l9) + (l11 * l11))) l0 0) _ hM h)
def w49 (l0 : Nat) (l1 : Option Nat) (l2 : Int32) (l3 : Option Nat) (l4 : Int32) (M : MM) (P : MM → Prop) : Prop := ∃ a1, l1 = some a1 ∧ (kd M a1 8 ∧ (∃ a2, mR M a1 2 = some a2 ∧ (inb M a2 11 (l2 + (1 : Int32)) ∧ (kd M a1 8 ∧ (∃ a3, mR M a1 2 = some a3 ∧ (inb M a3 11 l2 ∧ (kd M a1 8 ∧ (∃ a4, mR M a1 3 = some a4 ∧ (inb M a4 11 (l2 + (1 : Int32)) ∧ (kd M a1 8 ∧ (∃ a5, mR M a1 3 = some a5 ∧ (inb M a5 11 l2 ∧ (∃ a6, l3 = some a6 ∧ (kd M a6 8 ∧ (∃ a7, mR M a6 2 = some a7 ∧ (inb M a7 11 l4 ∧ (kd M a1 8 ∧ (∃ a8, mR M a1 2 = some a8 ∧ (inb M a8 11 l2 ∧ (kd M a6 8 ∧ (∃ a9, mR M a6 3 = some a9 ∧ (inb M a9 11 l4 ∧ (kd M a1 8 ∧ (∃ a10, mR M a1 3 = some a10 ∧ (inb M a10 11 l2 ∧ (kd M l0 7 ∧ (w49_98  l0 (((mI M a2 (l2 + (1 : Int32)).toNatClampNeg) - (mI M a3 l2.toNatClampNeg)).toInt64) (((mI M a4 (l2 + (1 : Int32)).toNatClampNeg) - (mI M a5 l2.toNatClampNeg)).toInt64) (((mI M a7 l4.toNatClampNeg) - (mI M a8 l2.toNatClampNeg)).toInt64) (((mI M a9 l4.toNatClampNeg) - (mI M a10 l2.toNatClampNeg)).toInt64) (((((mI M a2 (l2 + (1 : Int32)).toNatClampNeg) - (mI M a3 l2.toNatClampNeg)).toInt64) * (((mI M a9 l4.toNatClampNeg) - (mI M a10 l2.toNatClampNeg)).toInt64)) - ((((mI M a4 (l2 + (1 : Int32)).toNatClampNeg) - (mI M a5 l2.toNatClampNeg)).toInt64) * (((mI M a7 l4.toNatClampNeg) - (mI M a8 l2.toNatClampNeg)).toInt64))) (sL M l0 0 (((((mI M a2 (l2 + (1 : Int32)).toNatClampNeg) - (mI M a3 l2.toNatClampNeg)).toInt64) * (((mI M a2 (l2 + (1 : Int32)).toNatClampNeg) - (mI M a3 l2.toNatClampNeg)).toInt64)) + ((((mI M a4 (l2 + (1 : Int32)).toNatClampNeg) - (mI M a5 l2.toNatClampNeg)).toInt64) * (((mI M a4 (l2 + (1 : Int32)).toNatClampNeg) - (mI M a5 l2.toNatClampNeg)).toInt64)))) P)))))))))))))))))))))))))))
theorem t49_E {sl : Nat} {sx : Nat → Int32} {d : Nat} {M0 : MM} {P : MM → Prop} (l0 : Nat) (l1 : Option Nat) (l2 : Int32) (l3 : Option Nat) (l4 : Int32) (M : MM) (hM : lenO M0 M) (h : w49  l0 l1 l2 l3 l4 M P) : R49 sl sx d M0 P 0 [some (vR (some l0)), some (vR l1), some (vI l2), some (vR l3), some (vI l4), none, none, none, none, none, none, none, none, none, none] [] M := by
  obtain ⟨a1, he, h⟩ := h
  refine RN_k (callX_det _) 1 _ _ _ _ (show R49 sl sx d M0 P 1 [some (vR (some l0)), some (vR l1), some (vI l2), some (vR l3), some (vI l4), none, none, none, none, none, none, none, none, none, none] [vR l1] M from ?_)
  subst he
  refine RN_k (callX_det _) 1 _ _ _ _ (show kd M a1 8 ∧ R49 sl sx d M0 P 4 [some (vR (some l0)), some (vR (some a1)), some (vI l2), some (vR l3), some (vI l4), none, none, none, none, none, none, none, none, none, none] [vR (mR M a1 2)] M from ⟨h.1, ?_⟩)
  replace h := h.2
  obtain ⟨a2, he, h⟩ := h
  refine RN_k (callX_det _) 3 _ _ _ _ (show R49 sl sx d M0 P 7 [some (vR (some l0)), some (vR (some a1)), some (vI l2), some (vR l3), some (vI l4), none, none, none, none, none, none, none, none, none, none] [vI (l2 + (1 : Int32)), vR (mR M a1 2)] M from ?_)
  rw [he]
  refine RN_k (callX_det _) 1 _ _ _ _ (show inb M a2 11 (l2 + (1 : Int32)) ∧ R49 sl sx d M0 P 8 [some (vR (some l0)), some (vR (some a1)), some (vI l2), some (vR l3), some (vI l4), none, none, none, none, none, none, none, none, none, none] [vI (mI M a2 (l2 + (1 : Int32)).toNatClampNeg)] M from ⟨h.1, ?_⟩)
  replace h := h.2
  refine RN_k (callX_det _) 2 _ _ _ _ (show kd M a1 8 ∧ R49 sl sx d M0 P 12 [some (vR (some l0)), some (vR (some a1)), some (vI l2), some (vR l3), some (vI l4), none, none, none, none, none, none, none, none, none, none] [vR (mR M a1 2), vI (mI M a2 (l2 + (1 : Int32)).toNatClampNeg)] M from ⟨h.1, ?_⟩)
  replace h := h.2
  obtain ⟨a3, he, h⟩ := h
  refine RN_k (callX_det _) 1 _ _ _ _ (show R49 sl sx d M0 P 13 [some (vR (some l0)), some (vR (some a1)), some (vI l2), some (vR l3), some (vI l4), none, none, none, none, none, none, none, none, none, none] [vI l2, vR (mR M a1 2), vI (mI M a2 (l2 + (1 : Int32)).toNatClampNeg)] M from ?_)
  rw [he]
  refine RN_k (callX_det _) 1 _ _ _ _ (show inb M a3 11 l2 ∧ R49 sl sx d M0 P 14 [some (vR (some l0)), some (vR (some a1)), some (vI l2), some (vR l3), some (vI l4), none, none, none, none, none, none, none, none, none, none] [vI (mI M a3 l2.toNatClampNeg), vI (mI M a2 (l2 + (1 : Int32)).toNatClampNeg)] M from ⟨h.1, ?_⟩)
  replace h := h.2
  refine RN_k (callX_det _) 5 _ _ _ _ (show kd M a1 8 ∧ R49 sl sx d M0 P 22 [some (vR (some l0)), some (vR (some a1)), some (vI l2), some (vR l3), some (vI l4), some (vL (((mI M a2 (l2 + (1 : Int32)).toNatClampNeg) - (mI M a3 l2.toNatClampNeg)).toInt64)), none, none, none, none, none, none, none, none, none] [vR (mR M a1 3)] M from ⟨h.1, ?_⟩)
  replace h := h.2
  obtain ⟨a4, he, h⟩ := h
  refine RN_k (callX_det _) 3 _ _ _ _ (show R49 sl sx d M0 P 25 [some (vR (some l0)), some (vR (some a1)), some (vI l2), some (vR l3), some (vI l4), some (vL (((mI M a2 (l2 + (1 : Int32)).toNatClampNeg) - (mI M a3 l2.toNatClampNeg)).toInt64)), none, none, none, none, none, none, none, none, none] [vI (l2 + (1 : Int32)), vR (mR M a1 3)] M from ?_)
  rw [he]
  refine RN_k (callX_det _) 1 _ _ _ _ (show inb M a4 11 (l2 + (1 : Int32)) ∧ R49 sl sx d M0 P 26 [some (vR (some l0)), some (vR (some a1)), some (vI l2), some (vR l3), some (vI l4), some (vL (((mI M a2 (l2 + (1 : Int32)).toNatClampNeg) - (mI M a3 l2.toNatClampNeg)).toInt64)), none, none, none, none, none, none, none, none, none] [vI (mI M a4 (l2 + (1 : Int32)).toNatClampNeg)] M from ⟨h.1, ?_⟩)
  replace h := h.2
  refine RN_k (callX_det _) 2 _ _ _ _ (show kd M a1 8 ∧ R49 sl sx d M0 P 30 [some (vR (some l0)), some (vR (some a1)), some (vI l2), some (vR l3), some (vI l4), some (vL (((mI M a2 (l2 + (1 : Int32)).toNatClampNeg) - (mI M a3 l2.toNatClampNeg)).toInt64)), none, none, none, none, none, none, none, none, none] [vR (mR M a1 3), vI (mI M a4 (l2 + (1 : Int32)).toNatClampNeg)] M from ⟨h.1, ?_⟩)
  replace h := h.2
  obtain ⟨a5, he, h⟩ := h
  refine RN_k (callX_det _) 1 _ _ _ _ (show R49 sl sx d M0 P 31 [some (vR (some l0)), some (vR (some a1)), some (vI l2), some (vR l3), some (vI l4), some (vL (((mI M a2 (l2 + (1 : Int32)).toNatClampNeg) - (mI M a3 l2.toNatClampNeg)).toInt64)), none, none, none, none, none, none, none, none, none] [vI l2, vR (mR M a1 3), vI (mI M a4 (l2 + (1 : Int32)).toNatClampNeg)] M from ?_)
  rw [he]
  refine RN_k (callX_det _) 1 _ _ _ _ (show inb M a5 11 l2 ∧ R49 sl sx d M0 P 32 [some (vR (some l0)), some (vR (some a1)), some (vI l2), some (vR l3), some (vI l4), some (vL (((mI M a2 (l2 + (1 : Int32)).toNatClampNeg) - (mI M a3 l2.toNatClampNeg)).toInt64)), none, none, none, none, none, none, none, none, none] [vI (mI M a5 l2.toNatClampNeg), vI (mI M a4 (l2 + (1 : Int32)).toNatClampNeg)] M from ⟨h.1, ?_⟩)
  replace h := h.2
  obtain ⟨a6, he, h⟩ := h
  refine RN_k (callX_det _) 4 _ _ _ _ (show R49 sl sx d M0 P 37 [some (vR (some l0)), some (vR (some a1)), some (vI l2), some (vR l3), some (vI l4), some (vL (((mI M a2 (l2 + (1 : Int32)).toNatClampNeg) - (mI M a3 l2.toNatClampNeg)).toInt64)), none, some (vL (((mI M a4 (l2 + (1 : Int32)).toNatClampNeg) - (mI M a5 l2.toNatClampNeg)).toInt64)), none, none, none, none, none, none, none] [vR l3] M from ?_)
  subst he
  refine RN_k (callX_det _) 1 _ _ _ _ (show kd M a6 8 ∧ R49 sl sx d M0 P 40 [some (vR (some l0)), some (vR (some a1)), some (vI l2), some (vR (some a6)), some (vI l4), some (vL (((mI M a2 (l2 + (1 : Int32)).toNatClampNeg) - (mI M a3 l2.toNatClampNeg)).toInt64)), none, some (vL (((mI M a4 (l2 + (1 : Int32)).toNatClampNeg) - (mI M a5 l2.toNatClampNeg)).toInt64)), none, none, none, none, none, none, none] [vR (mR M a6 2)] M from ⟨h.1, ?_⟩)
  replace h := h.2
  obtain ⟨a7, he, h⟩ := h
  refine RN_k (callX_det _) 1 _ _ _ _ (show R49 sl sx d M0 P 42 [some (vR (some l0)), some (vR (some a1)), some (vI l2), some (vR (some a6)), some (vI l4), some (vL (((mI M a2 (l2 + (1 : Int32)).toNatClampNeg) - (mI M a3 l2.toNatClampNeg)).toInt64)), none, some (vL (((mI M a4 (l2 + (1 : Int32)).toNatClampNeg) - (mI M a5 l2.toNatClampNeg)).toInt64)), none, none, none, none, none, none, none] [vI l4, vR (mR M a6 2)] M from ?_)
  rw [he]
  refine RN_k (callX_det _) 1 _ _ _ _ (show inb M a7 11 l4 ∧ R49 sl sx d M0 P 43 [some (vR (some l0)), some (vR (some a1)), some (vI l2), some (vR (some a6)), some (vI l4), some (vL (((mI M a2 (l2 + (1 : Int32)).toNatClampNeg) - (mI M a3 l2.toNatClampNeg)).toInt64)), none, some (vL (((mI M a4 (l2 + (1 : Int32)).toNatClampNeg) - (mI M a5 l2.toNatClampNeg)).toInt64)), none, none, none, none, none, none, none] [vI (mI M a7 l4.toNatClampNeg)] M from ⟨h.1, ?_⟩)
  replace h := h.2
  refine RN_k (callX_det _) 2 _ _ _ _ (show kd M a1 8 ∧ R49 sl sx d M0 P 47 [some (vR (some l0)), some (vR (some a1)), some (vI l2), some (vR (some a6)), some (vI l4), some (vL (((mI M a2 (l2 + (1 : Int32)).toNatClampNeg) - (mI M a3 l2.toNatClampNeg)).toInt64)), none, some (vL (((mI M a4 (l2 + (1 : Int32)).toNatClampNeg) - (mI M a5 l2.toNatClampNeg)).toInt64)), none, none, none, none, none, none, none] [vR (mR M a1 2), vI (mI M a7 l4.toNatClampNeg)] M from ⟨h.1, ?_⟩)
  replace h := h.2
  obtain ⟨a8, he, h⟩ := h
  refine RN_k (callX_det _) 1 _ _ _ _ (show R49 sl sx d M0 P 48 [some (vR (some l0)), some (vR (some a1)), some (vI l2), some (vR (some a6)), some (vI l4), some (vL (((mI M a2 (l2 + (1 : Int32)).toNatClampNeg) - (mI M a3 l2.toNatClampNeg)).toInt64)), none, some (vL (((mI M a4 (l2 + (1 : Int32)).toNatClampNeg) - (mI M a5 l2.toNatClampNeg)).toInt64)), none, none, none, none, none, none, none] [vI l2, vR (mR M a1 2), vI (mI M a7 l4.toNatClampNeg)] M from ?_)
  rw [he]
  refine RN_k (callX_det _) 1 _ _ _ _ (show inb M a8 11 l2 ∧ R49 sl sx d M0 P 49 [some (vR (some l0)), some (vR (some a1)), some (vI l2), some (vR (some a6)), some (vI l4), some (vL (((mI M a2 (l2 + (1 : Int32)).toNatClampNeg) - (mI M a3 l2.toNatClampNeg)).toInt64)), none, some (vL (((mI M a4 (l2 + (1 : Int32)).toNatClampNeg) - (mI M a5 l2.toNatClampNeg)).toInt64)), none, none, none, none, none, none, none] [vI (mI M a8 l2.toNatClampNeg), vI (mI M a7 l4.toNatClampNeg)] M from ⟨h.1, ?_⟩)
  replace h := h.2
  refine RN_k (callX_det _) 5 _ _ _ _ (show kd M a6 8 ∧ R49 sl sx d M0 P 57 [some (vR (some l0)), some (vR (some a1)), some (vI l2), some (vR (some a6)), some (vI l4), some (vL (((mI M a2 (l2 + (1 : Int32)).toNatClampNeg) - (mI M a3 l2.toNatClampNeg)).toInt64)), none, some (vL (((mI M a4 (l2 + (1 : Int32)).toNatClampNeg) - (mI M a5 l2.toNatClampNeg)).toInt64)), none, some (vL (((mI M a7 l4.toNatClampNeg) - (mI M a8 l2.toNatClampNeg)).toInt64)), none, none, none, none, none] [vR (mR M a6 3)] M from ⟨h.1, ?_⟩)
  replace h := h.2
  obtain ⟨a9, he, h⟩ := h
  refine RN_k (callX_det _) 1 _ _ _ _ (show R49 sl sx d M0 P 59 [some (vR (some l0)), some (vR (some a1)), some (vI l2), some (vR (some a6)), some (vI l4), some (vL (((mI M a2 (l2 + (1 : Int32)).toNatClampNeg) - (mI M a3 l2.toNatClampNeg)).toInt64)), none, some (vL (((mI M a4 (l2 + (1 : Int32)).toNatClampNeg) - (mI M a5 l2.toNatClampNeg)).toInt64)), none, some (vL (((mI M a7 l4.toNatClampNeg) - (mI M a8 l2.toNatClampNeg)).toInt64)), none, none, none, none, none] [vI l4, vR (mR M a6 3)] M from ?_)
  rw [he]
  refine RN_k (callX_det _) 1 _ _ _ _ (show inb M a9 11 l4 ∧ R49 sl sx d M0 P 60 [some (vR (some l0)), some (vR (some a1)), some (vI l2), some (vR (some a6)), some (vI l4), some (vL (((mI M a2 (l2 + (1 : Int32)).toNatClampNeg) - (mI M a3 l2.toNatClampNeg)).toInt64)), none, some (vL (((mI M a4 (l2 + (1 : Int32)).toNatClampNeg) - (mI M a5 l2.toNatClampNeg)).toInt64)), none, some (vL (((mI M a7 l4.toNatClampNeg) - (mI M a8 l2.toNatClampNeg)).toInt64)), none, none, none, none, none] [vI (mI M a9 l4.toNatClampNeg)] M from ⟨h.1, ?_⟩)
  replace h := h.2
  refine RN_k (callX_det _) 2 _ _ _ _ (show kd M a1 8 ∧ R49 sl sx d M0 P 64 [some (vR (some l0)), some (vR (some a1)), some (vI l2), some (vR (some a6)), some (vI l4), some (vL (((mI M a2 (l2 + (1 : Int32)).toNatClampNeg) - (mI M a3 l2.toNatClampNeg)).toInt64)), none, some (vL (((mI M a4 (l2 + (1 : Int32)).toNatClampNeg) - (mI M a5 l2.toNatClampNeg)).toInt64)), none, some (vL (((mI M a7 l4.toNatClampNeg) - (mI M a8 l2.toNatClampNeg)).toInt64)), none, none, none, none, none] [vR (mR M a1 3), vI (mI M a9 l4.toNatClampNeg)] M from ⟨h.1, ?_⟩)
  replace h := h.2
  obtain ⟨a10, he, h⟩ := h
  refine RN_k (callX_det _) 1 _ _ _ _ (show R49 sl sx d M0 P 65 [some (vR (some l0)), some (vR (some a1)), some (vI l2), some (vR (some a6)), some (vI l4), some (vL (((mI M a2 (l2 + (1 : Int32)).toNatClampNeg) - (mI M a3 l2.toNatClampNeg)).toInt64)), none, some (vL (((mI M a4 (l2 + (1 : Int32)).toNatClampNeg) - (mI M a5 l2.toNatClampNeg)).toInt64)), none, some (vL (((mI M a7 l4.toNatClampNeg) - (mI M a8 l2.toNatClampNeg)).toInt64)), none, none, none, none, none] [vI l2, vR (mR M a1 3), vI (mI M a9 l4.toNatClampNeg)] M from ?_)
  rw [he]
  refine RN_k (callX_det _) 1 _ _ _ _ (show inb M a10 11 l2 ∧ R49 sl sx d M0 P 66 [some (vR (some l0)), some (vR (some a1)), some (vI l2), some (vR (some a6)), some (vI l4), some (vL (((mI M a2 (l2 + (1 : Int32)).toNatClampNeg) - (mI M a3 l2.toNatClampNeg)).toInt64)), none, some (vL (((mI M a4 (l2 + (1 : Int32)).toNatClampNeg) - (mI M a5 l2.toNatClampNeg)).toInt64)), none, some (vL (((mI M a7 l4.toNatClampNeg) - (mI M a8 l2.toNatClampNeg)).toInt64)), none, none, none, none, none] [vI (mI M a10 l2.toNatClampNeg), vI (mI M a9 l4.toNatClampNeg)] M from ⟨h.1, ?_⟩)
  replace h := h.2
  refine RN_k (callX_det _) 20 _ _ _ _ (show kd M l0 7 ∧ R49 sl sx d M0 P 98 [some (vR (some l0)), some (vR (some a1)), some (vI l2), some (vR (some a6)), some (vI l4), some (vL (((mI M a2 (l2 + (1 : Int32)).toNatClampNeg) - (mI M a3 l2.toNatClampNeg)).toInt64)), none, some (vL (((mI M a4 (l2 + (1 : Int32)).toNatClampNeg) - (mI M a5 l2.toNatClampNeg)).toInt64)), none, some (vL (((mI M a7 l4.toNatClampNeg) - (mI M a8 l2.toNatClampNeg)).toInt64)), none, some (vL (((mI M a9 l4.toNatClampNeg) - (mI M a10 l2.toNatClampNeg)).toInt64)), none, some (vL (((((mI M a2 (l2 + (1 : Int32)).toNatClampNeg) - (mI M a3 l2.toNatClampNeg)).toInt64) * (((mI M a9 l4.toNatClampNeg) - (mI M a10 l2.toNatClampNeg)).toInt64)) - ((((mI M a4 (l2 + (1 : Int32)).toNatClampNeg) - (mI M a5 l2.toNatClampNeg)).toInt64) * (((mI M a7 l4.toNatClampNeg) - (mI M a8 l2.toNatClampNeg)).toInt64)))), none] [] (sL M l0 0 (((((mI M a2 (l2 + (1 : Int32)).toNatClampNeg) - (mI M a3 l2.toNatClampNeg)).toInt64) * (((mI M a2 (l2 + (1 : Int32)).toNatClampNeg) - (mI M a3 l2.toNatClampNeg)).toInt64)) + ((((mI M a4 (l2 + (1 : Int32)).toNatClampNeg) - (mI M a5 l2.toNatClampNeg)).toInt64) * (((mI M a4 (l2 + (1 : Int32)).toNatClampNeg) - (mI M a5 l2.toNatClampNeg)).toInt64)))) from ⟨h.1, ?_⟩)
  replace h := h.2
  exact RN_weak (K := [some (vR (some l0)), none, none, none, none, some (vL (((mI M a2 (l2 + (1 : Int32)).toNatClampNeg) - (mI M a3 l2.toNatClampNeg)).toInt64)), none, some (vL (((mI M a4 (l2 + (1 : Int32)).toNatClampNeg) - (mI M a5 l2.toNatClampNeg)).toInt64)), none, some (vL (((mI M a7 l4.toNatClampNeg) - (mI M a8 l2.toNatClampNeg)).toInt64)), none, some (vL (((mI M a9 l4.toNatClampNeg) - (mI M a10 l2.toNatClampNeg)).toInt64)), none, some (vL (((((mI M a2 (l2 + (1 : Int32)).toNatClampNeg) - (mI M a3 l2.toNatClampNeg)).toInt64) * (((mI M a9 l4.toNatClampNeg) - (mI M a10 l2.toNatClampNeg)).toInt64)) - ((((mI M a4 (l2 + (1 : Int32)).toNatClampNeg) - (mI M a5 l2.toNatClampNeg)).toInt64) * (((mI M a7 l4.toNatClampNeg) - (mI M a8 l2.toNatClampNeg)).toInt64)))), none]) (callX_det _) (show _ ∧ _ ∧ _ ∧ _ ∧ _ ∧ _ ∧ True from ⟨rfl, rfl, rfl, rfl, rfl, rfl, trivial⟩) (t49_98  l0 (((mI M a2 (l2 + (1 : Int32)).toNatClampNeg) - (mI M a3 l2.toNatClampNeg)).toInt64) (((mI M a4 (l2 + (1 : Int32)).toNatClampNeg) - (mI M a5 l2.toNatClampNeg)).toInt64) (((mI M a7 l4.toNatClampNeg) - (mI M a8 l2.toNatClampNeg)).toInt64) (((mI M a9 l4.toNatClampNeg) - (mI M a10 l2.toNatClampNeg)).toInt64) (((((mI M a2 (l2 + (1 : Int32)).toNatClampNeg) - (mI M a3 l2.toNatClampNeg)).toInt64) * (((mI M a9 l4.toNatClampNeg) - (mI M a10 l2.toNatClampNeg)).toInt64)) - ((((mI M a4 (l2 + (1 : Int32)).toNatClampNeg) - (mI M a5 l2.toNatClampNeg)).toInt64) * (((mI M a7 l4.toNatClampNeg) - (mI M a8 l2.toNatClampNeg)).toInt64))) _ hM h)
theorem c49 {sl : Nat} {sx : Nat → Int32} {d : Nat} {l0 : Nat} {l1 : Option Nat} {l2 : Int32} {l3 : Option Nat} {l4 : Int32} {M : MM} {P : MM → Prop} (h : w49 l0 l1 l2 l3 l4 M P) : callX TBg sl sx (d + 1) 49 [vR (some l0), vR l1, vI l2, vR l3, vI l4] M (PV P) :=
  cX (d := d + 0) q49 (false, tb49) rfl rfl rfl (t49_E l0 l1 l2 l3 l4 M lenR h)
-- TwoLeash$Side.hasFootWithin()Z
abbrev q51 : MQ7 := (1, 1, 1, 7, 0, 0, 4)
abbrev R51 (sl : Nat) (sx : Nat → Int32) (d : Nat) (M0 : MM) (P : Int32 → MM → Prop) : Nat → LL → List VV → MM → Prop := RN 7 false (mS M0).length (mT M0) 0 0 sl sx (callX TBg sl sx (d + 0)) (rtW q51 M0 (PI P)) (as2 tb51)
def w51_26 (s0 : Int32) (M : MM) (P : Int32 → MM → Prop) : Prop := (s0 = 0 ∨ s0 = 1) ∧ P s0 M
theorem t51_26 {sl : Nat} {sx : Nat → Int32} {d : Nat} {M0 : MM} {P : Int32 → MM → Prop} (s0 : Int32) (M : MM) (hM : lenO M0 M) (h : w51_26  s0 M P) : R51 sl sx d M0 P 26 [none] [vI s0] M := by
  exact RN_k (callX_det _) 1 _ _ _ _ (show rtW q51 M0 (PI P) (some (vI s0)) M from ⟨⟨_, rfl, h.1⟩, hM.1, hM.2, _, rfl, h.2⟩)
def w51_25 (M : MM) (P : Int32 → MM → Prop) : Prop := w51_26  (0 : Int32) M P
theorem t51_25 {sl : Nat} {sx : Nat → Int32} {d : Nat} {M0 : MM} {P : Int32 → MM → Prop}  (M : MM) (hM : lenO M0 M) (h : w51_25   M P) : R51 sl sx d M0 P 25 [none] [] M := by
  refine RN_k (callX_det _) 1 _ _ _ _ (show R51 sl sx d M0 P 26 [none] [vI (0 : Int32)] M from ?_)
  exact RN_weak (K := [none]) (callX_det _) (show True from trivial) (t51_26  (0 : Int32) _ hM h)
def w51 (l0 : Nat) (M : MM) (P : Int32 → MM → Prop) : Prop := kd M l0 7 ∧ (((lg_cmp (mL M l0 1) (0 : Int64)) ≤ 0 → (w51_25  M P)) ∧ (¬ ((lg_cmp (mL M l0 1) (0 : Int64)) ≤ 0) → (kd M l0 7 ∧ (kd M l0 7 ∧ ((0 ≤ (lg_cmp (mL M l0 1) (mL M l0 0)) → (w51_25  M P)) ∧ (¬ (0 ≤ (lg_cmp (mL M l0 1) (mL M l0 0))) → (w51_26  (1 : Int32) M P)))))))
theorem t51_E {sl : Nat} {sx : Nat → Int32} {d : Nat} {M0 : MM} {P : Int32 → MM → Prop} (l0 : Nat) (M : MM) (hM : lenO M0 M) (h : w51  l0 M P) : R51 sl sx d M0 P 0 [some (vR (some l0))] [] M := by
  refine RN_k (callX_det _) 2 _ _ _ _ (show kd M l0 7 ∧ R51 sl sx d M0 P 4 [some (vR (some l0))] [vL (mL M l0 1)] M from ⟨h.1, ?_⟩)
  replace h := h.2
  refine RN_k (callX_det _) 3 _ _ _ _ (show ((lg_cmp (mL M l0 1) (0 : Int64)) ≤ 0 → R51 sl sx d M0 P 25 [some (vR (some l0))] [] M) ∧ (¬ ((lg_cmp (mL M l0 1) (0 : Int64)) ≤ 0) → R51 sl sx d M0 P 9 [some (vR (some l0))] [] M) from ⟨fun hc => ?_, fun hc => ?_⟩)
  · replace h := h.1 hc
    exact RN_weak (K := [none]) (callX_det _) (show True from trivial) (t51_25   _ hM h)
  · replace h := h.2 hc
    refine RN_k (callX_det _) 2 _ _ _ _ (show kd M l0 7 ∧ R51 sl sx d M0 P 13 [some (vR (some l0))] [vL (mL M l0 1)] M from ⟨h.1, ?_⟩)
    replace h := h.2
    refine RN_k (callX_det _) 2 _ _ _ _ (show kd M l0 7 ∧ R51 sl sx d M0 P 17 [some (vR (some l0))] [vL (mL M l0 0), vL (mL M l0 1)] M from ⟨h.1, ?_⟩)
    replace h := h.2
    refine RN_k (callX_det _) 2 _ _ _ _ (show (0 ≤ (lg_cmp (mL M l0 1) (mL M l0 0)) → R51 sl sx d M0 P 25 [some (vR (some l0))] [] M) ∧ (¬ (0 ≤ (lg_cmp (mL M l0 1) (mL M l0 0))) → R51 sl sx d M0 P 21 [some (vR (some l0))] [] M) from ⟨fun hc => ?_, fun hc => ?_⟩)
    · replace h := h.1 hc
      exact RN_weak (K := [none]) (callX_det _) (show True from trivial) (t51_25   _ hM h)
    · replace h := h.2 hc
      refine RN_k (callX_det _) 2 _ _ _ _ (show R51 sl sx d M0 P 26 [some (vR (some l0))] [vI (1 : Int32)] M from ?_)
      exact RN_weak (K := [none]) (callX_det _) (show True from trivial) (t51_26  (1 : Int32) _ hM h)
theorem c51 {sl : Nat} {sx : Nat → Int32} {d : Nat} {l0 : Nat} {M : MM} {P : Int32 → MM → Prop} (h : w51 l0 M P) : callX TBg sl sx (d + 1) 51 [vR (some l0)] M (PI P) :=
  cX (d := d + 0) q51 (false, tb51) rfl rfl rfl (t51_E l0 M lenR h)
-- java/lang/Math.min(JJ)J
abbrev q52 : MQ7 := (2, 0, 4, 14, 0, 0, 2)
abbrev R52 (sl : Nat) (sx : Nat → Int32) (d : Nat) (M0 : MM) (P : Int64 → MM → Prop) : Nat → LL → List VV → MM → Prop := RN 14 false (mS M0).length (mT M0) 0 0 sl sx (callX TBg sl sx (d + 0)) (rtW q52 M0 (PL P)) (as2 tb52)
def w52_11 (s0 : Int64) (M : MM) (P : Int64 → MM → Prop) : Prop := P s0 M
theorem t52_11 {sl : Nat} {sx : Nat → Int32} {d : Nat} {M0 : MM} {P : Int64 → MM → Prop} (s0 : Int64) (M : MM) (hM : lenO M0 M) (h : w52_11  s0 M P) : R52 sl sx d M0 P 11 [none, none, none, none] [vL s0] M := by
  exact RN_k (callX_det _) 1 _ _ _ _ (show rtW q52 M0 (PL P) (some (vL s0)) M from ⟨⟨_, rfl⟩, hM.1, hM.2, _, rfl, h⟩)
def w52 (l0 : Int64) (l2 : Int64) (M : MM) (P : Int64 → MM → Prop) : Prop := (0 < (lg_cmp l0 l2) → (w52_11  l2 M P)) ∧ (¬ (0 < (lg_cmp l0 l2)) → (w52_11  l0 M P))
theorem t52_E {sl : Nat} {sx : Nat → Int32} {d : Nat} {M0 : MM} {P : Int64 → MM → Prop} (l0 : Int64) (l2 : Int64) (M : MM) (hM : lenO M0 M) (h : w52  l0 l2 M P) : R52 sl sx d M0 P 0 [some (vL l0), none, some (vL l2), none] [] M := by
  refine RN_k (callX_det _) 4 _ _ _ _ (show (0 < (lg_cmp l0 l2) → R52 sl sx d M0 P 10 [some (vL l0), none, some (vL l2), none] [] M) ∧ (¬ (0 < (lg_cmp l0 l2)) → R52 sl sx d M0 P 6 [some (vL l0), none, some (vL l2), none] [] M) from ⟨fun hc => ?_, fun hc => ?_⟩)
  · replace h := h.1 hc
    refine RN_k (callX_det _) 1 _ _ _ _ (show R52 sl sx d M0 P 11 [some (vL l0), none, some (vL l2), none] [vL l2] M from ?_)
    exact RN_weak (K := [none, none, none, none]) (callX_det _) (show True from trivial) (t52_11  l2 _ hM h)
  · replace h := h.2 hc
    refine RN_k (callX_det _) 2 _ _ _ _ (show R52 sl sx d M0 P 11 [some (vL l0), none, some (vL l2), none] [vL l0] M from ?_)
    exact RN_weak (K := [none, none, none, none]) (callX_det _) (show True from trivial) (t52_11  l0 _ hM h)
theorem c52 {sl : Nat} {sx : Nat → Int32} {d : Nat} {l0 : Int64} {l2 : Int64} {M : MM} {P : Int64 → MM → Prop} (h : w52 l0 l2 M P) : callX TBg sl sx (d + 1) 52 [vL l0, vL l2] M (PL P) :=
  cX (d := d + 0) q52 (false, tb52) rfl rfl rfl (t52_E l0 l2 M lenR h)
-- TwoLeash$Side.leastAbove()J
abbrev q50 : MQ7 := (1, 1, 1, 7, 0, 0, 2)
abbrev R50 (sl : Nat) (sx : Nat → Int32) (d : Nat) (M0 : MM) (P : Int64 → MM → Prop) : Nat → LL → List VV → MM → Prop := RN 7 false (mS M0).length (mT M0) 0 0 sl sx (callX TBg sl sx (d + 1)) (rtW q50 M0 (PL P)) (as2 tb50)
def w50_25 (s0 : Int64) (M : MM) (P : Int64 → MM → Prop) : Prop := P s0 M
theorem t50_25 {sl : Nat} {sx : Nat → Int32} {d : Nat} {M0 : MM} {P : Int64 → MM → Prop} (s0 : Int64) (M : MM) (hM : lenO M0 M) (h : w50_25  s0 M P) : R50 sl sx d M0 P 25 [none] [vL s0] M := by
  exact RN_k (callX_det _) 1 _ _ _ _ (show rtW q50 M0 (PL P) (some (vL s0)) M from ⟨⟨_, rfl⟩, hM.1, hM.2, _, rfl, h⟩)
def w50 (l0 : Nat) (M : MM) (P : Int64 → MM → Prop) : Prop := kd M l0 7 ∧ w51 l0 M (fun r2 M1 => (r2 = 0 → (kd M1 l0 7 ∧ (kd M1 l0 7 ∧ (w52 (mL M1 l0 2) (mL M1 l0 3) M1 (fun r4 M3 => w50_25  r4 M3 P))))) ∧ (¬ (r2 = 0) → (kd M1 l0 7 ∧ (w50_25  (mL M1 l0 4) M1 P))))
theorem t50_E {sl : Nat} {sx : Nat → Int32} {d : Nat} {M0 : MM} {P : Int64 → MM → Prop} (l0 : Nat) (M : MM) (hM : lenO M0 M) (h : w50  l0 M P) : R50 sl sx d M0 P 0 [some (vR (some l0))] [] M := by
  refine RN_k (callX_det _) 2 _ _ _ _ (show kd M l0 7 ∧ callX TBg sl sx (d + 1) 51 [vR (some l0)] M (fun v M9 => R50 sl sx d M0 P 4 [some (vR (some l0))] (pushO v []) M9) from ⟨h.1, ?_⟩)
  replace h := h.2
  refine callX_mono (callX_len (d := (d + 1)) rfl rfl rfl (c51 (d := d) h)) ?_
  clear h
  rintro v9 M1 ⟨hl, r2, rfl, h⟩
  replace hM := lenT hM hl
  show R50 sl sx d M0 P 4 [some (vR (some l0))] [vI r2] M1
  refine RN_k (callX_det _) 1 _ _ _ _ (show (r2 = 0 → R50 sl sx d M0 P 14 [some (vR (some l0))] [] M1) ∧ (¬ (r2 = 0) → R50 sl sx d M0 P 7 [some (vR (some l0))] [] M1) from ⟨fun hc => ?_, fun hc => ?_⟩)
  · replace h := h.1 hc
    refine RN_k (callX_det _) 2 _ _ _ _ (show kd M1 l0 7 ∧ R50 sl sx d M0 P 18 [some (vR (some l0))] [vL (mL M1 l0 2)] M1 from ⟨h.1, ?_⟩)
    replace h := h.2
    refine RN_k (callX_det _) 2 _ _ _ _ (show kd M1 l0 7 ∧ R50 sl sx d M0 P 22 [some (vR (some l0))] [vL (mL M1 l0 3), vL (mL M1 l0 2)] M1 from ⟨h.1, ?_⟩)
    replace h := h.2
    refine RN_k (callX_det _) 1 _ _ _ _ (show callX TBg sl sx (d + 1) 52 [vL (mL M1 l0 2), vL (mL M1 l0 3)] M1 (fun v M9 => R50 sl sx d M0 P 25 [some (vR (some l0))] (pushO v []) M9) from ?_)
    refine callX_mono (callX_len (d := (d + 1)) rfl rfl rfl (c52 (d := d) h)) ?_
    clear h
    rintro v9 M3 ⟨hl, r4, rfl, h⟩
    replace hM := lenT hM hl
    show R50 sl sx d M0 P 25 [some (vR (some l0))] [vL r4] M3
    exact RN_weak (K := [none]) (callX_det _) (show True from trivial) (t50_25  r4 _ hM h)
  · replace h := h.2 hc
    refine RN_k (callX_det _) 2 _ _ _ _ (show kd M1 l0 7 ∧ R50 sl sx d M0 P 11 [some (vR (some l0))] [vL (mL M1 l0 4)] M1 from ⟨h.1, ?_⟩)
    replace h := h.2
    refine RN_k (callX_det _) 1 _ _ _ _ (show R50 sl sx d M0 P 25 [some (vR (some l0))] [vL (mL M1 l0 4)] M1 from ?_)
    exact RN_weak (K := [none]) (callX_det _) (show True from trivial) (t50_25  (mL M1 l0 4) _ hM h)
theorem c50 {sl : Nat} {sx : Nat → Int32} {d : Nat} {l0 : Nat} {M : MM} {P : Int64 → MM → Prop} (h : w50 l0 M P) : callX TBg sl sx (d + 2) 50 [vR (some l0)] M (PL P) :=
  cX (d := d + 1) q50 (false, tb50) rfl rfl rfl (t50_E l0 M lenR h)
-- TwoLeash$Side.leastBelow()J
abbrev q53 : MQ7 := (1, 1, 1, 7, 0, 0, 2)
abbrev R53 (sl : Nat) (sx : Nat → Int32) (d : Nat) (M0 : MM) (P : Int64 → MM → Prop) : Nat → LL → List VV → MM → Prop := RN 7 false (mS M0).length (mT M0) 0 0 sl sx (callX TBg sl sx (d + 1)) (rtW q53 M0 (PL P)) (as2 tb53)
def w53_15 (s0 : Int64) (M : MM) (P : Int64 → MM → Prop) : Prop := P s0 M
theorem t53_15 {sl : Nat} {sx : Nat → Int32} {d : Nat} {M0 : MM} {P : Int64 → MM → Prop} (s0 : Int64) (M : MM) (hM : lenO M0 M) (h : w53_15  s0 M P) : R53 sl sx d M0 P 15 [none] [vL s0] M := by
  exact RN_k (callX_det _) 1 _ _ _ _ (show rtW q53 M0 (PL P) (some (vL s0)) M from ⟨⟨_, rfl⟩, hM.1, hM.2, _, rfl, h⟩)
def w53 (l0 : Nat) (M : MM) (P : Int64 → MM → Prop) : Prop := kd M l0 7 ∧ w51 l0 M (fun r2 M1 => (r2 = 0 → (w53_15  (1 : Int64) M1 P)) ∧ (¬ (r2 = 0) → (kd M1 l0 7 ∧ (w53_15  (mL M1 l0 0) M1 P))))
theorem t53_E {sl : Nat} {sx : Nat → Int32} {d : Nat} {M0 : MM} {P : Int64 → MM → Prop} (l0 : Nat) (M : MM) (hM : lenO M0 M) (h : w53  l0 M P) : R53 sl sx d M0 P 0 [some (vR (some l0))] [] M := by
  refine RN_k (callX_det _) 2 _ _ _ _ (show kd M l0 7 ∧ callX TBg sl sx (d + 1) 51 [vR (some l0)] M (fun v M9 => R53 sl sx d M0 P 4 [some (vR (some l0))] (pushO v []) M9) from ⟨h.1, ?_⟩)
  replace h := h.2
  refine callX_mono (callX_len (d := (d + 1)) rfl rfl rfl (c51 (d := d) h)) ?_
  clear h
  rintro v9 M1 ⟨hl, r2, rfl, h⟩
  replace hM := lenT hM hl
  show R53 sl sx d M0 P 4 [some (vR (some l0))] [vI r2] M1
  refine RN_k (callX_det _) 1 _ _ _ _ (show (r2 = 0 → R53 sl sx d M0 P 14 [some (vR (some l0))] [] M1) ∧ (¬ (r2 = 0) → R53 sl sx d M0 P 7 [some (vR (some l0))] [] M1) from ⟨fun hc => ?_, fun hc => ?_⟩)
  · replace h := h.1 hc
    refine RN_k (callX_det _) 1 _ _ _ _ (show R53 sl sx d M0 P 15 [some (vR (some l0))] [vL (1 : Int64)] M1 from ?_)
    exact RN_weak (K := [none]) (callX_det _) (show True from trivial) (t53_15  (1 : Int64) _ hM h)
  · replace h := h.2 hc
    refine RN_k (callX_det _) 2 _ _ _ _ (show kd M1 l0 7 ∧ R53 sl sx d M0 P 11 [some (vR (some l0))] [vL (mL M1 l0 0)] M1 from ⟨h.1, ?_⟩)
    replace h := h.2
    refine RN_k (callX_det _) 1 _ _ _ _ (show R53 sl sx d M0 P 15 [some (vR (some l0))] [vL (mL M1 l0 0)] M1 from ?_)
    exact RN_weak (K := [none]) (callX_det _) (show True from trivial) (t53_15  (mL M1 l0 0) _ hM h)
theorem c53 {sl : Nat} {sx : Nat → Int32} {d : Nat} {l0 : Nat} {M : MM} {P : Int64 → MM → Prop} (h : w53 l0 M P) : callX TBg sl sx (d + 2) 53 [vR (some l0)] M (PL P) :=
  cX (d := d + 1) q53 (false, tb53) rfl rfl rfl (t53_E l0 M lenR h)
-- TwoLeash$Fraction.put(JJ)V
abbrev q54 : MQ7 := (3, 1, 5, 3, 0, 0, 0)
abbrev R54 (sl : Nat) (sx : Nat → Int32) (d : Nat) (M0 : MM) (P : MM → Prop) : Nat → LL → List VV → MM → Prop := RN 3 false (mS M0).length (mT M0) 0 0 sl sx (callX TBg sl sx (d + 0)) (rtW q54 M0 (PV P)) (as2 tb54)
def w54 (l0 : Nat) (l1 : Int64) (l3 : Int64) (M : MM) (P : MM → Prop) : Prop := kd M l0 3 ∧ (kd (sL M l0 0 l1) l0 3 ∧ (P (sL (sL M l0 0 l1) l0 1 l3)))
theorem t54_E {sl : Nat} {sx : Nat → Int32} {d : Nat} {M0 : MM} {P : MM → Prop} (l0 : Nat) (l1 : Int64) (l3 : Int64) (M : MM) (hM : lenO M0 M) (h : w54  l0 l1 l3 M P) : R54 sl sx d M0 P 0 [some (vR (some l0)), some (vL l1), none, some (vL l3), none] [] M := by
  refine RN_k (callX_det _) 3 _ _ _ _ (show kd M l0 3 ∧ R54 sl sx d M0 P 5 [some (vR (some l0)), some (vL l1), none, some (vL l3), none] [] (sL M l0 0 l1) from ⟨h.1, ?_⟩)
  replace h := h.2
  refine RN_k (callX_det _) 3 _ _ _ _ (show kd (sL M l0 0 l1) l0 3 ∧ R54 sl sx d M0 P 10 [some (vR (some l0)), some (vL l1), none, some (vL l3), none] [] (sL (sL M l0 0 l1) l0 1 l3) from ⟨h.1, ?_⟩)
  replace h := h.2
  exact RN_k (callX_det _) 1 _ _ _ _ (show rtW q54 M0 (PV P) none (sL (sL M l0 0 l1) l0 1 l3) from ⟨rfl, hM.1, hM.2, rfl, h⟩)
theorem c54 {sl : Nat} {sx : Nat → Int32} {d : Nat} {l0 : Nat} {l1 : Int64} {l3 : Int64} {M : MM} {P : MM → Prop} (h : w54 l0 l1 l3 M P) : callX TBg sl sx (d + 1) 54 [vR (some l0), vL l1, vL l3] M (PV P) :=
  cX (d := d + 0) q54 (false, tb54) rfl rfl rfl (t54_E l0 l1 l3 M lenR h)
-- TwoLeash$Fraction.copy(LTwoLeash$Fraction;)V
abbrev q56 : MQ7 := (2, 1, 2, 3, 0, 0, 0)
abbrev R56 (sl : Nat) (sx : Nat → Int32) (d : Nat) (M0 : MM) (P : MM → Prop) : Nat → LL → List VV → MM → Prop := RN 3 false (mS M0).length (mT M0) 0 0 sl sx (callX TBg sl sx (d + 0)) (rtW q56 M0 (PV P)) (as2 tb56)
def w56 (l0 : Nat) (l1 : Option Nat) (M : MM) (P : MM → Prop) : Prop := ∃ a1, l1 = some a1 ∧ (kd M a1 3 ∧ (kd M l0 3 ∧ (kd (sL M l0 0 (mL M a1 0)) a1 3 ∧ (kd (sL M l0 0 (mL M a1 0)) l0 3 ∧ (P (sL (sL M l0 0 (mL M a1 0)) l0 1 (mL (sL M l0 0 (mL M a1 0)) a1 1)))))))
theorem t56_E {sl : Nat} {sx : Nat → Int32} {d : Nat} {M0 : MM} {P : MM → Prop} (l0 : Nat) (l1 : Option Nat) (M : MM) (hM : lenO M0 M) (h : w56  l0 l1 M P) : R56 sl sx d M0 P 0 [some (vR (some l0)), some (vR l1)] [] M := by
  obtain ⟨a1, he, h⟩ := h
  refine RN_k (callX_det _) 2 _ _ _ _ (show R56 sl sx d M0 P 2 [some (vR (some l0)), some (vR l1)] [vR l1, vR (some l0)] M from ?_)
  subst he
  refine RN_k (callX_det _) 1 _ _ _ _ (show kd M a1 3 ∧ R56 sl sx d M0 P 5 [some (vR (some l0)), some (vR (some a1))] [vL (mL M a1 0), vR (some l0)] M from ⟨h.1, ?_⟩)
  replace h := h.2
  refine RN_k (callX_det _) 1 _ _ _ _ (show kd M l0 3 ∧ R56 sl sx d M0 P 8 [some (vR (some l0)), some (vR (some a1))] [] (sL M l0 0 (mL M a1 0)) from ⟨h.1, ?_⟩)
  replace h := h.2
  refine RN_k (callX_det _) 3 _ _ _ _ (show kd (sL M l0 0 (mL M a1 0)) a1 3 ∧ R56 sl sx d M0 P 13 [some (vR (some l0)), some (vR (some a1))] [vL (mL (sL M l0 0 (mL M a1 0)) a1 1), vR (some l0)] (sL M l0 0 (mL M a1 0)) from ⟨h.1, ?_⟩)
  replace h := h.2
  refine RN_k (callX_det _) 1 _ _ _ _ (show kd (sL M l0 0 (mL M a1 0)) l0 3 ∧ R56 sl sx d M0 P 16 [some (vR (some l0)), some (vR (some a1))] [] (sL (sL M l0 0 (mL M a1 0)) l0 1 (mL (sL M l0 0 (mL M a1 0)) a1 1)) from ⟨h.1, ?_⟩)
  replace h := h.2
  exact RN_k (callX_det _) 1 _ _ _ _ (show rtW q56 M0 (PV P) none (sL (sL M l0 0 (mL M a1 0)) l0 1 (mL (sL M l0 0 (mL M a1 0)) a1 1)) from ⟨rfl, hM.1, hM.2, rfl, h⟩)
theorem c56 {sl : Nat} {sx : Nat → Int32} {d : Nat} {l0 : Nat} {l1 : Option Nat} {M : MM} {P : MM → Prop} (h : w56 l0 l1 M P) : callX TBg sl sx (d + 1) 56 [vR (some l0), vR l1] M (PV P) :=
  cX (d := d + 0) q56 (false, tb56) rfl rfl rfl (t56_E l0 l1 M lenR h)
-- TwoLeash$Fraction.reduce()V
abbrev q57 : MQ7 := (1, 1, 8, 3, 0, 0, 0)
abbrev R57 (sl : Nat) (sx : Nat → Int32) (d : Nat) (M0 : MM) (P : MM → Prop) : Nat → LL → List VV → MM → Prop := RN 3 false (mS M0).length (mT M0) 0 0 sl sx (callX TBg sl sx (d + 0)) (rtW q57 M0 (PV P)) (as2 tb57)
def w57_68 (M : MM) (P : MM → Prop) : Prop := P M
theorem t57_68 {sl : Nat} {sx : Nat → Int32} {d : Nat} {M0 : MM} {P : MM → Prop}  (M : MM) (hM : lenO M0 M) (h : w57_68   M P) : R57 sl sx d M0 P 68 [none, none, none, none, none, none, none, none] [] M := by
  exact RN_k (callX_det _) 1 _ _ _ _ (show rtW q57 M0 (PV P) none M from ⟨rfl, hM.1, hM.2, rfl, h⟩)
def w57_42 (l0 : Nat) (l1 : Int64) (M : MM) (P : MM → Prop) : Prop := ((lg_cmp l1 (1 : Int64)) ≤ 0 → (w57_68  M P)) ∧ (¬ ((lg_cmp l1 (1 : Int64)) ≤ 0) → (kd M l0 3 ∧ (¬ l1 = 0 ∧ (kd M l0 3 ∧ (kd (sL M l0 0 ((mL M l0 0) / l1)) l0 3 ∧ (¬ l1 = 0 ∧ (kd (sL M l0 0 ((mL M l0 0) / l1)) l0 3 ∧ (w57_68  (sL (sL M l0 0 ((mL M l0 0) / l1)) l0 1 ((mL (sL M l0 0 ((mL M l0 0) / l1)) l0 1) / l1)) P))))))))
theorem t57_42 {sl : Nat} {sx : Nat → Int32} {d : Nat} {M0 : MM} {P : MM → Prop} (l0 : Nat) (l1 : Int64) (M : MM) (hM : lenO M0 M) (h : w57_42  l0 l1 M P) : R57 sl sx d M0 P 42 [some (vR (some l0)), some (vL l1), none, none, none, none, none, none] [] M := by
  refine RN_k (callX_det _) 4 _ _ _ _ (show ((lg_cmp l1 (1 : Int64)) ≤ 0 → R57 sl sx d M0 P 68 [some (vR (some l0)), some (vL l1), none, none, none, none, none, none] [] M) ∧ (¬ ((lg_cmp l1 (1 : Int64)) ≤ 0) → R57 sl sx d M0 P 48 [some (vR (some l0)), some (vL l1), none, none, none, none, none, none] [] M) from ⟨fun hc => ?_, fun hc => ?_⟩)
  · replace h := h.1 hc
    exact RN_weak (K := [none, none, none, none, none, none, none, none]) (callX_det _) (show True from trivial) (t57_68   _ hM h)
  · replace h := h.2 hc
    refine RN_k (callX_det _) 3 _ _ _ _ (show kd M l0 3 ∧ R57 sl sx d M0 P 53 [some (vR (some l0)), some (vL l1), none, none, none, none, none, none] [vL (mL M l0 0), vR (some l0)] M from ⟨h.1, ?_⟩)
    replace h := h.2
    refine RN_k (callX_det _) 2 _ _ _ _ (show ¬ l1 = 0 ∧ R57 sl sx d M0 P 55 [some (vR (some l0)), some (vL l1), none, none, none, none, none, none] [vL ((mL M l0 0) / l1), vR (some l0)] M from ⟨h.1, ?_⟩)
    replace h := h.2
    refine RN_k (callX_det _) 1 _ _ _ _ (show kd M l0 3 ∧ R57 sl sx d M0 P 58 [some (vR (some l0)), some (vL l1), none, none, none, none, none, none] [] (sL M l0 0 ((mL M l0 0) / l1)) from ⟨h.1, ?_⟩)
    replace h := h.2
    refine RN_k (callX_det _) 3 _ _ _ _ (show kd (sL M l0 0 ((mL M l0 0) / l1)) l0 3 ∧ R57 sl sx d M0 P 63 [some (vR (some l0)), some (vL l1), none, none, none, none, none, none] [vL (mL (sL M l0 0 ((mL M l0 0) / l1)) l0 1), vR (some l0)] (sL M l0 0 ((mL M l0 0) / l1)) from ⟨h.1, ?_⟩)
    replace h := h.2
    refine RN_k (callX_det _) 2 _ _ _ _ (show ¬ l1 = 0 ∧ R57 sl sx d M0 P 65 [some (vR (some l0)), some (vL l1), none, none, none, none, none, none] [vL ((mL (sL M l0 0 ((mL M l0 0) / l1)) l0 1) / l1), vR (some l0)] (sL M l0 0 ((mL M l0 0) / l1)) from ⟨h.1, ?_⟩)
    replace h := h.2
    refine RN_k (callX_det _) 1 _ _ _ _ (show kd (sL M l0 0 ((mL M l0 0) / l1)) l0 3 ∧ R57 sl sx d M0 P 68 [some (vR (some l0)), some (vL l1), none, none, none, none, none, none] [] (sL (sL M l0 0 ((mL M l0 0) / l1)) l0 1 ((mL (sL M l0 0 ((mL M l0 0) / l1)) l0 1) / l1)) from ⟨h.1, ?_⟩)
    replace h := h.2
    exact RN_weak (K := [none, none, none, none, none, none, none, none]) (callX_det _) (show True from trivial) (t57_68   _ hM h)
def w57_13 : Nat → Nat → Int64 → Int64 → Int32 → MM → (MM → Prop) → Prop
  | 0 => fun _ _ _ _ _ _ => False
  | n + 1 => fun l0 l1 l3 l5 M P => ((100 : Int32) ≤ l5 → (w57_42  l0 l1 M P)) ∧ (¬ ((100 : Int32) ≤ l5) → (((lg_cmp l3 (0 : Int64)) = 0 → (w57_42  l0 l1 M P)) ∧ (¬ ((lg_cmp l3 (0 : Int64)) = 0) → (¬ l3 = 0 ∧ (w57_13  n l0 l3 (l1 - l1 / l3 * l3) (l5 + (1 : Int32)) M P)))))
theorem t57_13 {sl : Nat} {sx : Nat → Int32} {d : Nat} {M0 : MM} {P : MM → Prop} (n : Nat) : ∀ (l0 : Nat) (l1 : Int64) (l3 : Int64) (l5 : Int32) (M : MM) (_ : lenO M0 M) (_ : w57_13  n l0 l1 l3 l5 M P), R57 sl sx d M0 P 13 [some (vR (some l0)), some (vL l1), none, some (vL l3), none, some (vI l5), none, none] [] M := by
  induction n with
  | zero => intro l0 l1 l3 l5 M hM h; cases h
  | succ n ih =>
    intro l0 l1 l3 l5 M hM h
    refine RN_k (callX_det _) 3 _ _ _ _ (show ((100 : Int32) ≤ l5 → R57 sl sx d M0 P 42 [some (vR (some l0)), some (vL l1), none, some (vL l3), none, some (vI l5), none, none] [] M) ∧ (¬ ((100 : Int32) ≤ l5) → R57 sl sx d M0 P 20 [some (vR (some l0)), some (vL l1), none, some (vL l3), none, some (vI l5), none, none] [] M) from ⟨fun hc => ?_, fun hc => ?_⟩)
    · replace h := h.1 hc
      exact RN_weak (K := [some (vR (some l0)), some (vL l1), none, none, none, none, none, none]) (callX_det _) (show _ ∧ _ ∧ True from ⟨rfl, rfl, trivial⟩) (t57_42  l0 l1 _ hM h)
    · replace h := h.2 hc
      refine RN_k (callX_det _) 4 _ _ _ _ (show ((lg_cmp l3 (0 : Int64)) = 0 → R57 sl sx d M0 P 42 [some (vR (some l0)), some (vL l1), none, some (vL l3), none, some (vI l5), none, none] [] M) ∧ (¬ ((lg_cmp l3 (0 : Int64)) = 0) → R57 sl sx d M0 P 26 [some (vR (some l0)), some (vL l1), none, some (vL l3), none, some (vI l5), none, none] [] M) from ⟨fun hc => ?_, fun hc => ?_⟩)
      · replace h := h.1 hc
        exact RN_weak (K := [some (vR (some l0)), some (vL l1), none, none, none, none, none, none]) (callX_det _) (show _ ∧ _ ∧ True from ⟨rfl, rfl, trivial⟩) (t57_42  l0 l1 _ hM h)
      · replace h := h.2 hc
        refine RN_k (callX_det _) 3 _ _ _ _ (show ¬ l3 = 0 ∧ R57 sl sx d M0 P 29 [some (vR (some l0)), some (vL l1), none, some (vL l3), none, some (vI l5), none, none] [vL (l1 - l1 / l3 * l3)] M from ⟨h.1, ?_⟩)
        replace h := h.2
        refine RN_k (callX_det _) 7 _ _ _ _ (show R57 sl sx d M0 P 13 [some (vR (some l0)), some (vL l3), none, some (vL (l1 - l1 / l3 * l3)), none, some (vI (l5 + (1 : Int32))), some (vL (l1 - l1 / l3 * l3)), none] [] M from ?_)
        exact RN_weak (K := [some (vR (some l0)), some (vL l3), none, some (vL (l1 - l1 / l3 * l3)), none, some (vI (l5 + (1 : Int32))), none, none]) (callX_det _) (show _ ∧ _ ∧ _ ∧ _ ∧ True from ⟨rfl, rfl, rfl, rfl, trivial⟩) (ih l0 l3 (l1 - l1 / l3 * l3) (l5 + (1 : Int32)) _ hM h)
def w57 (l0 : Nat) (M : MM) (P : MM → Prop) : Prop := kd M l0 3 ∧ (kd M l0 3 ∧ (∃ n2, w57_13  n2 l0 (mL M l0 0) (mL M l0 1) (0 : Int32) M P))
theorem t57_E {sl : Nat} {sx : Nat → Int32} {d : Nat} {M0 : MM} {P : MM → Prop} (l0 : Nat) (M : MM) (hM : lenO M0 M) (h : w57  l0 M P) : R57 sl sx d M0 P 0 [some (vR (some l0)), none, none, none, none, none, none, none] [] M := by
  refine RN_k (callX_det _) 2 _ _ _ _ (show kd M l0 3 ∧ R57 sl sx d M0 P 4 [some (vR (some l0)), none, none, none, none, none, none, none] [vL (mL M l0 0)] M from ⟨h.1, ?_⟩)
  replace h := h.2
  refine RN_k (callX_det _) 3 _ _ _ _ (show kd M l0 3 ∧ R57 sl sx d M0 P 9 [some (vR (some l0)), some (vL (mL M l0 0)), none, none, none, none, none, none] [vL (mL M l0 1)] M from ⟨h.1, ?_⟩)
  replace h := h.2
  refine RN_k (callX_det _) 3 _ _ _ _ (show R57 sl sx d M0 P 13 [some (vR (some l0)), some (vL (mL M l0 0)), none, some (vL (mL M l0 1)), none, some (vI (0 : Int32)), none, none] [] M from ?_)
  obtain ⟨n2, h⟩ := h
  exact RN_weak (K := [some (vR (some l0)), some (vL (mL M l0 0)), none, some (vL (mL M l0 1)), none, some (vI (0 : Int32)), none, none]) (callX_det _) (show _ ∧ _ ∧ _ ∧ _ ∧ True from ⟨rfl, rfl, rfl, rfl, trivial⟩) (t57_13  n2 l0 (mL M l0 0) (mL M l0 1) (0 : Int32) _ hM h)
theorem c57 {sl : Nat} {sx : Nat → Int32} {d : Nat} {l0 : Nat} {M : MM} {P : MM → Prop} (h : w57 l0 M P) : callX TBg sl sx (d + 1) 57 [vR (some l0)] M (PV P) :=
  cX (d := d + 0) q57 (false, tb57) rfl rfl rfl (t57_E l0 M lenR h)
-- TwoLeash.tell(LTwoLeash$Fraction;)Z
abbrev q55 : MQ7 := (2, 1, 2, 9, 0, 0, 4)
abbrev R55 (sl : Nat) (sx : Nat → Int32) (d : Nat) (M0 : MM) (P : Int32 → MM → Prop) : Nat → LL → List VV → MM → Prop := RN 9 false (mS M0).length (mT M0) 0 0 sl sx (callX TBg sl sx (d + 1)) (rtW q55 M0 (PI P)) (as2 tb55)
def w55 (l0 : Nat) (l1 : Option Nat) (M : MM) (P : Int32 → MM → Prop) : Prop := kd M l0 9 ∧ (∃ a1, mR M l0 11 = some a1 ∧ (kd M a1 3 ∧ w56 a1 l1 M (fun M2 => kd M2 l0 9 ∧ (∃ a3, mR M2 l0 11 = some a3 ∧ (kd M2 a3 3 ∧ w57 a3 M2 (fun M4 => kd M4 l0 9 ∧ (P (1 : Int32) (sI M4 l0 10 (0 : Int32)))))))))
theorem t55_E {sl : Nat} {sx : Nat → Int32} {d : Nat} {M0 : MM} {P : Int32 → MM → Prop} (l0 : Nat) (l1 : Option Nat) (M : MM) (hM : lenO M0 M) (h : w55  l0 l1 M P) : R55 sl sx d M0 P 0 [some (vR (some l0)), some (vR l1)] [] M := by
  refine RN_k (callX_det _) 2 _ _ _ _ (show kd M l0 9 ∧ R55 sl sx d M0 P 4 [some (vR (some l0)), some (vR l1)] [vR (mR M l0 11)] M from ⟨h.1, ?_⟩)
  replace h := h.2
  obtain ⟨a1, he, h⟩ := h
  refine RN_k (callX_det _) 1 _ _ _ _ (show R55 sl sx d M0 P 5 [some (vR (some l0)), some (vR l1)] [vR l1, vR (mR M l0 11)] M from ?_)
  rw [he]
  refine RN_k (callX_det _) 1 _ _ _ _ (show kd M a1 3 ∧ callX TBg sl sx (d + 1) 56 [vR (some a1), vR l1] M (fun v M9 => R55 sl sx d M0 P 8 [some (vR (some l0)), some (vR l1)] (pushO v []) M9) from ⟨h.1, ?_⟩)
  replace h := h.2
  refine callX_mono (callX_len (d := (d + 1)) rfl rfl rfl (c56 (d := d) h)) ?_
  clear h
  rintro v9 M2 ⟨hl, rfl, h⟩
  replace hM := lenT hM hl
  show R55 sl sx d M0 P 8 [some (vR (some l0)), some (vR l1)] [] M2
  refine RN_k (callX_det _) 2 _ _ _ _ (show kd M2 l0 9 ∧ R55 sl sx d M0 P 12 [some (vR (some l0)), some (vR l1)] [vR (mR M2 l0 11)] M2 from ⟨h.1, ?_⟩)
  replace h := h.2
  obtain ⟨a3, he, h⟩ := h
  rw [he]
  refine RN_k (callX_det _) 1 _ _ _ _ (show kd M2 a3 3 ∧ callX TBg sl sx (d + 1) 57 [vR (some a3)] M2 (fun v M9 => R55 sl sx d M0 P 15 [some (vR (some l0)), some (vR l1)] (pushO v []) M9) from ⟨h.1, ?_⟩)
  replace h := h.2
  refine callX_mono (callX_len (d := (d + 1)) rfl rfl rfl (c57 (d := d) h)) ?_
  clear h
  rintro v9 M4 ⟨hl, rfl, h⟩
  replace hM := lenT hM hl
  show R55 sl sx d M0 P 15 [some (vR (some l0)), some (vR l1)] [] M4
  refine RN_k (callX_det _) 3 _ _ _ _ (show kd M4 l0 9 ∧ R55 sl sx d M0 P 20 [some (vR (some l0)), some (vR l1)] [] (sI M4 l0 10 (0 : Int32)) from ⟨h.1, ?_⟩)
  replace h := h.2
  exact RN_k (callX_det _) 2 _ _ _ _ (show rtW q55 M0 (PI P) (some (vI (1 : Int32))) (sI M4 l0 10 (0 : Int32)) from ⟨⟨_, rfl, Or.inr rfl⟩, hM.1, hM.2, _, rfl, h⟩)
theorem c55 {sl : Nat} {sx : Nat → Int32} {d : Nat} {l0 : Nat} {l1 : Option Nat} {M : MM} {P : Int32 → MM → Prop} (h : w55 l0 l1 M P) : callX TBg sl sx (d + 2) 55 [vR (some l0), vR l1] M (PI P) :=
  cX (d := d + 1) q55 (false, tb55) rfl rfl rfl (t55_E l0 l1 M lenR h)
-- TwoLeash.near(IIII)Z
abbrev q46 : MQ7 := (5, 1, 5, 9, 0, 0, 4)
abbrev R46 (sl : Nat) (sx : Nat → Int32) (d : Nat) (M0 : MM) (P : Int32 → MM → Prop) : Nat → LL → List VV → MM → Prop := RN 9 false (mS M0).length (mT M0) 0 0 sl sx (callX TBg sl sx (d + 2)) (rtW q46 M0 (PI P)) (as2 tb46)
def w46_19 (l0 : Nat) (M : MM) (P : Int32 → MM → Prop) : Prop := kd M l0 9 ∧ w48 l0 (2 : Int32) M (fun r2 M1 => (r2 = 0 ∨ r2 = 1) ∧ P r2 M1)
theorem t46_19 {sl : Nat} {sx : Nat → Int32} {d : Nat} {M0 : MM} {P : Int32 → MM → Prop} (l0 : Nat) (M : MM) (hM : lenO M0 M) (h : w46_19  l0 M P) : R46 sl sx d M0 P 19 [some (vR (some l0)), none, none, none, none] [] M := by
  refine RN_k (callX_det _) 3 _ _ _ _ (show kd M l0 9 ∧ callX TBg sl sx (d + 2) 48 [vR (some l0), vI (2 : Int32)] M (fun v M9 => R46 sl sx d M0 P 24 [some (vR (some l0)), none, none, none, none] (pushO v []) M9) from ⟨h.1, ?_⟩)
  replace h := h.2
  refine callX_mono (callX_len (d := (d + 2)) rfl rfl rfl (c48 (d := d + 1) h)) ?_
  clear h
  rintro v9 M1 ⟨hl, r2, rfl, h⟩
  replace hM := lenT hM hl
  show R46 sl sx d M0 P 24 [some (vR (some l0)), none, none, none, none] [vI r2] M1
  exact RN_k (callX_det _) 1 _ _ _ _ (show rtW q46 M0 (PI P) (some (vI r2)) M1 from ⟨⟨_, rfl, h.1⟩, hM.1, hM.2, _, rfl, h.2⟩)
def w46 (l0 : Nat) (l1 : Int32) (l2 : Int32) (l3 : Int32) (l4 : Int32) (M : MM) (P : Int32 → MM → Prop) : Prop := kd M l0 9 ∧ w45 l0 l1 l2 M (fun r2 M1 => (r2 = 0 → (w46_19  l0 M1 P)) ∧ (¬ (r2 = 0) → (kd M1 l0 9 ∧ w47 l0 l3 l4 M1 (fun r4 M3 => (r4 ≠ 0 → (kd M3 l0 9 ∧ (kd M3 l0 9 ∧ (∃ a5, mR M3 l0 5 = some a5 ∧ (inb M3 a5 16 l3 ∧ (kd M3 l0 9 ∧ (∃ a6, mR M3 l0 5 = some a6 ∧ (inb M3 a6 16 l1 ∧ (∃ a7, mR M3 l0 16 = some a7 ∧ (kd M3 a7 7 ∧ w49 a7 (mR M3 a5 l3.toNatClampNeg) l4 (mR M3 a6 l1.toNatClampNeg) l2 M3 (fun M8 => kd M8 l0 9 ∧ (kd M8 l0 9 ∧ (∃ a9, mR M8 l0 16 = some a9 ∧ (kd M8 a9 7 ∧ w50 a9 M8 (fun r11 M10 => kd M10 l0 9 ∧ (∃ a12, mR M10 l0 16 = some a12 ∧ (kd M10 a12 7 ∧ w53 a12 M10 (fun r14 M13 => ∃ a15, mR M8 l0 12 = some a15 ∧ (kd M13 a15 3 ∧ w54 a15 r11 r14 M13 (fun M16 => kd M16 l0 9 ∧ (kd M16 l0 9 ∧ w55 l0 (mR M16 l0 12) M16 (fun r18 M17 => (r18 = 0 ∨ r18 = 1) ∧ P r18 M17)))))))))))))))))))))) ∧ (¬ (r4 ≠ 0) → (w46_19  l0 M3 P))))))
theorem t46_E {sl : Nat} {sx : Nat → Int32} {d : Nat} {M0 : MM} {P : Int32 → MM → Prop} (l0 : Nat) (l1 : Int32) (l2 : Int32) (l3 : Int32) (l4 : Int32) (M : MM) (hM : lenO M0 M) (h : w46  l0 l1 l2 l3 l4 M P) : R46 sl sx d M0 P 0 [some (vR (some l0)), some (vI l1), some (vI l2), some (vI l3), some (vI l4)] [] M := by
  refine RN_k (callX_det _) 4 _ _ _ _ (show kd M l0 9 ∧ callX TBg sl sx (d + 2) 45 [vR (some l0), vI l1, vI l2] M (fun v M9 => R46 sl sx d M0 P 6 [some (vR (some l0)), some (vI l1), some (vI l2), some (vI l3), some (vI l4)] (pushO v []) M9) from ⟨h.1, ?_⟩)
  replace h := h.2
  refine callX_mono (callX_len (d := (d + 2)) rfl rfl rfl (c45 (d := d) h)) ?_
  clear h
  rintro v9 M1 ⟨hl, r2, rfl, h⟩
  replace hM := lenT hM hl
  show R46 sl sx d M0 P 6 [some (vR (some l0)), some (vI l1), some (vI l2), some (vI l3), some (vI l4)] [vI r2] M1
  refine RN_k (callX_det _) 1 _ _ _ _ (show (r2 = 0 → R46 sl sx d M0 P 19 [some (vR (some l0)), some (vI l1), some (vI l2), some (vI l3), some (vI l4)] [] M1) ∧ (¬ (r2 = 0) → R46 sl sx d M0 P 9 [some (vR (some l0)), some (vI l1), some (vI l2), some (vI l3), some (vI l4)] [] M1) from ⟨fun hc => ?_, fun hc => ?_⟩)
  · replace h := h.1 hc
    exact RN_weak (K := [some (vR (some l0)), none, none, none, none]) (callX_det _) (show _ ∧ True from ⟨rfl, trivial⟩) (t46_19  l0 _ hM h)
  · replace h := h.2 hc
    refine RN_k (callX_det _) 4 _ _ _ _ (show kd M1 l0 9 ∧ callX TBg sl sx (d + 2) 47 [vR (some l0), vI l3, vI l4] M1 (fun v M9 => R46 sl sx d M0 P 16 [some (vR (some l0)), some (vI l1), some (vI l2), some (vI l3), some (vI l4)] (pushO v []) M9) from ⟨h.1, ?_⟩)
    replace h := h.2
    refine callX_mono (callX_len (d := (d + 2)) rfl rfl rfl (c47 (d := d) h)) ?_
    clear h
    rintro v9 M3 ⟨hl, r4, rfl, h⟩
    replace hM := lenT hM hl
    show R46 sl sx d M0 P 16 [some (vR (some l0)), some (vI l1), some (vI l2), some (vI l3), some (vI l4)] [vI r4] M3
    refine RN_k (callX_det _) 1 _ _ _ _ (show (r4 ≠ 0 → R46 sl sx d M0 P 25 [some (vR (some l0)), some (vI l1), some (vI l2), some (vI l3), some (vI l4)] [] M3) ∧ (¬ (r4 ≠ 0) → R46 sl sx d M0 P 19 [some (vR (some l0)), some (vI l1), some (vI l2), some (vI l3), some (vI l4)] [] M3) from ⟨fun hc => ?_, fun hc => ?_⟩)
    · replace h := h.1 hc
      refine RN_k (callX_det _) 2 _ _ _ _ (show kd M3 l0 9 ∧ R46 sl sx d M0 P 29 [some (vR (some l0)), some (vI l1), some (vI l2), some (vI l3), some (vI l4)] [vR (mR M3 l0 16)] M3 from ⟨h.1, ?_⟩)
      replace h := h.2
      refine RN_k (callX_det _) 2 _ _ _ _ (show kd M3 l0 9 ∧ R46 sl sx d M0 P 33 [some (vR (some l0)), some (vI l1), some (vI l2), some (vI l3), some (vI l4)] [vR (mR M3 l0 5), vR (mR M3 l0 16)] M3 from ⟨h.1, ?_⟩)
      replace h := h.2
      obtain ⟨a5, he, h⟩ := h
      refine RN_k (callX_det _) 1 _ _ _ _ (show R46 sl sx d M0 P 34 [some (vR (some l0)), some (vI l1), some (vI l2), some (vI l3), some (vI l4)] [vI l3, vR (mR M3 l0 5), vR (mR M3 l0 16)] M3 from ?_)
      rw [he]
      refine RN_k (callX_det _) 1 _ _ _ _ (show inb M3 a5 16 l3 ∧ R46 sl sx d M0 P 35 [some (vR (some l0)), some (vI l1), some (vI l2), some (vI l3), some (vI l4)] [vR (mR M3 a5 l3.toNatClampNeg), vR (mR M3 l0 16)] M3 from ⟨h.1, ?_⟩)
      replace h := h.2
      refine RN_k (callX_det _) 3 _ _ _ _ (show kd M3 l0 9 ∧ R46 sl sx d M0 P 41 [some (vR (some l0)), some (vI l1), some (vI l2), some (vI l3), some (vI l4)] [vR (mR M3 l0 5), vI l4, vR (mR M3 a5 l3.toNatClampNeg), vR (mR M3 l0 16)] M3 from ⟨h.1, ?_⟩)
      replace h := h.2
      obtain ⟨a6, he, h⟩ := h
      refine RN_k (callX_det _) 1 _ _ _ _ (show R46 sl sx d M0 P 42 [some (vR (some l0)), some (vI l1), some (vI l2), some (vI l3), some (vI l4)] [vI l1, vR (mR M3 l0 5), vI l4, vR (mR M3 a5 l3.toNatClampNeg), vR (mR M3 l0 16)] M3 from ?_)
      rw [he]
      refine RN_k (callX_det _) 1 _ _ _ _ (show inb M3 a6 16 l1 ∧ R46 sl sx d M0 P 43 [some (vR (some l0)), some (vI l1), some (vI l2), some (vI l3), some (vI l4)] [vR (mR M3 a6 l1.toNatClampNeg), vI l4, vR (mR M3 a5 l3.toNatClampNeg), vR (mR M3 l0 16)] M3 from ⟨h.1, ?_⟩)
      replace h := h.2
      obtain ⟨a7, he, h⟩ := h
      refine RN_k (callX_det _) 1 _ _ _ _ (show R46 sl sx d M0 P 44 [some (vR (some l0)), some (vI l1), some (vI l2), some (vI l3), some (vI l4)] [vI l2, vR (mR M3 a6 l1.toNatClampNeg), vI l4, vR (mR M3 a5 l3.toNatClampNeg), vR (mR M3 l0 16)] M3 from ?_)
      rw [he]
      refine RN_k (callX_det _) 1 _ _ _ _ (show kd M3 a7 7 ∧ callX TBg sl sx (d + 2) 49 [vR (some a7), vR (mR M3 a5 l3.toNatClampNeg), vI l4, vR (mR M3 a6 l1.toNatClampNeg), vI l2] M3 (fun v M9 => R46 sl sx d M0 P 47 [some (vR (some l0)), some (vI l1), some (vI l2), some (vI l3), some (vI l4)] (pushO v []) M9) from ⟨h.1, ?_⟩)
      replace h := h.2
      refine callX_mono (callX_len (d := (d + 2)) rfl rfl rfl (c49 (d := d + 1) h)) ?_
      clear h
      rintro v9 M8 ⟨hl, rfl, h⟩
      replace hM := lenT hM hl
      show R46 sl sx d M0 P 47 [some (vR (some l0)), some (vI l1), some (vI l2), some (vI l3), some (vI l4)] [] M8
      refine RN_k (callX_det _) 2 _ _ _ _ (show kd M8 l0 9 ∧ R46 sl sx d M0 P 51 [some (vR (some l0)), some (vI l1), some (vI l2), some (vI l3), some (vI l4)] [vR (mR M8 l0 12)] M8 from ⟨h.1, ?_⟩)
      replace h := h.2
      refine RN_k (callX_det _) 2 _ _ _ _ (show kd M8 l0 9 ∧ R46 sl sx d M0 P 55 [some (vR (some l0)), some (vI l1), some (vI l2), some (vI l3), some (vI l4)] [vR (mR M8 l0 16), vR (mR M8 l0 12)] M8 from ⟨h.1, ?_⟩)
      replace h := h.2
      obtain ⟨a9, he, h⟩ := h
      rw [he]
      refine RN_k (callX_det _) 1 _ _ _ _ (show kd M8 a9 7 ∧ callX TBg sl sx (d + 2) 50 [vR (some a9)] M8 (fun v M9 => R46 sl sx d M0 P 58 [some (vR (some l0)), some (vI l1), some (vI l2), some (vI l3), some (vI l4)] (pushO v [vR (mR M8 l0 12)]) M9) from ⟨h.1, ?_⟩)
      replace h := h.2
      refine callX_mono (callX_len (d := (d + 2)) rfl rfl rfl (c50 (d := d) h)) ?_
      clear h
      rintro v9 M10 ⟨hl, r11, rfl, h⟩
      replace hM := lenT hM hl
      show R46 sl sx d M0 P 58 [some (vR (some l0)), some (vI l1), some (vI l2), some (vI l3), some (vI l4)] [vL r11, vR (mR M8 l0 12)] M10
      refine RN_k (callX_det _) 2 _ _ _ _ (show kd M10 l0 9 ∧ R46 sl sx d M0 P 62 [some (vR (some l0)), some (vI l1), some (vI l2), some (vI l3), some (vI l4)] [vR (mR M10 l0 16), vL r11, vR (mR M8 l0 12)] M10 from ⟨h.1, ?_⟩)
      replace h := h.2
      obtain ⟨a12, he, h⟩ := h
      rw [he]
      refine RN_k (callX_det _) 1 _ _ _ _ (show kd M10 a12 7 ∧ callX TBg sl sx (d + 2) 53 [vR (some a12)] M10 (fun v M9 => R46 sl sx d M0 P 65 [some (vR (some l0)), some (vI l1), some (vI l2), some (vI l3), some (vI l4)] (pushO v [vL r11, vR (mR M8 l0 12)]) M9) from ⟨h.1, ?_⟩)
      replace h := h.2
      refine callX_mono (callX_len (d := (d + 2)) rfl rfl rfl (c53 (d := d) h)) ?_
      clear h
      rintro v9 M13 ⟨hl, r14, rfl, h⟩
      replace hM := lenT hM hl
      show R46 sl sx d M0 P 65 [some (vR (some l0)), some (vI l1), some (vI l2), some (vI l3), some (vI l4)] [vL r14, vL r11, vR (mR M8 l0 12)] M13
      obtain ⟨a15, he, h⟩ := h
      rw [he]
      refine RN_k (callX_det _) 1 _ _ _ _ (show kd M13 a15 3 ∧ callX TBg sl sx (d + 2) 54 [vR (some a15), vL r11, vL r14] M13 (fun v M9 => R46 sl sx d M0 P 68 [some (vR (some l0)), some (vI l1), some (vI l2), some (vI l3), some (vI l4)] (pushO v []) M9) from ⟨h.1, ?_⟩)
      replace h := h.2
      refine callX_mono (callX_len (d := (d + 2)) rfl rfl rfl (c54 (d := d + 1) h)) ?_
      clear h
      rintro v9 M16 ⟨hl, rfl, h⟩
      replace hM := lenT hM hl
      show R46 sl sx d M0 P 68 [some (vR (some l0)), some (vI l1), some (vI l2), some (vI l3), some (vI l4)] [] M16
      refine RN_k (callX_det _) 3 _ _ _ _ (show kd M16 l0 9 ∧ R46 sl sx d M0 P 73 [some (vR (some l0)), some (vI l1), some (vI l2), some (vI l3), some (vI l4)] [vR (mR M16 l0 12), vR (some l0)] M16 from ⟨h.1, ?_⟩)
      replace h := h.2
      refine RN_k (callX_det _) 1 _ _ _ _ (show kd M16 l0 9 ∧ callX TBg sl sx (d + 2) 55 [vR (some l0), vR (mR M16 l0 12)] M16 (fun v M9 => R46 sl sx d M0 P 76 [some (vR (some l0)), some (vI l1), some (vI l2), some (vI l3), some (vI l4)] (pushO v []) M9) from ⟨h.1, ?_⟩)
      replace h := h.2
      refine callX_mono (callX_len (d := (d + 2)) rfl rfl rfl (c55 (d := d) h)) ?_
      clear h
      rintro v9 M17 ⟨hl, r18, rfl, h⟩
      replace hM := lenT hM hl
      show R46 sl sx d M0 P 76 [some (vR (some l0)), some (vI l1), some (vI l2), some (vI l3), some (vI l4)] [vI r18] M17
      exact RN_k (callX_det _) 1 _ _ _ _ (show rtW q46 M0 (PI P) (some (vI r18)) M17 from ⟨⟨_, rfl, h.1⟩, hM.1, hM.2, _, rfl, h.2⟩)
    · replace h := h.2 hc
      exact RN_weak (K := [some (vR (some l0)), none, none, none, none]) (callX_det _) (show _ ∧ True from ⟨rfl, trivial⟩) (t46_19  l0 _ hM h)
theorem c46 {sl : Nat} {sx : Nat → Int32} {d : Nat} {l0 : Nat} {l1 : Int32} {l2 : Int32} {l3 : Int32} {l4 : Int32} {M : MM} {P : Int32 → MM → Prop} (h : w46 l0 l1 l2 l3 l4 M P) : callX TBg sl sx (d + 3) 46 [vR (some l0), vI l1, vI l2, vI l3, vI l4] M (PI P) :=
  cX (d := d + 2) q46 (false, tb46) rfl rfl rfl (t46_E l0 l1 l2 l3 l4 M lenR h)
-- TwoLeash$Side.isNearerThan(LTwoLeash$Fraction;)Z
abbrev q60 : MQ7 := (2, 1, 2, 7, 0, 0, 4)
abbrev R60 (sl : Nat) (sx : Nat → Int32) (d : Nat) (M0 : MM) (P : Int32 → MM → Prop) : Nat → LL → List VV → MM → Prop := RN 7 false (mS M0).length (mT M0) 0 0 sl sx (callX TBg sl sx (d + 2)) (rtW q60 M0 (PI P)) (as2 tb60)
def w60_27 (s0 : Int32) (M : MM) (P : Int32 → MM → Prop) : Prop := (s0 = 0 ∨ s0 = 1) ∧ P s0 M
theorem t60_27 {sl : Nat} {sx : Nat → Int32} {d : Nat} {M0 : MM} {P : Int32 → MM → Prop} (s0 : Int32) (M : MM) (hM : lenO M0 M) (h : w60_27  s0 M P) : R60 sl sx d M0 P 27 [none, none] [vI s0] M := by
  exact RN_k (callX_det _) 1 _ _ _ _ (show rtW q60 M0 (PI P) (some (vI s0)) M from ⟨⟨_, rfl, h.1⟩, hM.1, hM.2, _, rfl, h.2⟩)
def w60 (l0 : Nat) (l1 : Option Nat) (M : MM) (P : Int32 → MM → Prop) : Prop := kd M l0 7 ∧ w50 l0 M (fun r2 M1 => ∃ a3, l1 = some a3 ∧ (kd M1 a3 3 ∧ (kd M1 a3 3 ∧ (kd M1 l0 7 ∧ w53 l0 M1 (fun r5 M4 => (0 ≤ (lg_cmp (r2 * (mL M1 a3 1)) ((mL M1 a3 0) * r5)) → (w60_27  (0 : Int32) M4 P)) ∧ (¬ (0 ≤ (lg_cmp (r2 * (mL M1 a3 1)) ((mL M1 a3 0) * r5))) → (w60_27  (1 : Int32) M4 P)))))))
theorem t60_E {sl : Nat} {sx : Nat → Int32} {d : Nat} {M0 : MM} {P : Int32 → MM → Prop} (l0 : Nat) (l1 : Option Nat) (M : MM) (hM : lenO M0 M) (h : w60  l0 l1 M P) : R60 sl sx d M0 P 0 [some (vR (some l0)), some (vR l1)] [] M := by
  refine RN_k (callX_det _) 2 _ _ _ _ (show kd M l0 7 ∧ callX TBg sl sx (d + 2) 50 [vR (some l0)] M (fun v M9 => R60 sl sx d M0 P 4 [some (vR (some l0)), some (vR l1)] (pushO v []) M9) from ⟨h.1, ?_⟩)
  replace h := h.2
  refine callX_mono (callX_len (d := (d + 2)) rfl rfl rfl (c50 (d := d) h)) ?_
  clear h
  rintro v9 M1 ⟨hl, r2, rfl, h⟩
  replace hM := lenT hM hl
  show R60 sl sx d M0 P 4 [some (vR (some l0)), some (vR l1)] [vL r2] M1
  obtain ⟨a3, he, h⟩ := h
  refine RN_k (callX_det _) 1 _ _ _ _ (show R60 sl sx d M0 P 5 [some (vR (some l0)), some (vR l1)] [vR l1, vL r2] M1 from ?_)
  subst he
  refine RN_k (callX_det _) 1 _ _ _ _ (show kd M1 a3 3 ∧ R60 sl sx d M0 P 8 [some (vR (some l0)), some (vR (some a3))] [vL (mL M1 a3 1), vL r2] M1 from ⟨h.1, ?_⟩)
  replace h := h.2
  refine RN_k (callX_det _) 3 _ _ _ _ (show kd M1 a3 3 ∧ R60 sl sx d M0 P 13 [some (vR (some l0)), some (vR (some a3))] [vL (mL M1 a3 0), vL (r2 * (mL M1 a3 1))] M1 from ⟨h.1, ?_⟩)
  replace h := h.2
  refine RN_k (callX_det _) 2 _ _ _ _ (show kd M1 l0 7 ∧ callX TBg sl sx (d + 2) 53 [vR (some l0)] M1 (fun v M9 => R60 sl sx d M0 P 17 [some (vR (some l0)), some (vR (some a3))] (pushO v [vL (mL M1 a3 0), vL (r2 * (mL M1 a3 1))]) M9) from ⟨h.1, ?_⟩)
  replace h := h.2
  refine callX_mono (callX_len (d := (d + 2)) rfl rfl rfl (c53 (d := d) h)) ?_
  clear h
  rintro v9 M4 ⟨hl, r5, rfl, h⟩
  replace hM := lenT hM hl
  show R60 sl sx d M0 P 17 [some (vR (some l0)), some (vR (some a3))] [vL r5, vL (mL M1 a3 0), vL (r2 * (mL M1 a3 1))] M4
  refine RN_k (callX_det _) 3 _ _ _ _ (show (0 ≤ (lg_cmp (r2 * (mL M1 a3 1)) ((mL M1 a3 0) * r5)) → R60 sl sx d M0 P 26 [some (vR (some l0)), some (vR (some a3))] [] M4) ∧ (¬ (0 ≤ (lg_cmp (r2 * (mL M1 a3 1)) ((mL M1 a3 0) * r5))) → R60 sl sx d M0 P 22 [some (vR (some l0)), some (vR (some a3))] [] M4) from ⟨fun hc => ?_, fun hc => ?_⟩)
  · replace h := h.1 hc
    refine RN_k (callX_det _) 1 _ _ _ _ (show R60 sl sx d M0 P 27 [some (vR (some l0)), some (vR (some a3))] [vI (0 : Int32)] M4 from ?_)
    exact RN_weak (K := [none, none]) (callX_det _) (show True from trivial) (t60_27  (0 : Int32) _ hM h)
  · replace h := h.2 hc
    refine RN_k (callX_det _) 2 _ _ _ _ (show R60 sl sx d M0 P 27 [some (vR (some l0)), some (vR (some a3))] [vI (1 : Int32)] M4 from ?_)
    exact RN_weak (K := [none, none]) (callX_det _) (show True from trivial) (t60_27  (1 : Int32) _ hM h)
theorem c60 {sl : Nat} {sx : Nat → Int32} {d : Nat} {l0 : Nat} {l1 : Option Nat} {M : MM} {P : Int32 → MM → Prop} (h : w60 l0 l1 M P) : callX TBg sl sx (d + 3) 60 [vR (some l0), vR l1] M (PI P) :=
  cX (d := d + 2) q60 (false, tb60) rfl rfl rfl (t60_E l0 l1 M lenR h)
-- TwoLeash.findNearest(LTwoLeash$Track;ILTwoLeash$Track;)I
abbrev q59 : MQ7 := (4, 1, 6, 9, 0, 0, 1)
abbrev R59 (sl : Nat) (sx : Nat → Int32) (d : Nat) (M0 : MM) (P : Int32 → MM → Prop) : Nat → LL → List VV → MM → Prop := RN 9 false (mS M0).length (mT M0) 0 0 sl sx (callX TBg sl sx (d + 3)) (rtW q59 M0 (PI P)) (as2 tb59)
def w59_74 (k6 : Nat → Option Nat → Int32 → Option Nat → Int32 → Int32 → MM → Prop) (l0 : Nat) (l1 : Option Nat) (l2 : Int32) (l3 : Option Nat) (l4 : Int32) (l5 : Int32) (M : MM) (P : Int32 → MM → Prop) : Prop := k6 l0 l1 l2 l3 l4 (l5 + (1 : Int32)) M
theorem t59_74 {sl : Nat} {sx : Nat → Int32} {d : Nat} {M0 : MM} {P : Int32 → MM → Prop} {k6 : Nat → Option Nat → Int32 → Option Nat → Int32 → Int32 → MM → Prop} (hk6 : ∀ (l0 : Nat) (l1 : Option Nat) (l2 : Int32) (l3 : Option Nat) (l4 : Int32) (l5 : Int32) (M : MM), lenO M0 M → k6 l0 l1 l2 l3 l4 l5 M → R59 sl sx d M0 P 6 [some (vR (some l0)), some (vR l1), some (vI l2), some (vR l3), some (vI l4), some (vI l5)] [] M) (l0 : Nat) (l1 : Option Nat) (l2 : Int32) (l3 : Option Nat) (l4 : Int32) (l5 : Int32) (M : MM) (hM : lenO M0 M) (h : w59_74 k6 l0 l1 l2 l3 l4 l5 M P) : R59 sl sx d M0 P 74 [some (vR (some l0)), some (vR l1), some (vI l2), some (vR l3), some (vI l4), some (vI l5)] [] M := by
  refine RN_k (callX_det _) 2 _ _ _ _ (show R59 sl sx d M0 P 6 [some (vR (some l0)), some (vR l1), some (vI l2), some (vR l3), some (vI l4), some (vI (l5 + (1 : Int32)))] [] M from ?_)
  exact RN_weak (K := [some (vR (some l0)), some (vR l1), some (vI l2), some (vR l3), some (vI l4), some (vI (l5 + (1 : Int32)))]) (callX_det _) (show _ ∧ _ ∧ _ ∧ _ ∧ _ ∧ _ ∧ True from ⟨rfl, rfl, rfl, rfl, rfl, rfl, trivial⟩) (hk6 l0 l1 l2 l3 l4 (l5 + (1 : Int32)) _ hM h)
def w59_49 (k6 : Nat → Option Nat → Int32 → Option Nat → Int32 → Int32 → MM → Prop) (l0 : Nat) (l1 : Option Nat) (l2 : Int32) (l3 : Option Nat) (l5 : Int32) (M : MM) (P : Int32 → MM → Prop) : Prop := kd M l0 9 ∧ (kd M l0 9 ∧ (∃ a1, mR M l0 16 = some a1 ∧ (kd M a1 7 ∧ w50 a1 M (fun r3 M2 => kd M2 l0 9 ∧ (∃ a4, mR M2 l0 16 = some a4 ∧ (kd M2 a4 7 ∧ w53 a4 M2 (fun r6 M5 => ∃ a7, mR M l0 12 = some a7 ∧ (kd M5 a7 3 ∧ w54 a7 r3 r6 M5 (fun M8 => w59_74 k6 l0 l1 l2 l3 l5 l5 M8 P)))))))))
theorem t59_49 {sl : Nat} {sx : Nat → Int32} {d : Nat} {M0 : MM} {P : Int32 → MM → Prop} {k6 : Nat → Option Nat → Int32 → Option Nat → Int32 → Int32 → MM → Prop} (hk6 : ∀ (l0 : Nat) (l1 : Option Nat) (l2 : Int32) (l3 : Option Nat) (l4 : Int32) (l5 : Int32) (M : MM), lenO M0 M → k6 l0 l1 l2 l3 l4 l5 M → R59 sl sx d M0 P 6 [some (vR (some l0)), some (vR l1), some (vI l2), some (vR l3), some (vI l4), some (vI l5)] [] M) (l0 : Nat) (l1 : Option Nat) (l2 : Int32) (l3 : Option Nat) (l5 : Int32) (M : MM) (hM : lenO M0 M) (h : w59_49 k6 l0 l1 l2 l3 l5 M P) : R59 sl sx d M0 P 49 [some (vR (some l0)), some (vR l1), some (vI l2), some (vR l3), none, some (vI l5)] [] M := by
  refine RN_k (callX_det _) 4 _ _ _ _ (show kd M l0 9 ∧ R59 sl sx d M0 P 57 [some (vR (some l0)), some (vR l1), some (vI l2), some (vR l3), some (vI l5), some (vI l5)] [vR (mR M l0 12)] M from ⟨h.1, ?_⟩)
  replace h := h.2
  refine RN_k (callX_det _) 2 _ _ _ _ (show kd M l0 9 ∧ R59 sl sx d M0 P 61 [some (vR (some l0)), some (vR l1), some (vI l2), some (vR l3), some (vI l5), some (vI l5)] [vR (mR M l0 16), vR (mR M l0 12)] M from ⟨h.1, ?_⟩)
  replace h := h.2
  obtain ⟨a1, he, h⟩ := h
  rw [he]
  refine RN_k (callX_det _) 1 _ _ _ _ (show kd M a1 7 ∧ callX TBg sl sx (d + 3) 50 [vR (some a1)] M (fun v M9 => R59 sl sx d M0 P 64 [some (vR (some l0)), some (vR l1), some (vI l2), some (vR l3), some (vI l5), some (vI l5)] (pushO v [vR (mR M l0 12)]) M9) from ⟨h.1, ?_⟩)
  replace h := h.2
  refine callX_mono (callX_len (d := (d + 3)) rfl rfl rfl (c50 (d := d + 1) h)) ?_
  clear h
  rintro v9 M2 ⟨hl, r3, rfl, h⟩
  replace hM := lenT hM hl
  show R59 sl sx d M0 P 64 [some (vR (some l0)), some (vR l1), some (vI l2), some (vR l3), some (vI l5), some (vI l5)] [vL r3, vR (mR M l0 12)] M2
  refine RN_k (callX_det _) 2 _ _ _ _ (show kd M2 l0 9 ∧ R59 sl sx d M0 P 68 [some (vR (some l0)), some (vR l1), some (vI l2), some (vR l3), some (vI l5), some (vI l5)] [vR (mR M2 l0 16), vL r3, vR (mR M l0 12)] M2 from ⟨h.1, ?_⟩)
  replace h := h.2
  obtain ⟨a4, he, h⟩ := h
  rw [he]
  refine RN_k (callX_det _) 1 _ _ _ _ (show kd M2 a4 7 ∧ callX TBg sl sx (d + 3) 53 [vR (some a4)] M2 (fun v M9 => R59 sl sx d M0 P 71 [some (vR (some l0)), some (vR l1), some (vI l2), some (vR l3), some (vI l5), some (vI l5)] (pushO v [vL r3, vR (mR M l0 12)]) M9) from ⟨h.1, ?_⟩)
  replace h := h.2
  refine callX_mono (callX_len (d := (d + 3)) rfl rfl rfl (c53 (d := d + 1) h)) ?_
  clear h
  rintro v9 M5 ⟨hl, r6, rfl, h⟩
  replace hM := lenT hM hl
  show R59 sl sx d M0 P 71 [some (vR (some l0)), some (vR l1), some (vI l2), some (vR l3), some (vI l5), some (vI l5)] [vL r6, vL r3, vR (mR M l0 12)] M5
  obtain ⟨a7, he, h⟩ := h
  rw [he]
  refine RN_k (callX_det _) 1 _ _ _ _ (show kd M5 a7 3 ∧ callX TBg sl sx (d + 3) 54 [vR (some a7), vL r3, vL r6] M5 (fun v M9 => R59 sl sx d M0 P 74 [some (vR (some l0)), some (vR l1), some (vI l2), some (vR l3), some (vI l5), some (vI l5)] (pushO v []) M9) from ⟨h.1, ?_⟩)
  replace h := h.2
  refine callX_mono (callX_len (d := (d + 3)) rfl rfl rfl (c54 (d := d + 2) h)) ?_
  clear h
  rintro v9 M8 ⟨hl, rfl, h⟩
  replace hM := lenT hM hl
  show R59 sl sx d M0 P 74 [some (vR (some l0)), some (vR l1), some (vI l2), some (vR l3), some (vI l5), some (vI l5)] [] M8
  exact RN_weak (K := [some (vR (some l0)), some (vR l1), some (vI l2), some (vR l3), some (vI l5), some (vI l5)]) (callX_det _) (show _ ∧ _ ∧ _ ∧ _ ∧ _ ∧ _ ∧ True from ⟨rfl, rfl, rfl, rfl, rfl, rfl, trivial⟩) (t59_74 hk6 l0 l1 l2 l3 l5 l5 _ hM h)
def w59_6 : Nat → Nat → Option Nat → Int32 → Option Nat → Int32 → Int32 → MM → (Int32 → MM → Prop) → Prop
  | 0 => fun _ _ _ _ _ _ _ _ => False
  | n + 1 => fun l0 l1 l2 l3 l4 l5 M P => ∃ a1, l3 = some a1 ∧ (kd M a1 8 ∧ (((mI M a1 1) ≤ (l5 + (1 : Int32)) → (P l4 M)) ∧ (¬ ((mI M a1 1) ≤ (l5 + (1 : Int32))) → (kd M l0 9 ∧ (∃ a2, mR M l0 16 = some a2 ∧ (kd M a2 7 ∧ w49 a2 (some a1) l5 l1 l2 M (fun M3 => (l4 = (-1 : Int32) → (w59_49 (fun z0 z1 z2 z3 z4 z5 z6 => w59_6  n z0 z1 z2 z3 z4 z5 z6 P) l0 l1 l2 (some a1) l5 M3 P)) ∧ (¬ (l4 = (-1 : Int32)) → (kd M3 l0 9 ∧ (kd M3 l0 9 ∧ (∃ a4, mR M3 l0 16 = some a4 ∧ (kd M3 a4 7 ∧ w60 a4 (mR M3 l0 12) M3 (fun r6 M5 => (r6 = 0 → (w59_74 (fun z0 z1 z2 z3 z4 z5 z6 => w59_6  n z0 z1 z2 z3 z4 z5 z6 P) l0 l1 l2 (some a1) l4 l5 M5 P)) ∧ (¬ (r6 = 0) → (w59_49 (fun z0 z1 z2 z3 z4 z5 z6 => w59_6  n z0 z1 z2 z3 z4 z5 z6 P) l0 l1 l2 (some a1) l5 M5 P)))))))))))))))
theorem t59_6 {sl : Nat} {sx : Nat → Int32} {d : Nat} {M0 : MM} {P : Int32 → MM → Prop} (n : Nat) : ∀ (l0 : Nat) (l1 : Option Nat) (l2 : Int32) (l3 : Option Nat) (l4 : Int32) (l5 : Int32) (M : MM) (_ : lenO M0 M) (_ : w59_6  n l0 l1 l2 l3 l4 l5 M P), R59 sl sx d M0 P 6 [some (vR (some l0)), some (vR l1), some (vI l2), some (vR l3), some (vI l4), some (vI l5)] [] M := by
  induction n with
  | zero => intro l0 l1 l2 l3 l4 l5 M hM h; cases h
  | succ n ih =>
    intro l0 l1 l2 l3 l4 l5 M hM h
    obtain ⟨a1, he, h⟩ := h
    refine RN_k (callX_det _) 4 _ _ _ _ (show R59 sl sx d M0 P 11 [some (vR (some l0)), some (vR l1), some (vI l2), some (vR l3), some (vI l4), some (vI l5)] [vR l3, vI (l5 + (1 : Int32))] M from ?_)
    subst he
    refine RN_k (callX_det _) 1 _ _ _ _ (show kd M a1 8 ∧ R59 sl sx d M0 P 14 [some (vR (some l0)), some (vR l1), some (vI l2), some (vR (some a1)), some (vI l4), some (vI l5)] [vI (mI M a1 1), vI (l5 + (1 : Int32))] M from ⟨h.1, ?_⟩)
    replace h := h.2
    refine RN_k (callX_det _) 1 _ _ _ _ (show ((mI M a1 1) ≤ (l5 + (1 : Int32)) → R59 sl sx d M0 P 80 [some (vR (some l0)), some (vR l1), some (vI l2), some (vR (some a1)), some (vI l4), some (vI l5)] [] M) ∧ (¬ ((mI M a1 1) ≤ (l5 + (1 : Int32))) → R59 sl sx d M0 P 17 [some (vR (some l0)), some (vR l1), some (vI l2), some (vR (some a1)), some (vI l4), some (vI l5)] [] M) from ⟨fun hc => ?_, fun hc => ?_⟩)
    · replace h := h.1 hc
      exact RN_k (callX_det _) 2 _ _ _ _ (show rtW q59 M0 (PI P) (some (vI l4)) M from ⟨⟨_, rfl⟩, hM.1, hM.2, _, rfl, h⟩)
    · replace h := h.2 hc
      refine RN_k (callX_det _) 2 _ _ _ _ (show kd M l0 9 ∧ R59 sl sx d M0 P 21 [some (vR (some l0)), some (vR l1), some (vI l2), some (vR (some a1)), some (vI l4), some (vI l5)] [vR (mR M l0 16)] M from ⟨h.1, ?_⟩)
      replace h := h.2
      obtain ⟨a2, he, h⟩ := h
      refine RN_k (callX_det _) 4 _ _ _ _ (show R59 sl sx d M0 P 26 [some (vR (some l0)), some (vR l1), some (vI l2), some (vR (some a1)), some (vI l4), some (vI l5)] [vI l2, vR l1, vI l5, vR (some a1), vR (mR M l0 16)] M from ?_)
      rw [he]
      refine RN_k (callX_det _) 1 _ _ _ _ (show kd M a2 7 ∧ callX TBg sl sx (d + 3) 49 [vR (some a2), vR (some a1), vI l5, vR l1, vI l2] M (fun v M9 => R59 sl sx d M0 P 29 [some (vR (some l0)), some (vR l1), some (vI l2), some (vR (some a1)), some (vI l4), some (vI l5)] (pushO v []) M9) from ⟨h.1, ?_⟩)
      replace h := h.2
      refine callX_mono (callX_len (d := (d + 3)) rfl rfl rfl (c49 (d := d + 2) h)) ?_
      clear h
      rintro v9 M3 ⟨hl, rfl, h⟩
      replace hM := lenT hM hl
      show R59 sl sx d M0 P 29 [some (vR (some l0)), some (vR l1), some (vI l2), some (vR (some a1)), some (vI l4), some (vI l5)] [] M3
      refine RN_k (callX_det _) 3 _ _ _ _ (show (l4 = (-1 : Int32) → R59 sl sx d M0 P 49 [some (vR (some l0)), some (vR l1), some (vI l2), some (vR (some a1)), some (vI l4), some (vI l5)] [] M3) ∧ (¬ (l4 = (-1 : Int32)) → R59 sl sx d M0 P 35 [some (vR (some l0)), some (vR l1), some (vI l2), some (vR (some a1)), some (vI l4), some (vI l5)] [] M3) from ⟨fun hc => ?_, fun hc => ?_⟩)
      · replace h := h.1 hc
        exact RN_weak (K := [some (vR (some l0)), some (vR l1), some (vI l2), some (vR (some a1)), none, some (vI l5)]) (callX_det _) (show _ ∧ _ ∧ _ ∧ _ ∧ _ ∧ True from ⟨rfl, rfl, rfl, rfl, rfl, trivial⟩) (t59_49 ih l0 l1 l2 (some a1) l5 _ hM h)
      · replace h := h.2 hc
        refine RN_k (callX_det _) 2 _ _ _ _ (show kd M3 l0 9 ∧ R59 sl sx d M0 P 39 [some (vR (some l0)), some (vR l1), some (vI l2), some (vR (some a1)), some (vI l4), some (vI l5)] [vR (mR M3 l0 16)] M3 from ⟨h.1, ?_⟩)
        replace h := h.2
        refine RN_k (callX_det _) 2 _ _ _ _ (show kd M3 l0 9 ∧ R59 sl sx d M0 P 43 [some (vR (some l0)), some (vR l1), some (vI l2), some (vR (some a1)), some (vI l4), some (vI l5)] [vR (mR M3 l0 12), vR (mR M3 l0 16)] M3 from ⟨h.1, ?_⟩)
        replace h := h.2
        obtain ⟨a4, he, h⟩ := h
        rw [he]
        refine RN_k (callX_det _) 1 _ _ _ _ (show kd M3 a4 7 ∧ callX TBg sl sx (d + 3) 60 [vR (some a4), vR (mR M3 l0 12)] M3 (fun v M9 => R59 sl sx d M0 P 46 [some (vR (some l0)), some (vR l1), some (vI l2), some (vR (some a1)), some (vI l4), some (vI l5)] (pushO v []) M9) from ⟨h.1, ?_⟩)
        replace h := h.2
        refine callX_mono (callX_len (d := (d + 3)) rfl rfl rfl (c60 (d := d) h)) ?_
        clear h
        rintro v9 M5 ⟨hl, r6, rfl, h⟩
        replace hM := lenT hM hl
        show R59 sl sx d M0 P 46 [some (vR (some l0)), some (vR l1), some (vI l2), some (vR (some a1)), some (vI l4), some (vI l5)] [vI r6] M5
        refine RN_k (callX_det _) 1 _ _ _ _ (show (r6 = 0 → R59 sl sx d M0 P 74 [some (vR (some l0)), some (vR l1), some (vI l2), some (vR (some a1)), some (vI l4), some (vI l5)] [] M5) ∧ (¬ (r6 = 0) → R59 sl sx d M0 P 49 [some (vR (some l0)), some (vR l1), some (vI l2), some (vR (some a1)), some (vI l4), some (vI l5)] [] M5) from ⟨fun hc => ?_, fun hc => ?_⟩)
        · replace h := h.1 hc
          exact RN_weak (K := [some (vR (some l0)), some (vR l1), some (vI l2), some (vR (some a1)), some (vI l4), some (vI l5)]) (callX_det _) (show _ ∧ _ ∧ _ ∧ _ ∧ _ ∧ _ ∧ True from ⟨rfl, rfl, rfl, rfl, rfl, rfl, trivial⟩) (t59_74 ih l0 l1 l2 (some a1) l4 l5 _ hM h)
        · replace h := h.2 hc
          exact RN_weak (K := [some (vR (some l0)), some (vR l1), some (vI l2), some (vR (some a1)), none, some (vI l5)]) (callX_det _) (show _ ∧ _ ∧ _ ∧ _ ∧ _ ∧ True from ⟨rfl, rfl, rfl, rfl, rfl, trivial⟩) (t59_49 ih l0 l1 l2 (some a1) l5 _ hM h)
def w59 (l0 : Nat) (l1 : Option Nat) (l2 : Int32) (l3 : Option Nat) (M : MM) (P : Int32 → MM → Prop) : Prop := ∃ n2, w59_6  n2 l0 l1 l2 l3 (-1 : Int32) (0 : Int32) M P
theorem t59_E {sl : Nat} {sx : Nat → Int32} {d : Nat} {M0 : MM} {P : Int32 → MM → Prop} (l0 : Nat) (l1 : Option Nat) (l2 : Int32) (l3 : Option Nat) (M : MM) (hM : lenO M0 M) (h : w59  l0 l1 l2 l3 M P) : R59 sl sx d M0 P 0 [some (vR (some l0)), some (vR l1), some (vI l2), some (vR l3), none, none] [] M := by
  refine RN_k (callX_det _) 4 _ _ _ _ (show R59 sl sx d M0 P 6 [some (vR (some l0)), some (vR l1), some (vI l2), some (vR l3), some (vI (-1 : Int32)), some (vI (0 : Int32))] [] M from ?_)
  obtain ⟨n2, h⟩ := h
  exact RN_weak (K := [some (vR (some l0)), some (vR l1), some (vI l2), some (vR l3), some (vI (-1 : Int32)), some (vI (0 : Int32))]) (callX_det _) (show _ ∧ _ ∧ _ ∧ _ ∧ _ ∧ _ ∧ True from ⟨rfl, rfl, rfl, rfl, rfl, rfl, trivial⟩) (t59_6  n2 l0 l1 l2 l3 (-1 : Int32) (0 : Int32) _ hM h)
theorem c59 {sl : Nat} {sx : Nat → Int32} {d : Nat} {l0 : Nat} {l1 : Option Nat} {l2 : Int32} {l3 : Option Nat} {M : MM} {P : Int32 → MM → Prop} (h : w59 l0 l1 l2 l3 M P) : callX TBg sl sx (d + 4) 59 [vR (some l0), vR l1, vI l2, vR l3] M (PI P) :=
  cX (d := d + 3) q59 (false, tb59) rfl rfl rfl (t59_E l0 l1 l2 l3 M lenR h)
-- TwoLeash.nearest(III)I
abbrev q58 : MQ7 := (4, 1, 5, 9, 0, 0, 1)
abbrev R58 (sl : Nat) (sx : Nat → Int32) (d : Nat) (M0 : MM) (P : Int32 → MM → Prop) : Nat → LL → List VV → MM → Prop := RN 9 false (mS M0).length (mT M0) 0 0 sl sx (callX TBg sl sx (d + 4)) (rtW q58 M0 (PI P)) (as2 tb58)
def w58_17 (l0 : Nat) (M : MM) (P : Int32 → MM → Prop) : Prop := kd M l0 9 ∧ w17 l0 (2 : Int32) M (fun r2 M1 => P r2 M1)
theorem t58_17 {sl : Nat} {sx : Nat → Int32} {d : Nat} {M0 : MM} {P : Int32 → MM → Prop} (l0 : Nat) (M : MM) (hM : lenO M0 M) (h : w58_17  l0 M P) : R58 sl sx d M0 P 17 [some (vR (some l0)), none, none, none, none] [] M := by
  refine RN_k (callX_det _) 3 _ _ _ _ (show kd M l0 9 ∧ callX TBg sl sx (d + 4) 17 [vR (some l0), vI (2 : Int32)] M (fun v M9 => R58 sl sx d M0 P 22 [some (vR (some l0)), none, none, none, none] (pushO v []) M9) from ⟨h.1, ?_⟩)
  replace h := h.2
  refine callX_mono (callX_len (d := (d + 4)) rfl rfl rfl (c17 (d := d + 3) h)) ?_
  clear h
  rintro v9 M1 ⟨hl, r2, rfl, h⟩
  replace hM := lenT hM hl
  show R58 sl sx d M0 P 22 [some (vR (some l0)), none, none, none, none] [vI r2] M1
  exact RN_k (callX_det _) 1 _ _ _ _ (show rtW q58 M0 (PI P) (some (vI r2)) M1 from ⟨⟨_, rfl⟩, hM.1, hM.2, _, rfl, h⟩)
def w58 (l0 : Nat) (l1 : Int32) (l2 : Int32) (l3 : Int32) (M : MM) (P : Int32 → MM → Prop) : Prop := kd M l0 9 ∧ w45 l0 l1 l2 M (fun r2 M1 => (r2 = 0 → (w58_17  l0 M1 P)) ∧ (¬ (r2 = 0) → (kd M1 l0 9 ∧ w40 l0 l3 M1 (fun r4 M3 => (r4 ≠ 0 → ((l1 ≠ l3 → (kd M3 l0 9 ∧ (∃ a5, mR M3 l0 5 = some a5 ∧ (inb M3 a5 16 l1 ∧ (kd M3 l0 9 ∧ (∃ a6, mR M3 l0 5 = some a6 ∧ (inb M3 a6 16 l3 ∧ (kd M3 l0 9 ∧ w59 l0 (mR M3 a5 l1.toNatClampNeg) l2 (mR M3 a6 l3.toNatClampNeg) M3 (fun r8 M7 => kd M7 l0 9 ∧ (kd M7 l0 9 ∧ w55 l0 (mR M7 l0 12) M7 (fun r10 M9 => P r8 M9))))))))))) ∧ (¬ (l1 ≠ l3) → (kd M3 l0 9 ∧ w17 l0 (4 : Int32) M3 (fun r12 M11 => P r12 M11))))) ∧ (¬ (r4 ≠ 0) → (w58_17  l0 M3 P))))))
theorem t58_E {sl : Nat} {sx : Nat → Int32} {d : Nat} {M0 : MM} {P : Int32 → MM → Prop} (l0 : Nat) (l1 : Int32) (l2 : Int32) (l3 : Int32) (M : MM) (hM : lenO M0 M) (h : w58  l0 l1 l2 l3 M P) : R58 sl sx d M0 P 0 [some (vR (some l0)), some (vI l1), some (vI l2), some (vI l3), none] [] M := by
  refine RN_k (callX_det _) 4 _ _ _ _ (show kd M l0 9 ∧ callX TBg sl sx (d + 4) 45 [vR (some l0), vI l1, vI l2] M (fun v M9 => R58 sl sx d M0 P 6 [some (vR (some l0)), some (vI l1), some (vI l2), some (vI l3), none] (pushO v []) M9) from ⟨h.1, ?_⟩)
  replace h := h.2
  refine callX_mono (callX_len (d := (d + 4)) rfl rfl rfl (c45 (d := d + 2) h)) ?_
  clear h
  rintro v9 M1 ⟨hl, r2, rfl, h⟩
  replace hM := lenT hM hl
  show R58 sl sx d M0 P 6 [some (vR (some l0)), some (vI l1), some (vI l2), some (vI l3), none] [vI r2] M1
  refine RN_k (callX_det _) 1 _ _ _ _ (show (r2 = 0 → R58 sl sx d M0 P 17 [some (vR (some l0)), some (vI l1), some (vI l2), some (vI l3), none] [] M1) ∧ (¬ (r2 = 0) → R58 sl sx d M0 P 9 [some (vR (some l0)), some (vI l1), some (vI l2), some (vI l3), none] [] M1) from ⟨fun hc => ?_, fun hc => ?_⟩)
  · replace h := h.1 hc
    exact RN_weak (K := [some (vR (some l0)), none, none, none, none]) (callX_det _) (show _ ∧ True from ⟨rfl, trivial⟩) (t58_17  l0 _ hM h)
  · replace h := h.2 hc
    refine RN_k (callX_det _) 3 _ _ _ _ (show kd M1 l0 9 ∧ callX TBg sl sx (d + 4) 40 [vR (some l0), vI l3] M1 (fun v M9 => R58 sl sx d M0 P 14 [some (vR (some l0)), some (vI l1), some (vI l2), some (vI l3), none] (pushO v []) M9) from ⟨h.1, ?_⟩)
    replace h := h.2
    refine callX_mono (callX_len (d := (d + 4)) rfl rfl rfl (c40 (d := d + 3) h)) ?_
    clear h
    rintro v9 M3 ⟨hl, r4, rfl, h⟩
    replace hM := lenT hM hl
    show R58 sl sx d M0 P 14 [some (vR (some l0)), some (vI l1), some (vI l2), some (vI l3), none] [vI r4] M3
    refine RN_k (callX_det _) 1 _ _ _ _ (show (r4 ≠ 0 → R58 sl sx d M0 P 23 [some (vR (some l0)), some (vI l1), some (vI l2), some (vI l3), none] [] M3) ∧ (¬ (r4 ≠ 0) → R58 sl sx d M0 P 17 [some (vR (some l0)), some (vI l1), some (vI l2), some (vI l3), none] [] M3) from ⟨fun hc => ?_, fun hc => ?_⟩)
    · replace h := h.1 hc
      refine RN_k (callX_det _) 3 _ _ _ _ (show (l1 ≠ l3 → R58 sl sx d M0 P 34 [some (vR (some l0)), some (vI l1), some (vI l2), some (vI l3), none] [] M3) ∧ (¬ (l1 ≠ l3) → R58 sl sx d M0 P 28 [some (vR (some l0)), some (vI l1), some (vI l2), some (vI l3), none] [] M3) from ⟨fun hc => ?_, fun hc => ?_⟩)
      · replace h := h.1 hc
        refine RN_k (callX_det _) 3 _ _ _ _ (show kd M3 l0 9 ∧ R58 sl sx d M0 P 39 [some (vR (some l0)), some (vI l1), some (vI l2), some (vI l3), none] [vR (mR M3 l0 5), vR (some l0)] M3 from ⟨h.1, ?_⟩)
        replace h := h.2
        obtain ⟨a5, he, h⟩ := h
        refine RN_k (callX_det _) 1 _ _ _ _ (show R58 sl sx d M0 P 40 [some (vR (some l0)), some (vI l1), some (vI l2), some (vI l3), none] [vI l1, vR (mR M3 l0 5), vR (some l0)] M3 from ?_)
        rw [he]
        refine RN_k (callX_det _) 1 _ _ _ _ (show inb M3 a5 16 l1 ∧ R58 sl sx d M0 P 41 [some (vR (some l0)), some (vI l1), some (vI l2), some (vI l3), none] [vR (mR M3 a5 l1.toNatClampNeg), vR (some l0)] M3 from ⟨h.1, ?_⟩)
        replace h := h.2
        refine RN_k (callX_det _) 3 _ _ _ _ (show kd M3 l0 9 ∧ R58 sl sx d M0 P 46 [some (vR (some l0)), some (vI l1), some (vI l2), some (vI l3), none] [vR (mR M3 l0 5), vI l2, vR (mR M3 a5 l1.toNatClampNeg), vR (some l0)] M3 from ⟨h.1, ?_⟩)
        replace h := h.2
        obtain ⟨a6, he, h⟩ := h
        refine RN_k (callX_det _) 1 _ _ _ _ (show R58 sl sx d M0 P 47 [some (vR (some l0)), some (vI l1), some (vI l2), some (vI l3), none] [vI l3, vR (mR M3 l0 5), vI l2, vR (mR M3 a5 l1.toNatClampNeg), vR (some l0)] M3 from ?_)
        rw [he]
        refine RN_k (callX_det _) 1 _ _ _ _ (show inb M3 a6 16 l3 ∧ R58 sl sx d M0 P 48 [some (vR (some l0)), some (vI l1), some (vI l2), some (vI l3), none] [vR (mR M3 a6 l3.toNatClampNeg), vI l2, vR (mR M3 a5 l1.toNatClampNeg), vR (some l0)] M3 from ⟨h.1, ?_⟩)
        replace h := h.2
        refine RN_k (callX_det _) 1 _ _ _ _ (show kd M3 l0 9 ∧ callX TBg sl sx (d + 4) 59 [vR (some l0), vR (mR M3 a5 l1.toNatClampNeg), vI l2, vR (mR M3 a6 l3.toNatClampNeg)] M3 (fun v M9 => R58 sl sx d M0 P 51 [some (vR (some l0)), some (vI l1), some (vI l2), some (vI l3), none] (pushO v []) M9) from ⟨h.1, ?_⟩)
        replace h := h.2
        refine callX_mono (callX_len (d := (d + 4)) rfl rfl rfl (c59 (d := d) h)) ?_
        clear h
        rintro v9 M7 ⟨hl, r8, rfl, h⟩
        replace hM := lenT hM hl
        show R58 sl sx d M0 P 51 [some (vR (some l0)), some (vI l1), some (vI l2), some (vI l3), none] [vI r8] M7
        refine RN_k (callX_det _) 4 _ _ _ _ (show kd M7 l0 9 ∧ R58 sl sx d M0 P 58 [some (vR (some l0)), some (vI l1), some (vI l2), some (vI l3), some (vI r8)] [vR (mR M7 l0 12), vR (some l0)] M7 from ⟨h.1, ?_⟩)
        replace h := h.2
        refine RN_k (callX_det _) 1 _ _ _ _ (show kd M7 l0 9 ∧ callX TBg sl sx (d + 4) 55 [vR (some l0), vR (mR M7 l0 12)] M7 (fun v M9 => R58 sl sx d M0 P 61 [some (vR (some l0)), some (vI l1), some (vI l2), some (vI l3), some (vI r8)] (pushO v []) M9) from ⟨h.1, ?_⟩)
        replace h := h.2
        refine callX_mono (callX_len (d := (d + 4)) rfl rfl rfl (c55 (d := d + 2) h)) ?_
        clear h
        rintro v9 M9 ⟨hl, r10, rfl, h⟩
        replace hM := lenT hM hl
        show R58 sl sx d M0 P 61 [some (vR (some l0)), some (vI l1), some (vI l2), some (vI l3), some (vI r8)] [vI r10] M9
        exact RN_k (callX_det _) 3 _ _ _ _ (show rtW q58 M0 (PI P) (some (vI r8)) M9 from ⟨⟨_, rfl⟩, hM.1, hM.2, _, rfl, h⟩)
      · replace h := h.2 hc
        refine RN_k (callX_det _) 3 _ _ _ _ (show kd M3 l0 9 ∧ callX TBg sl sx (d + 4) 17 [vR (some l0), vI (4 : Int32)] M3 (fun v M9 => R58 sl sx d M0 P 33 [some (vR (some l0)), some (vI l1), some (vI l2), some (vI l3), none] (pushO v []) M9) from ⟨h.1, ?_⟩)
        replace h := h.2
        refine callX_mono (callX_len (d := (d + 4)) rfl rfl rfl (c17 (d := d + 3) h)) ?_
        clear h
        rintro v9 M11 ⟨hl, r12, rfl, h⟩
        replace hM := lenT hM hl
        show R58 sl sx d M0 P 33 [some (vR (some l0)), some (vI l1), some (vI l2), some (vI l3), none] [vI r12] M11
        exact RN_k (callX_det _) 1 _ _ _ _ (show rtW q58 M0 (PI P) (some (vI r12)) M11 from ⟨⟨_, rfl⟩, hM.1, hM.2, _, rfl, h⟩)
    · replace h := h.2 hc
      exact RN_weak (K := [some (vR (some l0)), none, none, none, none]) (callX_det _) (show _ ∧ True from ⟨rfl, trivial⟩) (t58_17  l0 _ hM h)
theorem c58 {sl : Nat} {sx : Nat → Int32} {d : Nat} {l0 : Nat} {l1 : Int32} {l2 : Int32} {l3 : Int32} {M : MM} {P : Int32 → MM → Prop} (h : w58 l0 l1 l2 l3 M P) : callX TBg sl sx (d + 5) 58 [vR (some l0), vI l1, vI l2, vI l3] M (PI P) :=
  cX (d := d + 4) q58 (false, tb58) rfl rfl rfl (t58_E l0 l1 l2 l3 M lenR h)
-- TwoLeash.checkCouple(ZII)I
abbrev q62 : MQ7 := (4, 1, 4, 9, 0, 0, 1)
abbrev R62 (sl : Nat) (sx : Nat → Int32) (d : Nat) (M0 : MM) (P : Int32 → MM → Prop) : Nat → LL → List VV → MM → Prop := RN 9 false (mS M0).length (mT M0) 0 0 sl sx (callX TBg sl sx (d + 1)) (rtW q62 M0 (PI P)) (as2 tb62)
def w62_34 (s0 : Int32) (M : MM) (P : Int32 → MM → Prop) : Prop := P s0 M
theorem t62_34 {sl : Nat} {sx : Nat → Int32} {d : Nat} {M0 : MM} {P : Int32 → MM → Prop} (s0 : Int32) (M : MM) (hM : lenO M0 M) (h : w62_34  s0 M P) : R62 sl sx d M0 P 34 [none, none, none, none] [vI s0] M := by
  exact RN_k (callX_det _) 1 _ _ _ _ (show rtW q62 M0 (PI P) (some (vI s0)) M from ⟨⟨_, rfl⟩, hM.1, hM.2, _, rfl, h⟩)
def w62_22 (M : MM) (P : Int32 → MM → Prop) : Prop := P (2 : Int32) M
theorem t62_22 {sl : Nat} {sx : Nat → Int32} {d : Nat} {M0 : MM} {P : Int32 → MM → Prop}  (M : MM) (hM : lenO M0 M) (h : w62_22   M P) : R62 sl sx d M0 P 22 [none, none, none, none] [] M := by
  exact RN_k (callX_det _) 2 _ _ _ _ (show rtW q62 M0 (PI P) (some (vI (2 : Int32))) M from ⟨⟨_, rfl⟩, hM.1, hM.2, _, rfl, h⟩)
def w62 (l0 : Nat) (l1 : Int32) (l2 : Int32) (l3 : Int32) (M : MM) (P : Int32 → MM → Prop) : Prop := (l1 ≠ 0 → (kd M l0 9 ∧ w40 l0 l2 M (fun r2 M1 => (r2 = 0 → (w62_22  M1 P)) ∧ (¬ (r2 = 0) → (kd M1 l0 9 ∧ w40 l0 l3 M1 (fun r4 M3 => (r4 ≠ 0 → ((l2 ≠ l3 → (w62_34  (0 : Int32) M3 P)) ∧ (¬ (l2 ≠ l3) → (w62_34  (4 : Int32) M3 P)))) ∧ (¬ (r4 ≠ 0) → (w62_22  M3 P)))))))) ∧ (¬ (l1 ≠ 0) → (P (1 : Int32) M))
theorem t62_E {sl : Nat} {sx : Nat → Int32} {d : Nat} {M0 : MM} {P : Int32 → MM → Prop} (l0 : Nat) (l1 : Int32) (l2 : Int32) (l3 : Int32) (M : MM) (hM : lenO M0 M) (h : w62  l0 l1 l2 l3 M P) : R62 sl sx d M0 P 0 [some (vR (some l0)), some (vI l1), some (vI l2), some (vI l3)] [] M := by
  refine RN_k (callX_det _) 2 _ _ _ _ (show (l1 ≠ 0 → R62 sl sx d M0 P 6 [some (vR (some l0)), some (vI l1), some (vI l2), some (vI l3)] [] M) ∧ (¬ (l1 ≠ 0) → R62 sl sx d M0 P 4 [some (vR (some l0)), some (vI l1), some (vI l2), some (vI l3)] [] M) from ⟨fun hc => ?_, fun hc => ?_⟩)
  · replace h := h.1 hc
    refine RN_k (callX_det _) 3 _ _ _ _ (show kd M l0 9 ∧ callX TBg sl sx (d + 1) 40 [vR (some l0), vI l2] M (fun v M9 => R62 sl sx d M0 P 11 [some (vR (some l0)), some (vI l1), some (vI l2), some (vI l3)] (pushO v []) M9) from ⟨h.1, ?_⟩)
    replace h := h.2
    refine callX_mono (callX_len (d := (d + 1)) rfl rfl rfl (c40 (d := d) h)) ?_
    clear h
    rintro v9 M1 ⟨hl, r2, rfl, h⟩
    replace hM := lenT hM hl
    show R62 sl sx d M0 P 11 [some (vR (some l0)), some (vI l1), some (vI l2), some (vI l3)] [vI r2] M1
    refine RN_k (callX_det _) 1 _ _ _ _ (show (r2 = 0 → R62 sl sx d M0 P 22 [some (vR (some l0)), some (vI l1), some (vI l2), some (vI l3)] [] M1) ∧ (¬ (r2 = 0) → R62 sl sx d M0 P 14 [some (vR (some l0)), some (vI l1), some (vI l2), some (vI l3)] [] M1) from ⟨fun hc => ?_, fun hc => ?_⟩)
    · replace h := h.1 hc
      exact RN_weak (K := [none, none, none, none]) (callX_det _) (show True from trivial) (t62_22   _ hM h)
    · replace h := h.2 hc
      refine RN_k (callX_det _) 3 _ _ _ _ (show kd M1 l0 9 ∧ callX TBg sl sx (d + 1) 40 [vR (some l0), vI l3] M1 (fun v M9 => R62 sl sx d M0 P 19 [some (vR (some l0)), some (vI l1), some (vI l2), some (vI l3)] (pushO v []) M9) from ⟨h.1, ?_⟩)
      replace h := h.2
      refine callX_mono (callX_len (d := (d + 1)) rfl rfl rfl (c40 (d := d) h)) ?_
      clear h
      rintro v9 M3 ⟨hl, r4, rfl, h⟩
      replace hM := lenT hM hl
      show R62 sl sx d M0 P 19 [some (vR (some l0)), some (vI l1), some (vI l2), some (vI l3)] [vI r4] M3
      refine RN_k (callX_det _) 1 _ _ _ _ (show (r4 ≠ 0 → R62 sl sx d M0 P 24 [some (vR (some l0)), some (vI l1), some (vI l2), some (vI l3)] [] M3) ∧ (¬ (r4 ≠ 0) → R62 sl sx d M0 P 22 [some (vR (some l0)), some (vI l1), some (vI l2), some (vI l3)] [] M3) from ⟨fun hc => ?_, fun hc => ?_⟩)
      · replace h := h.1 hc
        refine RN_k (callX_det _) 3 _ _ _ _ (show (l2 ≠ l3 → R62 sl sx d M0 P 33 [some (vR (some l0)), some (vI l1), some (vI l2), some (vI l3)] [] M3) ∧ (¬ (l2 ≠ l3) → R62 sl sx d M0 P 29 [some (vR (some l0)), some (vI l1), some (vI l2), some (vI l3)] [] M3) from ⟨fun hc => ?_, fun hc => ?_⟩)
        · replace h := h.1 hc
          refine RN_k (callX_det _) 1 _ _ _ _ (show R62 sl sx d M0 P 34 [some (vR (some l0)), some (vI l1), some (vI l2), some (vI l3)] [vI (0 : Int32)] M3 from ?_)
          exact RN_weak (K := [none, none, none, none]) (callX_det _) (show True from trivial) (t62_34  (0 : Int32) _ hM h)
        · replace h := h.2 hc
          refine RN_k (callX_det _) 2 _ _ _ _ (show R62 sl sx d M0 P 34 [some (vR (some l0)), some (vI l1), some (vI l2), some (vI l3)] [vI (4 : Int32)] M3 from ?_)
          exact RN_weak (K := [none, none, none, none]) (callX_det _) (show True from trivial) (t62_34  (4 : Int32) _ hM h)
      · replace h := h.2 hc
        exact RN_weak (K := [none, none, none, none]) (callX_det _) (show True from trivial) (t62_22   _ hM h)
  · replace h := h.2 hc
    exact RN_k (callX_det _) 2 _ _ _ _ (show rtW q62 M0 (PI P) (some (vI (1 : Int32))) M from ⟨⟨_, rfl⟩, hM.1, hM.2, _, rfl, h⟩)
theorem c62 {sl : Nat} {sx : Nat → Int32} {d : Nat} {l0 : Nat} {l1 : Int32} {l2 : Int32} {l3 : Int32} {M : MM} {P : Int32 → MM → Prop} (h : w62 l0 l1 l2 l3 M P) : callX TBg sl sx (d + 2) 62 [vR (some l0), vI l1, vI l2, vI l3] M (PI P) :=
  cX (d := d + 1) q62 (false, tb62) rfl rfl rfl (t62_E l0 l1 l2 l3 M lenR h)
-- TwoLeash$Fraction.isBelow(LTwoLeash$Fraction;)Z
abbrev q63 : MQ7 := (2, 1, 2, 3, 0, 0, 4)
abbrev R63 (sl : Nat) (sx : Nat → Int32) (d : Nat) (M0 : MM) (P : Int32 → MM → Prop) : Nat → LL → List VV → MM → Prop := RN 3 false (mS M0).length (mT M0) 0 0 sl sx (callX TBg sl sx (d + 0)) (rtW q63 M0 (PI P)) (as2 tb63)
def w63_27 (s0 : Int32) (M : MM) (P : Int32 → MM → Prop) : Prop := (s0 = 0 ∨ s0 = 1) ∧ P s0 M
theorem t63_27 {sl : Nat} {sx : Nat → Int32} {d : Nat} {M0 : MM} {P : Int32 → MM → Prop} (s0 : Int32) (M : MM) (hM : lenO M0 M) (h : w63_27  s0 M P) : R63 sl sx d M0 P 27 [none, none] [vI s0] M := by
  exact RN_k (callX_det _) 1 _ _ _ _ (show rtW q63 M0 (PI P) (some (vI s0)) M from ⟨⟨_, rfl, h.1⟩, hM.1, hM.2, _, rfl, h.2⟩)
def w63 (l0 : Nat) (l1 : Option Nat) (M : MM) (P : Int32 → MM → Prop) : Prop := kd M l0 3 ∧ (∃ a1, l1 = some a1 ∧ (kd M a1 3 ∧ (kd M a1 3 ∧ (kd M l0 3 ∧ ((0 ≤ (lg_cmp ((mL M l0 0) * (mL M a1 1)) ((mL M a1 0) * (mL M l0 1))) → (w63_27  (0 : Int32) M P)) ∧ (¬ (0 ≤ (lg_cmp ((mL M l0 0) * (mL M a1 1)) ((mL M a1 0) * (mL M l0 1)))) → (w63_27  (1 : Int32) M P)))))))
theorem t63_E {sl : Nat} {sx : Nat → Int32} {d : Nat} {M0 : MM} {P : Int32 → MM → Prop} (l0 : Nat) (l1 : Option Nat) (M : MM) (hM : lenO M0 M) (h : w63  l0 l1 M P) : R63 sl sx d M0 P 0 [some (vR (some l0)), some (vR l1)] [] M := by
  refine RN_k (callX_det _) 2 _ _ _ _ (show kd M l0 3 ∧ R63 sl sx d M0 P 4 [some (vR (some l0)), some (vR l1)] [vL (mL M l0 0)] M from ⟨h.1, ?_⟩)
  replace h := h.2
  obtain ⟨a1, he, h⟩ := h
  refine RN_k (callX_det _) 1 _ _ _ _ (show R63 sl sx d M0 P 5 [some (vR (some l0)), some (vR l1)] [vR l1, vL (mL M l0 0)] M from ?_)
  subst he
  refine RN_k (callX_det _) 1 _ _ _ _ (show kd M a1 3 ∧ R63 sl sx d M0 P 8 [some (vR (some l0)), some (vR (some a1))] [vL (mL M a1 1), vL (mL M l0 0)] M from ⟨h.1, ?_⟩)
  replace h := h.2
  refine RN_k (callX_det _) 3 _ _ _ _ (show kd M a1 3 ∧ R63 sl sx d M0 P 13 [some (vR (some l0)), some (vR (some a1))] [vL (mL M a1 0), vL ((mL M l0 0) * (mL M a1 1))] M from ⟨h.1, ?_⟩)
  replace h := h.2
  refine RN_k (callX_det _) 2 _ _ _ _ (show kd M l0 3 ∧ R63 sl sx d M0 P 17 [some (vR (some l0)), some (vR (some a1))] [vL (mL M l0 1), vL (mL M a1 0), vL ((mL M l0 0) * (mL M a1 1))] M from ⟨h.1, ?_⟩)
  replace h := h.2
  refine RN_k (callX_det _) 3 _ _ _ _ (show (0 ≤ (lg_cmp ((mL M l0 0) * (mL M a1 1)) ((mL M a1 0) * (mL M l0 1))) → R63 sl sx d M0 P 26 [some (vR (some l0)), some (vR (some a1))] [] M) ∧ (¬ (0 ≤ (lg_cmp ((mL M l0 0) * (mL M a1 1)) ((mL M a1 0) * (mL M l0 1)))) → R63 sl sx d M0 P 22 [some (vR (some l0)), some (vR (some a1))] [] M) from ⟨fun hc => ?_, fun hc => ?_⟩)
  · replace h := h.1 hc
    refine RN_k (callX_det _) 1 _ _ _ _ (show R63 sl sx d M0 P 27 [some (vR (some l0)), some (vR (some a1))] [vI (0 : Int32)] M from ?_)
    exact RN_weak (K := [none, none]) (callX_det _) (show True from trivial) (t63_27  (0 : Int32) _ hM h)
  · replace h := h.2 hc
    refine RN_k (callX_det _) 2 _ _ _ _ (show R63 sl sx d M0 P 27 [some (vR (some l0)), some (vR (some a1))] [vI (1 : Int32)] M from ?_)
    exact RN_weak (K := [none, none]) (callX_det _) (show True from trivial) (t63_27  (1 : Int32) _ hM h)
theorem c63 {sl : Nat} {sx : Nat → Int32} {d : Nat} {l0 : Nat} {l1 : Option Nat} {M : MM} {P : Int32 → MM → Prop} (h : w63 l0 l1 M P) : callX TBg sl sx (d + 1) 63 [vR (some l0), vR l1] M (PI P) :=
  cX (d := d + 0) q63 (false, tb63) rfl rfl rfl (t63_E l0 l1 M lenR h)
