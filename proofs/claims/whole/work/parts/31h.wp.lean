/-! ===== printed by program: what must hold that a call ends with what is asked ===== -/
-- TwoLeashModel.putsCrit(JJ)V
abbrev q247 : MQ7 := (3, 1, 13, 10, 0, 0, 0)
abbrev R247 (sl : Nat) (sx : Nat → Int32) (d : Nat) (M0 : MM) (P : MM → Prop) : Nat → LL → List VV → MM → Prop := RN 10 false (mS M0).length (mT M0) 0 0 sl sx (callX TBg sl sx (d + 100)) (rtW q247 M0 (PV P)) (as2 tb247)
def w247_145 (k106 : Nat → Int64 → Int64 → Int32 → Int32 → MM → Prop) (l0 : Nat) (l7 : Int64) (l9 : Int64) (l11 : Int32) (l12 : Int32) (M : MM) (P : MM → Prop) : Prop := k106 l0 l7 l9 l11 (l12 + (-1 : Int32)) M
theorem t247_145 {sl : Nat} {sx : Nat → Int32} {d : Nat} {M0 : MM} {P : MM → Prop} {k106 : Nat → Int64 → Int64 → Int32 → Int32 → MM → Prop} (hk106 : ∀ (l0 : Nat) (l7 : Int64) (l9 : Int64) (l11 : Int32) (l12 : Int32) (M : MM), lenO M0 M → k106 l0 l7 l9 l11 l12 M → R247 sl sx d M0 P 106 [some (vR (some l0)), none, none, none, none, none, none, some (vL l7), none, some (vL l9), none, some (vI l11), some (vI l12)] [] M) (l0 : Nat) (l7 : Int64) (l9 : Int64) (l11 : Int32) (l12 : Int32) (M : MM) (hM : lenO M0 M) (h : w247_145 k106 l0 l7 l9 l11 l12 M P) : R247 sl sx d M0 P 145 [some (vR (some l0)), none, none, none, none, none, none, some (vL l7), none, some (vL l9), none, some (vI l11), some (vI l12)] [] M := by
  refine RN_k (callX_det _) 2 _ _ _ _ (show R247 sl sx d M0 P 106 [some (vR (some l0)), none, none, none, none, none, none, some (vL l7), none, some (vL l9), none, some (vI l11), some (vI (l12 + (-1 : Int32)))] [] M from ?_)
  exact RN_weak (K := [some (vR (some l0)), none, none, none, none, none, none, some (vL l7), none, some (vL l9), none, some (vI l11), some (vI (l12 + (-1 : Int32)))]) (callX_det _) (show _ ∧ _ ∧ _ ∧ _ ∧ _ ∧ True from ⟨rfl, rfl, rfl, rfl, rfl, trivial⟩) (hk106 l0 l7 l9 l11 (l12 + (-1 : Int32)) _ hM h)
def w247_106 : Nat → Nat → Int64 → Int64 → Int32 → Int32 → MM → (MM → Prop) → Prop
  | 0 => fun _ _ _ _ _ _ _ => False
  | n + 1 => fun l0 l7 l9 l11 l12 M P => (l12 ≤ l11 → (kd M l0 10 ∧ (∃ a1, mR M l0 47 = some a1 ∧ (inb M a1 12 l11 ∧ (kd (sL M a1 l11.toNatClampNeg l7) l0 10 ∧ (∃ a2, mR (sL M a1 l11.toNatClampNeg l7) l0 48 = some a2 ∧ (inb (sL M a1 l11.toNatClampNeg l7) a2 12 l11 ∧ (kd (sL (sL M a1 l11.toNatClampNeg l7) a2 l11.toNatClampNeg l9) l0 10 ∧ (kd (sL (sL M a1 l11.toNatClampNeg l7) a2 l11.toNatClampNeg l9) l0 10 ∧ (P (sI (sL (sL M a1 l11.toNatClampNeg l7) a2 l11.toNatClampNeg l9) l0 49 ((mI (sL (sL M a1 l11.toNatClampNeg l7) a2 l11.toNatClampNeg l9) l0 49) + (1 : Int32))))))))))))) ∧ (¬ (l12 ≤ l11) → (kd M l0 10 ∧ (kd M l0 10 ∧ (∃ a3, mR M l0 47 = some a3 ∧ (inb M a3 12 (l12 - (1 : Int32)) ∧ (inb M a3 12 l12 ∧ (kd (sL M a3 l12.toNatClampNeg (mL M a3 (l12 - (1 : Int32)).toNatClampNeg)) l0 10 ∧ (kd (sL M a3 l12.toNatClampNeg (mL M a3 (l12 - (1 : Int32)).toNatClampNeg)) l0 10 ∧ (∃ a4, mR (sL M a3 l12.toNatClampNeg (mL M a3 (l12 - (1 : Int32)).toNatClampNeg)) l0 48 = some a4 ∧ (inb (sL M a3 l12.toNatClampNeg (mL M a3 (l12 - (1 : Int32)).toNatClampNeg)) a4 12 (l12 - (1 : Int32)) ∧ (inb (sL M a3 l12.toNatClampNeg (mL M a3 (l12 - (1 : Int32)).toNatClampNeg)) a4 12 l12 ∧ (w247_145 (fun z0 z1 z2 z3 z4 z5 => w247_106  n z0 z1 z2 z3 z4 z5 P) l0 l7 l9 l11 l12 (sL (sL M a3 l12.toNatClampNeg (mL M a3 (l12 - (1 : Int32)).toNatClampNeg)) a4 l12.toNatClampNeg (mL (sL M a3 l12.toNatClampNeg (mL M a3 (l12 - (1 : Int32)).toNatClampNeg)) a4 (l12 - (1 : Int32)).toNatClampNeg)) P))))))))))))
theorem t247_106 {sl : Nat} {sx : Nat → Int32} {d : Nat} {M0 : MM} {P : MM → Prop} (n : Nat) : ∀ (l0 : Nat) (l7 : Int64) (l9 : Int64) (l11 : Int32) (l12 : Int32) (M : MM) (_ : lenO M0 M) (_ : w247_106  n l0 l7 l9 l11 l12 M P), R247 sl sx d M0 P 106 [some (vR (some l0)), none, none, none, none, none, none, some (vL l7), none, some (vL l9), none, some (vI l11), some (vI l12)] [] M := by
  induction n with
  | zero => intro l0 l7 l9 l11 l12 M hM h; cases h
  | succ n ih =>
    intro l0 l7 l9 l11 l12 M hM h
    refine RN_k (callX_det _) 3 _ _ _ _ (show (l12 ≤ l11 → R247 sl sx d M0 P 151 [some (vR (some l0)), none, none, none, none, none, none, some (vL l7), none, some (vL l9), none, some (vI l11), some (vI l12)] [] M) ∧ (¬ (l12 ≤ l11) → R247 sl sx d M0 P 113 [some (vR (some l0)), none, none, none, none, none, none, some (vL l7), none, some (vL l9), none, some (vI l11), some (vI l12)] [] M) from ⟨fun hc => ?_, fun hc => ?_⟩)
    · replace h := h.1 hc
      refine RN_k (callX_det _) 2 _ _ _ _ (show kd M l0 10 ∧ R247 sl sx d M0 P 155 [some (vR (some l0)), none, none, none, none, none, none, some (vL l7), none, some (vL l9), none, some (vI l11), some (vI l12)] [vR (mR M l0 47)] M from ⟨h.1, ?_⟩)
      replace h := h.2
      obtain ⟨a1, he, h⟩ := h
      refine RN_k (callX_det _) 2 _ _ _ _ (show R247 sl sx d M0 P 159 [some (vR (some l0)), none, none, none, none, none, none, some (vL l7), none, some (vL l9), none, some (vI l11), some (vI l12)] [vL l7, vI l11, vR (mR M l0 47)] M from ?_)
      rw [he]
      refine RN_k (callX_det _) 1 _ _ _ _ (show inb M a1 12 l11 ∧ R247 sl sx d M0 P 160 [some (vR (some l0)), none, none, none, none, none, none, some (vL l7), none, some (vL l9), none, some (vI l11), some (vI l12)] [] (sL M a1 l11.toNatClampNeg l7) from ⟨h.1, ?_⟩)
      replace h := h.2
      refine RN_k (callX_det _) 2 _ _ _ _ (show kd (sL M a1 l11.toNatClampNeg l7) l0 10 ∧ R247 sl sx d M0 P 164 [some (vR (some l0)), none, none, none, none, none, none, some (vL l7), none, some (vL l9), none, some (vI l11), some (vI l12)] [vR (mR (sL M a1 l11.toNatClampNeg l7) l0 48)] (sL M a1 l11.toNatClampNeg l7) from ⟨h.1, ?_⟩)
      replace h := h.2
      obtain ⟨a2, he, h⟩ := h
      refine RN_k (callX_det _) 2 _ _ _ _ (show R247 sl sx d M0 P 168 [some (vR (some l0)), none, none, none, none, none, none, some (vL l7), none, some (vL l9), none, some (vI l11), some (vI l12)] [vL l9, vI l11, vR (mR (sL M a1 l11.toNatClampNeg l7) l0 48)] (sL M a1 l11.toNatClampNeg l7) from ?_)
      rw [he]
      refine RN_k (callX_det _) 1 _ _ _ _ (show inb (sL M a1 l11.toNatClampNeg l7) a2 12 l11 ∧ R247 sl sx d M0 P 169 [some (vR (some l0)), none, none, none, none, none, none, some (vL l7), none, some (vL l9), none, some (vI l11), some (vI l12)] [] (sL (sL M a1 l11.toNatClampNeg l7) a2 l11.toNatClampNeg l9) from ⟨h.1, ?_⟩)
      replace h := h.2
      refine RN_k (callX_det _) 3 _ _ _ _ (show kd (sL (sL M a1 l11.toNatClampNeg l7) a2 l11.toNatClampNeg l9) l0 10 ∧ R247 sl sx d M0 P 174 [some (vR (some l0)), none, none, none, none, none, none, some (vL l7), none, some (vL l9), none, some (vI l11), some (vI l12)] [vI (mI (sL (sL M a1 l11.toNatClampNeg l7) a2 l11.toNatClampNeg l9) l0 49), vR (some l0)] (sL (sL M a1 l11.toNatClampNeg l7) a2 l11.toNatClampNeg l9) from ⟨h.1, ?_⟩)
      replace h := h.2
      refine RN_k (callX_det _) 3 _ _ _ _ (show kd (sL (sL M a1 l11.toNatClampNeg l7) a2 l11.toNatClampNeg l9) l0 10 ∧ R247 sl sx d M0 P 179 [some (vR (some l0)), none, none, none, none, none, none, some (vL l7), none, some (vL l9), none, some (vI l11), some (vI l12)] [] (sI (sL (sL M a1 l11.toNatClampNeg l7) a2 l11.toNatClampNeg l9) l0 49 ((mI (sL (sL M a1 l11.toNatClampNeg l7) a2 l11.toNatClampNeg l9) l0 49) + (1 : Int32))) from ⟨h.1, ?_⟩)
      replace h := h.2
      exact RN_k (callX_det _) 1 _ _ _ _ (show rtW q247 M0 (PV P) none (sI (sL (sL M a1 l11.toNatClampNeg l7) a2 l11.toNatClampNeg l9) l0 49 ((mI (sL (sL M a1 l11.toNatClampNeg l7) a2 l11.toNatClampNeg l9) l0 49) + (1 : Int32))) from ⟨rfl, hM.1, hM.2, rfl, h⟩)
    · replace h := h.2 hc
      refine RN_k (callX_det _) 2 _ _ _ _ (show kd M l0 10 ∧ R247 sl sx d M0 P 117 [some (vR (some l0)), none, none, none, none, none, none, some (vL l7), none, some (vL l9), none, some (vI l11), some (vI l12)] [vR (mR M l0 47)] M from ⟨h.1, ?_⟩)
      replace h := h.2
      refine RN_k (callX_det _) 3 _ _ _ _ (show kd M l0 10 ∧ R247 sl sx d M0 P 123 [some (vR (some l0)), none, none, none, none, none, none, some (vL l7), none, some (vL l9), none, some (vI l11), some (vI l12)] [vR (mR M l0 47), vI l12, vR (mR M l0 47)] M from ⟨h.1, ?_⟩)
      replace h := h.2
      obtain ⟨a3, he, h⟩ := h
      refine RN_k (callX_det _) 3 _ _ _ _ (show R247 sl sx d M0 P 127 [some (vR (some l0)), none, none, none, none, none, none, some (vL l7), none, some (vL l9), none, some (vI l11), some (vI l12)] [vI (l12 - (1 : Int32)), vR (mR M l0 47), vI l12, vR (mR M l0 47)] M from ?_)
      rw [he]
      refine RN_k (callX_det _) 1 _ _ _ _ (show inb M a3 12 (l12 - (1 : Int32)) ∧ R247 sl sx d M0 P 128 [some (vR (some l0)), none, none, none, none, none, none, some (vL l7), none, some (vL l9), none, some (vI l11), some (vI l12)] [vL (mL M a3 (l12 - (1 : Int32)).toNatClampNeg), vI l12, vR (some a3)] M from ⟨h.1, ?_⟩)
      replace h := h.2
      refine RN_k (callX_det _) 1 _ _ _ _ (show inb M a3 12 l12 ∧ R247 sl sx d M0 P 129 [some (vR (some l0)), none, none, none, none, none, none, some (vL l7), none, some (vL l9), none, some (vI l11), some (vI l12)] [] (sL M a3 l12.toNatClampNeg (mL M a3 (l12 - (1 : Int32)).toNatClampNeg)) from ⟨h.1, ?_⟩)
      replace h := h.2
      refine RN_k (callX_det _) 2 _ _ _ _ (show kd (sL M a3 l12.toNatClampNeg (mL M a3 (l12 - (1 : Int32)).toNatClampNeg)) l0 10 ∧ R247 sl sx d M0 P 133 [some (vR (some l0)), none, none, none, none, none, none, some (vL l7), none, some (vL l9), none, some (vI l11), some (vI l12)] [vR (mR (sL M a3 l12.toNatClampNeg (mL M a3 (l12 - (1 : Int32)).toNatClampNeg)) l0 48)] (sL M a3 l12.toNatClampNeg (mL M a3 (l12 - (1 : Int32)).toNatClampNeg)) from ⟨h.1, ?_⟩)
      replace h := h.2
      refine RN_k (callX_det _) 3 _ _ _ _ (show kd (sL M a3 l12.toNatClampNeg (mL M a3 (l12 - (1 : Int32)).toNatClampNeg)) l0 10 ∧ R247 sl sx d M0 P 139 [some (vR (some l0)), none, none, none, none, none, none, some (vL l7), none, some (vL l9), none, some (vI l11), some (vI l12)] [vR (mR (sL M a3 l12.toNatClampNeg (mL M a3 (l12 - (1 : Int32)).toNatClampNeg)) l0 48), vI l12, vR (mR (sL M a3 l12.toNatClampNeg (mL M a3 (l12 - (1 : Int32)).toNatClampNeg)) l0 48)] (sL M a3 l12.toNatClampNeg (mL M a3 (l12 - (1 : Int32)).toNatClampNeg)) from ⟨h.1, ?_⟩)
      replace h := h.2
      obtain ⟨a4, he, h⟩ := h
      refine RN_k (callX_det _) 3 _ _ _ _ (show R247 sl sx d M0 P 143 [some (vR (some l0)), none, none, none, none, none, none, some (vL l7), none, some (vL l9), none, some (vI l11), some (vI l12)] [vI (l12 - (1 : Int32)), vR (mR (sL M a3 l12.toNatClampNeg (mL M a3 (l12 - (1 : Int32)).toNatClampNeg)) l0 48), vI l12, vR (mR (sL M a3 l12.toNatClampNeg (mL M a3 (l12 - (1 : Int32)).toNatClampNeg)) l0 48)] (sL M a3 l12.toNatClampNeg (mL M a3 (l12 - (1 : Int32)).toNatClampNeg)) from ?_)
      rw [he]
      refine RN_k (callX_det _) 1 _ _ _ _ (show inb (sL M a3 l12.toNatClampNeg (mL M a3 (l12 - (1 : Int32)).toNatClampNeg)) a4 12 (l12 - (1 : Int32)) ∧ R247 sl sx d M0 P 144 [some (vR (some l0)), none, none, none, none, none, none, some (vL l7), none, some (vL l9), none, some (vI l11), some (vI l12)] [vL (mL (sL M a3 l12.toNatClampNeg (mL M a3 (l12 - (1 : Int32)).toNatClampNeg)) a4 (l12 - (1 : Int32)).toNatClampNeg), vI l12, vR (some a4)] (sL M a3 l12.toNatClampNeg (mL M a3 (l12 - (1 : Int32)).toNatClampNeg)) from ⟨h.1, ?_⟩)
      replace h := h.2
      refine RN_k (callX_det _) 1 _ _ _ _ (show inb (sL M a3 l12.toNatClampNeg (mL M a3 (l12 - (1 : Int32)).toNatClampNeg)) a4 12 l12 ∧ R247 sl sx d M0 P 145 [some (vR (some l0)), none, none, none, none, none, none, some (vL l7), none, some (vL l9), none, some (vI l11), some (vI l12)] [] (sL (sL M a3 l12.toNatClampNeg (mL M a3 (l12 - (1 : Int32)).toNatClampNeg)) a4 l12.toNatClampNeg (mL (sL M a3 l12.toNatClampNeg (mL M a3 (l12 - (1 : Int32)).toNatClampNeg)) a4 (l12 - (1 : Int32)).toNatClampNeg)) from ⟨h.1, ?_⟩)
      replace h := h.2
      exact RN_weak (K := [some (vR (some l0)), none, none, none, none, none, none, some (vL l7), none, some (vL l9), none, some (vI l11), some (vI l12)]) (callX_det _) (show _ ∧ _ ∧ _ ∧ _ ∧ _ ∧ True from ⟨rfl, rfl, rfl, rfl, rfl, trivial⟩) (t247_145 ih l0 l7 l9 l11 l12 _ hM h)
def w247_100 (l0 : Nat) (l7 : Int64) (l9 : Int64) (l11 : Int32) (M : MM) (P : MM → Prop) : Prop := kd M l0 10 ∧ (∃ n2, w247_106  n2 l0 l7 l9 l11 (mI M l0 49) M P)
theorem t247_100 {sl : Nat} {sx : Nat → Int32} {d : Nat} {M0 : MM} {P : MM → Prop} (l0 : Nat) (l7 : Int64) (l9 : Int64) (l11 : Int32) (M : MM) (hM : lenO M0 M) (h : w247_100  l0 l7 l9 l11 M P) : R247 sl sx d M0 P 100 [some (vR (some l0)), none, none, none, none, none, none, some (vL l7), none, some (vL l9), none, some (vI l11), none] [] M := by
  refine RN_k (callX_det _) 2 _ _ _ _ (show kd M l0 10 ∧ R247 sl sx d M0 P 104 [some (vR (some l0)), none, none, none, none, none, none, some (vL l7), none, some (vL l9), none, some (vI l11), none] [vI (mI M l0 49)] M from ⟨h.1, ?_⟩)
  replace h := h.2
  refine RN_k (callX_det _) 1 _ _ _ _ (show R247 sl sx d M0 P 106 [some (vR (some l0)), none, none, none, none, none, none, some (vL l7), none, some (vL l9), none, some (vI l11), some (vI (mI M l0 49))] [] M from ?_)
  obtain ⟨n2, h⟩ := h
  exact RN_weak (K := [some (vR (some l0)), none, none, none, none, none, none, some (vL l7), none, some (vL l9), none, some (vI l11), some (vI (mI M l0 49))]) (callX_det _) (show _ ∧ _ ∧ _ ∧ _ ∧ _ ∧ True from ⟨rfl, rfl, rfl, rfl, rfl, trivial⟩) (t247_106  n2 l0 l7 l9 l11 (mI M l0 49) _ hM h)
def w247_64 (l0 : Nat) (l7 : Int64) (l9 : Int64) (l11 : Int32) (M : MM) (P : MM → Prop) : Prop := (l11 ≤ 0 → (w247_100  l0 l7 l9 l11 M P)) ∧ (¬ (l11 ≤ 0) → (kd M l0 10 ∧ (∃ a1, mR M l0 47 = some a1 ∧ (inb M a1 12 (l11 - (1 : Int32)) ∧ (((lg_cmp (mL M a1 (l11 - (1 : Int32)).toNatClampNeg) l7) ≠ 0 → (w247_100  l0 l7 l9 l11 M P)) ∧ (¬ ((lg_cmp (mL M a1 (l11 - (1 : Int32)).toNatClampNeg) l7) ≠ 0) → (kd M l0 10 ∧ (∃ a2, mR M l0 48 = some a2 ∧ (inb M a2 12 (l11 - (1 : Int32)) ∧ (((lg_cmp (mL M a2 (l11 - (1 : Int32)).toNatClampNeg) l9) ≠ 0 → (w247_100  l0 l7 l9 l11 M P)) ∧ (¬ ((lg_cmp (mL M a2 (l11 - (1 : Int32)).toNatClampNeg) l9) ≠ 0) → (P M))))))))))))
theorem t247_64 {sl : Nat} {sx : Nat → Int32} {d : Nat} {M0 : MM} {P : MM → Prop} (l0 : Nat) (l7 : Int64) (l9 : Int64) (l11 : Int32) (M : MM) (hM : lenO M0 M) (h : w247_64  l0 l7 l9 l11 M P) : R247 sl sx d M0 P 64 [some (vR (some l0)), none, none, none, none, none, none, some (vL l7), none, some (vL l9), none, some (vI l11), none] [] M := by
  refine RN_k (callX_det _) 2 _ _ _ _ (show (l11 ≤ 0 → R247 sl sx d M0 P 100 [some (vR (some l0)), none, none, none, none, none, none, some (vL l7), none, some (vL l9), none, some (vI l11), none] [] M) ∧ (¬ (l11 ≤ 0) → R247 sl sx d M0 P 69 [some (vR (some l0)), none, none, none, none, none, none, some (vL l7), none, some (vL l9), none, some (vI l11), none] [] M) from ⟨fun hc => ?_, fun hc => ?_⟩)
  · replace h := h.1 hc
    exact RN_weak (K := [some (vR (some l0)), none, none, none, none, none, none, some (vL l7), none, some (vL l9), none, some (vI l11), none]) (callX_det _) (show _ ∧ _ ∧ _ ∧ _ ∧ True from ⟨rfl, rfl, rfl, rfl, trivial⟩) (t247_100  l0 l7 l9 l11 _ hM h)
  · replace h := h.2 hc
    refine RN_k (callX_det _) 2 _ _ _ _ (show kd M l0 10 ∧ R247 sl sx d M0 P 73 [some (vR (some l0)), none, none, none, none, none, none, some (vL l7), none, some (vL l9), none, some (vI l11), none] [vR (mR M l0 47)] M from ⟨h.1, ?_⟩)
    replace h := h.2
    obtain ⟨a1, he, h⟩ := h
    refine RN_k (callX_det _) 3 _ _ _ _ (show R247 sl sx d M0 P 77 [some (vR (some l0)), none, none, none, none, none, none, some (vL l7), none, some (vL l9), none, some (vI l11), none] [vI (l11 - (1 : Int32)), vR (mR M l0 47)] M from ?_)
    rw [he]
    refine RN_k (callX_det _) 1 _ _ _ _ (show inb M a1 12 (l11 - (1 : Int32)) ∧ R247 sl sx d M0 P 78 [some (vR (some l0)), none, none, none, none, none, none, some (vL l7), none, some (vL l9), none, some (vI l11), none] [vL (mL M a1 (l11 - (1 : Int32)).toNatClampNeg)] M from ⟨h.1, ?_⟩)
    replace h := h.2
    refine RN_k (callX_det _) 3 _ _ _ _ (show ((lg_cmp (mL M a1 (l11 - (1 : Int32)).toNatClampNeg) l7) ≠ 0 → R247 sl sx d M0 P 100 [some (vR (some l0)), none, none, none, none, none, none, some (vL l7), none, some (vL l9), none, some (vI l11), none] [] M) ∧ (¬ ((lg_cmp (mL M a1 (l11 - (1 : Int32)).toNatClampNeg) l7) ≠ 0) → R247 sl sx d M0 P 84 [some (vR (some l0)), none, none, none, none, none, none, some (vL l7), none, some (vL l9), none, some (vI l11), none] [] M) from ⟨fun hc => ?_, fun hc => ?_⟩)
    · replace h := h.1 hc
      exact RN_weak (K := [some (vR (some l0)), none, none, none, none, none, none, some (vL l7), none, some (vL l9), none, some (vI l11), none]) (callX_det _) (show _ ∧ _ ∧ _ ∧ _ ∧ True from ⟨rfl, rfl, rfl, rfl, trivial⟩) (t247_100  l0 l7 l9 l11 _ hM h)
    · replace h := h.2 hc
      refine RN_k (callX_det _) 2 _ _ _ _ (show kd M l0 10 ∧ R247 sl sx d M0 P 88 [some (vR (some l0)), none, none, none, none, none, none, some (vL l7), none, some (vL l9), none, some (vI l11), none] [vR (mR M l0 48)] M from ⟨h.1, ?_⟩)
      replace h := h.2
      obtain ⟨a2, he, h⟩ := h
      refine RN_k (callX_det _) 3 _ _ _ _ (show R247 sl sx d M0 P 92 [some (vR (some l0)), none, none, none, none, none, none, some (vL l7), none, some (vL l9), none, some (vI l11), none] [vI (l11 - (1 : Int32)), vR (mR M l0 48)] M from ?_)
      rw [he]
      refine RN_k (callX_det _) 1 _ _ _ _ (show inb M a2 12 (l11 - (1 : Int32)) ∧ R247 sl sx d M0 P 93 [some (vR (some l0)), none, none, none, none, none, none, some (vL l7), none, some (vL l9), none, some (vI l11), none] [vL (mL M a2 (l11 - (1 : Int32)).toNatClampNeg)] M from ⟨h.1, ?_⟩)
      replace h := h.2
      refine RN_k (callX_det _) 3 _ _ _ _ (show ((lg_cmp (mL M a2 (l11 - (1 : Int32)).toNatClampNeg) l9) ≠ 0 → R247 sl sx d M0 P 100 [some (vR (some l0)), none, none, none, none, none, none, some (vL l7), none, some (vL l9), none, some (vI l11), none] [] M) ∧ (¬ ((lg_cmp (mL M a2 (l11 - (1 : Int32)).toNatClampNeg) l9) ≠ 0) → R247 sl sx d M0 P 99 [some (vR (some l0)), none, none, none, none, none, none, some (vL l7), none, some (vL l9), none, some (vI l11), none] [] M) from ⟨fun hc => ?_, fun hc => ?_⟩)
      · replace h := h.1 hc
        exact RN_weak (K := [some (vR (some l0)), none, none, none, none, none, none, some (vL l7), none, some (vL l9), none, some (vI l11), none]) (callX_det _) (show _ ∧ _ ∧ _ ∧ _ ∧ True from ⟨rfl, rfl, rfl, rfl, trivial⟩) (t247_100  l0 l7 l9 l11 _ hM h)
      · replace h := h.2 hc
        exact RN_k (callX_det _) 1 _ _ _ _ (show rtW q247 M0 (PV P) none M from ⟨rfl, hM.1, hM.2, rfl, h⟩)
def w247_25 : Nat → Nat → Int64 → Int64 → Int32 → MM → (MM → Prop) → Prop
  | 0 => fun _ _ _ _ _ _ => False
  | n + 1 => fun l0 l7 l9 l11 M P => (l11 ≤ 0 → (w247_64  l0 l7 l9 l11 M P)) ∧ (¬ (l11 ≤ 0) → (kd M l0 10 ∧ (∃ a1, mR M l0 47 = some a1 ∧ (inb M a1 12 (l11 - (1 : Int32)) ∧ (kd M l0 10 ∧ (∃ a2, mR M l0 48 = some a2 ∧ (inb M a2 12 (l11 - (1 : Int32)) ∧ (w199 (mL M a1 (l11 - (1 : Int32)).toNatClampNeg) (mL M a2 (l11 - (1 : Int32)).toNatClampNeg) l7 l9 M (fun r4 M3 => (r4 ≤ 0 → (w247_64  l0 l7 l9 l11 M3 P)) ∧ (¬ (r4 ≤ 0) → (w247_25  n l0 l7 l9 (l11 + (-1 : Int32)) M3 P)))))))))))
theorem t247_25 {sl : Nat} {sx : Nat → Int32} {d : Nat} {M0 : MM} {P : MM → Prop} (n : Nat) : ∀ (l0 : Nat) (l7 : Int64) (l9 : Int64) (l11 : Int32) (M : MM) (_ : lenO M0 M) (_ : w247_25  n l0 l7 l9 l11 M P), R247 sl sx d M0 P 25 [some (vR (some l0)), none, none, none, none, none, none, some (vL l7), none, some (vL l9), none, some (vI l11), none] [] M := by
  induction n with
  | zero => intro l0 l7 l9 l11 M hM h; cases h
  | succ n ih =>
    intro l0 l7 l9 l11 M hM h
    refine RN_k (callX_det _) 2 _ _ _ _ (show (l11 ≤ 0 → R247 sl sx d M0 P 64 [some (vR (some l0)), none, none, none, none, none, none, some (vL l7), none, some (vL l9), none, some (vI l11), none] [] M) ∧ (¬ (l11 ≤ 0) → R247 sl sx d M0 P 30 [some (vR (some l0)), none, none, none, none, none, none, some (vL l7), none, some (vL l9), none, some (vI l11), none] [] M) from ⟨fun hc => ?_, fun hc => ?_⟩)
    · replace h := h.1 hc
      exact RN_weak (K := [some (vR (some l0)), none, none, none, none, none, none, some (vL l7), none, some (vL l9), none, some (vI l11), none]) (callX_det _) (show _ ∧ _ ∧ _ ∧ _ ∧ True from ⟨rfl, rfl, rfl, rfl, trivial⟩) (t247_64  l0 l7 l9 l11 _ hM h)
    · replace h := h.2 hc
      refine RN_k (callX_det _) 2 _ _ _ _ (show kd M l0 10 ∧ R247 sl sx d M0 P 34 [some (vR (some l0)), none, none, none, none, none, none, some (vL l7), none, some (vL l9), none, some (vI l11), none] [vR (mR M l0 47)] M from ⟨h.1, ?_⟩)
      replace h := h.2
      obtain ⟨a1, he, h⟩ := h
      refine RN_k (callX_det _) 3 _ _ _ _ (show R247 sl sx d M0 P 38 [some (vR (some l0)), none, none, none, none, none, none, some (vL l7), none, some (vL l9), none, some (vI l11), none] [vI (l11 - (1 : Int32)), vR (mR M l0 47)] M from ?_)
      rw [he]
      refine RN_k (callX_det _) 1 _ _ _ _ (show inb M a1 12 (l11 - (1 : Int32)) ∧ R247 sl sx d M0 P 39 [some (vR (some l0)), none, none, none, none, none, none, some (vL l7), none, some (vL l9), none, some (vI l11), none] [vL (mL M a1 (l11 - (1 : Int32)).toNatClampNeg)] M from ⟨h.1, ?_⟩)
      replace h := h.2
      refine RN_k (callX_det _) 2 _ _ _ _ (show kd M l0 10 ∧ R247 sl sx d M0 P 43 [some (vR (some l0)), none, none, none, none, none, none, some (vL l7), none, some (vL l9), none, some (vI l11), none] [vR (mR M l0 48), vL (mL M a1 (l11 - (1 : Int32)).toNatClampNeg)] M from ⟨h.1, ?_⟩)
      replace h := h.2
      obtain ⟨a2, he, h⟩ := h
      refine RN_k (callX_det _) 3 _ _ _ _ (show R247 sl sx d M0 P 47 [some (vR (some l0)), none, none, none, none, none, none, some (vL l7), none, some (vL l9), none, some (vI l11), none] [vI (l11 - (1 : Int32)), vR (mR M l0 48), vL (mL M a1 (l11 - (1 : Int32)).toNatClampNeg)] M from ?_)
      rw [he]
      refine RN_k (callX_det _) 1 _ _ _ _ (show inb M a2 12 (l11 - (1 : Int32)) ∧ R247 sl sx d M0 P 48 [some (vR (some l0)), none, none, none, none, none, none, some (vL l7), none, some (vL l9), none, some (vI l11), none] [vL (mL M a2 (l11 - (1 : Int32)).toNatClampNeg), vL (mL M a1 (l11 - (1 : Int32)).toNatClampNeg)] M from ⟨h.1, ?_⟩)
      replace h := h.2
      refine RN_k (callX_det _) 3 _ _ _ _ (show callX TBg sl sx (d + 100) 199 [vL (mL M a1 (l11 - (1 : Int32)).toNatClampNeg), vL (mL M a2 (l11 - (1 : Int32)).toNatClampNeg), vL l7, vL l9] M (fun v M9 => R247 sl sx d M0 P 55 [some (vR (some l0)), none, none, none, none, none, none, some (vL l7), none, some (vL l9), none, some (vI l11), none] (pushO v []) M9) from ?_)
      refine callX_mono (callX_len (d := (d + 100)) rfl rfl rfl (c199 (d := d + 98) h)) ?_
      clear h
      rintro v9 M3 ⟨hl, r4, rfl, h⟩
      replace hM := lenT hM hl
      show R247 sl sx d M0 P 55 [some (vR (some l0)), none, none, none, none, none, none, some (vL l7), none, some (vL l9), none, some (vI l11), none] [vI r4] M3
      refine RN_k (callX_det _) 1 _ _ _ _ (show (r4 ≤ 0 → R247 sl sx d M0 P 64 [some (vR (some l0)), none, none, none, none, none, none, some (vL l7), none, some (vL l9), none, some (vI l11), none] [] M3) ∧ (¬ (r4 ≤ 0) → R247 sl sx d M0 P 58 [some (vR (some l0)), none, none, none, none, none, none, some (vL l7), none, some (vL l9), none, some (vI l11), none] [] M3) from ⟨fun hc => ?_, fun hc => ?_⟩)
      · replace h := h.1 hc
        exact RN_weak (K := [some (vR (some l0)), none, none, none, none, none, none, some (vL l7), none, some (vL l9), none, some (vI l11), none]) (callX_det _) (show _ ∧ _ ∧ _ ∧ _ ∧ True from ⟨rfl, rfl, rfl, rfl, trivial⟩) (t247_64  l0 l7 l9 l11 _ hM h)
      · replace h := h.2 hc
        refine RN_k (callX_det _) 2 _ _ _ _ (show R247 sl sx d M0 P 25 [some (vR (some l0)), none, none, none, none, none, none, some (vL l7), none, some (vL l9), none, some (vI (l11 + (-1 : Int32))), none] [] M3 from ?_)
        exact RN_weak (K := [some (vR (some l0)), none, none, none, none, none, none, some (vL l7), none, some (vL l9), none, some (vI (l11 + (-1 : Int32))), none]) (callX_det _) (show _ ∧ _ ∧ _ ∧ _ ∧ True from ⟨rfl, rfl, rfl, rfl, trivial⟩) (ih l0 l7 l9 (l11 + (-1 : Int32)) _ hM h)
def w247 (l0 : Nat) (l1 : Int64) (l3 : Int64) (M : MM) (P : MM → Prop) : Prop := w196 100 l1 l3 M (fun r2 M1 => ¬ r2 = 0 ∧ (¬ r2 = 0 ∧ (kd M1 l0 10 ∧ (∃ n2, w247_25  n2 l0 (l1 / r2) (l3 / r2) (mI M1 l0 49) M1 P))))
theorem t247_E {sl : Nat} {sx : Nat → Int32} {d : Nat} {M0 : MM} {P : MM → Prop} (l0 : Nat) (l1 : Int64) (l3 : Int64) (M : MM) (hM : lenO M0 M) (h : w247  l0 l1 l3 M P) : R247 sl sx d M0 P 0 [some (vR (some l0)), some (vL l1), none, some (vL l3), none, none, none, none, none, none, none, none, none] [] M := by
  refine RN_k (callX_det _) 3 _ _ _ _ (show callX TBg sl sx (d + 100) 196 [vL l1, vL l3] M (fun v M9 => R247 sl sx d M0 P 5 [some (vR (some l0)), some (vL l1), none, some (vL l3), none, none, none, none, none, none, none, none, none] (pushO v []) M9) from ?_)
  refine callX_mono (callX_len (d := (d + 100)) rfl rfl rfl (c196 100 (d) _ _ _ _ h)) ?_
  clear h
  rintro v9 M1 ⟨hl, r2, rfl, h⟩
  replace hM := lenT hM hl
  show R247 sl sx d M0 P 5 [some (vR (some l0)), some (vL l1), none, some (vL l3), none, none, none, none, none, none, none, none, none] [vL r2] M1
  refine RN_k (callX_det _) 4 _ _ _ _ (show ¬ r2 = 0 ∧ R247 sl sx d M0 P 11 [some (vR (some l0)), some (vL l1), none, some (vL l3), none, some (vL r2), none, none, none, none, none, none, none] [vL (l1 / r2)] M1 from ⟨h.1, ?_⟩)
  replace h := h.2
  refine RN_k (callX_det _) 4 _ _ _ _ (show ¬ r2 = 0 ∧ R247 sl sx d M0 P 17 [some (vR (some l0)), some (vL l1), none, some (vL l3), none, some (vL r2), none, some (vL (l1 / r2)), none, none, none, none, none] [vL (l3 / r2)] M1 from ⟨h.1, ?_⟩)
  replace h := h.2
  refine RN_k (callX_det _) 3 _ _ _ _ (show kd M1 l0 10 ∧ R247 sl sx d M0 P 23 [some (vR (some l0)), some (vL l1), none, some (vL l3), none, some (vL r2), none, some (vL (l1 / r2)), none, some (vL (l3 / r2)), none, none, none] [vI (mI M1 l0 49)] M1 from ⟨h.1, ?_⟩)
  replace h := h.2
  refine RN_k (callX_det _) 1 _ _ _ _ (show R247 sl sx d M0 P 25 [some (vR (some l0)), some (vL l1), none, some (vL l3), none, some (vL r2), none, some (vL (l1 / r2)), none, some (vL (l3 / r2)), none, some (vI (mI M1 l0 49)), none] [] M1 from ?_)
  obtain ⟨n2, h⟩ := h
  exact RN_weak (K := [some (vR (some l0)), none, none, none, none, none, none, some (vL (l1 / r2)), none, some (vL (l3 / r2)), none, some (vI (mI M1 l0 49)), none]) (callX_det _) (show _ ∧ _ ∧ _ ∧ _ ∧ True from ⟨rfl, rfl, rfl, rfl, trivial⟩) (t247_25  n2 l0 (l1 / r2) (l3 / r2) (mI M1 l0 49) _ hM h)
theorem c247 {sl : Nat} {sx : Nat → Int32} {d : Nat} {l0 : Nat} {l1 : Int64} {l3 : Int64} {M : MM} {P : MM → Prop} (h : w247 l0 l1 l3 M P) : callX TBg sl sx (d + 101) 247 [vR (some l0), vL l1, vL l3] M (PV P) :=
  cX (d := d + 100) q247 (false, tb247) rfl rfl rfl (t247_E l0 l1 l3 M lenR h)
-- TwoLeashModel.putsBetween(IIIIIIII)V
abbrev q249 : MQ7 := (9, 1, 19, 10, 0, 0, 0)
abbrev R249 (sl : Nat) (sx : Nat → Int32) (d : Nat) (M0 : MM) (P : MM → Prop) : Nat → LL → List VV → MM → Prop := RN 10 false (mS M0).length (mT M0) 0 0 sl sx (callX TBg sl sx (d + 101)) (rtW q249 M0 (PV P)) (as2 tb249)
def w249_122 (M : MM) (P : MM → Prop) : Prop := P M
theorem t249_122 {sl : Nat} {sx : Nat → Int32} {d : Nat} {M0 : MM} {P : MM → Prop}  (M : MM) (hM : lenO M0 M) (h : w249_122   M P) : R249 sl sx d M0 P 122 [none, none, none, none, none, none, none, none, none, none, none, none, none, none, none, none, none, none, none] [] M := by
  exact RN_k (callX_det _) 1 _ _ _ _ (show rtW q249 M0 (PV P) none M from ⟨rfl, hM.1, hM.2, rfl, h⟩)
def w249_107 (l0 : Nat) (l9 : Int64) (l11 : Int64) (l13 : Int64) (l15 : Int64) (l17 : Int64) (M : MM) (P : MM → Prop) : Prop := ((lg_cmp l17 (0 : Int64)) < 0 → (w249_122  M P)) ∧ (¬ ((lg_cmp l17 (0 : Int64)) < 0) → (((lg_cmp l17 l15) ≤ 0 → (kd M l0 10 ∧ w247 l0 ((((l11 * l15) * l15) - ((((2 : Int64) * l17) * l9) * l15)) + ((l17 * l17) * l13)) (l15 * l15) M (fun M1 => P M1))) ∧ (¬ ((lg_cmp l17 l15) ≤ 0) → (w249_122  M P))))
theorem t249_107 {sl : Nat} {sx : Nat → Int32} {d : Nat} {M0 : MM} {P : MM → Prop} (l0 : Nat) (l9 : Int64) (l11 : Int64) (l13 : Int64) (l15 : Int64) (l17 : Int64) (M : MM) (hM : lenO M0 M) (h : w249_107  l0 l9 l11 l13 l15 l17 M P) : R249 sl sx d M0 P 107 [some (vR (some l0)), none, none, none, none, none, none, none, none, some (vL l9), none, some (vL l11), none, some (vL l13), none, some (vL l15), none, some (vL l17), none] [] M := by
  refine RN_k (callX_det _) 4 _ _ _ _ (show ((lg_cmp l17 (0 : Int64)) < 0 → R249 sl sx d M0 P 122 [some (vR (some l0)), none, none, none, none, none, none, none, none, some (vL l9), none, some (vL l11), none, some (vL l13), none, some (vL l15), none, some (vL l17), none] [] M) ∧ (¬ ((lg_cmp l17 (0 : Int64)) < 0) → R249 sl sx d M0 P 114 [some (vR (some l0)), none, none, none, none, none, none, none, none, some (vL l9), none, some (vL l11), none, some (vL l13), none, some (vL l15), none, some (vL l17), none] [] M) from ⟨fun hc => ?_, fun hc => ?_⟩)
  · replace h := h.1 hc
    exact RN_weak (K := [none, none, none, none, none, none, none, none, none, none, none, none, none, none, none, none, none, none, none]) (callX_det _) (show True from trivial) (t249_122   _ hM h)
  · replace h := h.2 hc
    refine RN_k (callX_det _) 4 _ _ _ _ (show ((lg_cmp l17 l15) ≤ 0 → R249 sl sx d M0 P 123 [some (vR (some l0)), none, none, none, none, none, none, none, none, some (vL l9), none, some (vL l11), none, some (vL l13), none, some (vL l15), none, some (vL l17), none] [] M) ∧ (¬ ((lg_cmp l17 l15) ≤ 0) → R249 sl sx d M0 P 122 [some (vR (some l0)), none, none, none, none, none, none, none, none, some (vL l9), none, some (vL l11), none, some (vL l13), none, some (vL l15), none, some (vL l17), none] [] M) from ⟨fun hc => ?_, fun hc => ?_⟩)
    · replace h := h.1 hc
      refine RN_k (callX_det _) 24 _ _ _ _ (show kd M l0 10 ∧ callX TBg sl sx (d + 101) 247 [vR (some l0), vL ((((l11 * l15) * l15) - ((((2 : Int64) * l17) * l9) * l15)) + ((l17 * l17) * l13)), vL (l15 * l15)] M (fun v M9 => R249 sl sx d M0 P 162 [some (vR (some l0)), none, none, none, none, none, none, none, none, some (vL l9), none, some (vL l11), none, some (vL l13), none, some (vL l15), none, some (vL l17), none] (pushO v []) M9) from ⟨h.1, ?_⟩)
      replace h := h.2
      refine callX_mono (callX_len (d := (d + 101)) rfl rfl rfl (c247 (d := d) h)) ?_
      clear h
      rintro v9 M1 ⟨hl, rfl, h⟩
      replace hM := lenT hM hl
      show R249 sl sx d M0 P 162 [some (vR (some l0)), none, none, none, none, none, none, none, none, some (vL l9), none, some (vL l11), none, some (vL l13), none, some (vL l15), none, some (vL l17), none] [] M1
      exact RN_k (callX_det _) 1 _ _ _ _ (show rtW q249 M0 (PV P) none M1 from ⟨rfl, hM.1, hM.2, rfl, h⟩)
    · replace h := h.2 hc
      exact RN_weak (K := [none, none, none, none, none, none, none, none, none, none, none, none, none, none, none, none, none, none, none]) (callX_det _) (show True from trivial) (t249_122   _ hM h)
def w249 (l0 : Nat) (l1 : Int32) (l2 : Int32) (l3 : Int32) (l4 : Int32) (l5 : Int32) (l6 : Int32) (l7 : Int32) (l8 : Int32) (M : MM) (P : MM → Prop) : Prop := kd M l0 10 ∧ w193 l0 l1 l2 l5 l6 l7 l8 M (fun M1 => kd M1 l0 10 ∧ (w187 l1 l2 l5 l6 M1 (fun r3 M2 => kd M2 l0 10 ∧ (kd M2 l0 10 ∧ w193 l0 l3 l4 l5 l6 l7 l8 M2 (fun M4 => kd M4 l0 10 ∧ (w187 l3 l4 l5 l6 M4 (fun r6 M5 => ((lg_cmp ((2 : Int64) * ((mL M1 l0 31) - (mL M4 l0 31))) (0 : Int64)) ≠ 0 → ((0 ≤ (lg_cmp ((2 : Int64) * ((mL M1 l0 31) - (mL M4 l0 31))) (0 : Int64)) → (w249_107  l0 (mL M1 l0 31) r3.toInt64 (mL M2 l0 33) ((2 : Int64) * ((mL M1 l0 31) - (mL M4 l0 31))) (r3.toInt64 - r6.toInt64) M5 P)) ∧ (¬ (0 ≤ (lg_cmp ((2 : Int64) * ((mL M1 l0 31) - (mL M4 l0 31))) (0 : Int64))) → (w249_107  l0 (mL M1 l0 31) r3.toInt64 (mL M2 l0 33) (-((2 : Int64) * ((mL M1 l0 31) - (mL M4 l0 31)))) (-(r3.toInt64 - r6.toInt64)) M5 P)))) ∧ (¬ ((lg_cmp ((2 : Int64) * ((mL M1 l0 31) - (mL M4 l0 31))) (0 : Int64)) ≠ 0) → (P M5)))))))))
theorem t249_E {sl : Nat} {sx : Nat → Int32} {d : Nat} {M0 : MM} {P : MM → Prop} (l0 : Nat) (l1 : Int32) (l2 : Int32) (l3 : Int32) (l4 : Int32) (l5 : Int32) (l6 : Int32) (l7 : Int32) (l8 : Int32) (M : MM) (hM : lenO M0 M) (h : w249  l0 l1 l2 l3 l4 l5 l6 l7 l8 M P) : R249 sl sx d M0 P 0 [some (vR (some l0)), some (vI l1), some (vI l2), some (vI l3), some (vI l4), some (vI l5), some (vI l6), some (vI l7), some (vI l8), none, none, none, none, none, none, none, none, none, none] [] M := by
  refine RN_k (callX_det _) 8 _ _ _ _ (show kd M l0 10 ∧ callX TBg sl sx (d + 101) 193 [vR (some l0), vI l1, vI l2, vI l5, vI l6, vI l7, vI l8] M (fun v M9 => R249 sl sx d M0 P 14 [some (vR (some l0)), some (vI l1), some (vI l2), some (vI l3), some (vI l4), some (vI l5), some (vI l6), some (vI l7), some (vI l8), none, none, none, none, none, none, none, none, none, none] (pushO v []) M9) from ⟨h.1, ?_⟩)
  replace h := h.2
  refine callX_mono (callX_len (d := (d + 101)) rfl rfl rfl (c193 (d := d + 100) h)) ?_
  clear h
  rintro v9 M1 ⟨hl, rfl, h⟩
  replace hM := lenT hM hl
  show R249 sl sx d M0 P 14 [some (vR (some l0)), some (vI l1), some (vI l2), some (vI l3), some (vI l4), some (vI l5), some (vI l6), some (vI l7), some (vI l8), none, none, none, none, none, none, none, none, none, none] [] M1
  refine RN_k (callX_det _) 2 _ _ _ _ (show kd M1 l0 10 ∧ R249 sl sx d M0 P 18 [some (vR (some l0)), some (vI l1), some (vI l2), some (vI l3), some (vI l4), some (vI l5), some (vI l6), some (vI l7), some (vI l8), none, none, none, none, none, none, none, none, none, none] [vL (mL M1 l0 31)] M1 from ⟨h.1, ?_⟩)
  replace h := h.2
  refine RN_k (callX_det _) 6 _ _ _ _ (show callX TBg sl sx (d + 101) 187 [vI l1, vI l2, vI l5, vI l6] M1 (fun v M9 => R249 sl sx d M0 P 29 [some (vR (some l0)), some (vI l1), some (vI l2), some (vI l3), some (vI l4), some (vI l5), some (vI l6), some (vI l7), some (vI l8), some (vL (mL M1 l0 31)), none, none, none, none, none, none, none, none, none] (pushO v []) M9) from ?_)
  refine callX_mono (callX_len (d := (d + 101)) rfl rfl rfl (c187 (d := d + 100) h)) ?_
  clear h
  rintro v9 M2 ⟨hl, r3, rfl, h⟩
  replace hM := lenT hM hl
  show R249 sl sx d M0 P 29 [some (vR (some l0)), some (vI l1), some (vI l2), some (vI l3), some (vI l4), some (vI l5), some (vI l6), some (vI l7), some (vI l8), some (vL (mL M1 l0 31)), none, none, none, none, none, none, none, none, none] [vI r3] M2
  refine RN_k (callX_det _) 4 _ _ _ _ (show kd M2 l0 10 ∧ R249 sl sx d M0 P 36 [some (vR (some l0)), some (vI l1), some (vI l2), some (vI l3), some (vI l4), some (vI l5), some (vI l6), some (vI l7), some (vI l8), some (vL (mL M1 l0 31)), none, some (vL r3.toInt64), none, none, none, none, none, none, none] [vL (mL M2 l0 33)] M2 from ⟨h.1, ?_⟩)
  replace h := h.2
  refine RN_k (callX_det _) 9 _ _ _ _ (show kd M2 l0 10 ∧ callX TBg sl sx (d + 101) 193 [vR (some l0), vI l3, vI l4, vI l5, vI l6, vI l7, vI l8] M2 (fun v M9 => R249 sl sx d M0 P 53 [some (vR (some l0)), some (vI l1), some (vI l2), some (vI l3), some (vI l4), some (vI l5), some (vI l6), some (vI l7), some (vI l8), some (vL (mL M1 l0 31)), none, some (vL r3.toInt64), none, some (vL (mL M2 l0 33)), none, none, none, none, none] (pushO v []) M9) from ⟨h.1, ?_⟩)
  replace h := h.2
  refine callX_mono (callX_len (d := (d + 101)) rfl rfl rfl (c193 (d := d + 100) h)) ?_
  clear h
  rintro v9 M4 ⟨hl, rfl, h⟩
  replace hM := lenT hM hl
  show R249 sl sx d M0 P 53 [some (vR (some l0)), some (vI l1), some (vI l2), some (vI l3), some (vI l4), some (vI l5), some (vI l6), some (vI l7), some (vI l8), some (vL (mL M1 l0 31)), none, some (vL r3.toInt64), none, some (vL (mL M2 l0 33)), none, none, none, none, none] [] M4
  refine RN_k (callX_det _) 4 _ _ _ _ (show kd M4 l0 10 ∧ R249 sl sx d M0 P 62 [some (vR (some l0)), some (vI l1), some (vI l2), some (vI l3), some (vI l4), some (vI l5), some (vI l6), some (vI l7), some (vI l8), some (vL (mL M1 l0 31)), none, some (vL r3.toInt64), none, some (vL (mL M2 l0 33)), none, none, none, none, none] [vL (mL M4 l0 31), vL (mL M1 l0 31), vL (2 : Int64)] M4 from ⟨h.1, ?_⟩)
  replace h := h.2
  refine RN_k (callX_det _) 9 _ _ _ _ (show callX TBg sl sx (d + 101) 187 [vI l3, vI l4, vI l5, vI l6] M4 (fun v M9 => R249 sl sx d M0 P 78 [some (vR (some l0)), some (vI l1), some (vI l2), some (vI l3), some (vI l4), some (vI l5), some (vI l6), some (vI l7), some (vI l8), some (vL (mL M1 l0 31)), none, some (vL r3.toInt64), none, some (vL (mL M2 l0 33)), none, some (vL ((2 : Int64) * ((mL M1 l0 31) - (mL M4 l0 31)))), none, none, none] (pushO v [vL r3.toInt64]) M9) from ?_)
  refine callX_mono (callX_len (d := (d + 101)) rfl rfl rfl (c187 (d := d + 100) h)) ?_
  clear h
  rintro v9 M5 ⟨hl, r6, rfl, h⟩
  replace hM := lenT hM hl
  show R249 sl sx d M0 P 78 [some (vR (some l0)), some (vI l1), some (vI l2), some (vI l3), some (vI l4), some (vI l5), some (vI l6), some (vI l7), some (vI l8), some (vL (mL M1 l0 31)), none, some (vL r3.toInt64), none, some (vL (mL M2 l0 33)), none, some (vL ((2 : Int64) * ((mL M1 l0 31) - (mL M4 l0 31)))), none, none, none] [vI r6, vL r3.toInt64] M5
  refine RN_k (callX_det _) 7 _ _ _ _ (show ((lg_cmp ((2 : Int64) * ((mL M1 l0 31) - (mL M4 l0 31))) (0 : Int64)) ≠ 0 → R249 sl sx d M0 P 90 [some (vR (some l0)), some (vI l1), some (vI l2), some (vI l3), some (vI l4), some (vI l5), some (vI l6), some (vI l7), some (vI l8), some (vL (mL M1 l0 31)), none, some (vL r3.toInt64), none, some (vL (mL M2 l0 33)), none, some (vL ((2 : Int64) * ((mL M1 l0 31) - (mL M4 l0 31)))), none, some (vL (r3.toInt64 - r6.toInt64)), none] [] M5) ∧ (¬ ((lg_cmp ((2 : Int64) * ((mL M1 l0 31) - (mL M4 l0 31))) (0 : Int64)) ≠ 0) → R249 sl sx d M0 P 89 [some (vR (some l0)), some (vI l1), some (vI l2), some (vI l3), some (vI l4), some (vI l5), some (vI l6), some (vI l7), some (vI l8), some (vL (mL M1 l0 31)), none, some (vL r3.toInt64), none, some (vL (mL M2 l0 33)), none, some (vL ((2 : Int64) * ((mL M1 l0 31) - (mL M4 l0 31)))), none, some (vL (r3.toInt64 - r6.toInt64)), none] [] M5) from ⟨fun hc => ?_, fun hc => ?_⟩)
  · replace h := h.1 hc
    refine RN_k (callX_det _) 4 _ _ _ _ (show (0 ≤ (lg_cmp ((2 : Int64) * ((mL M1 l0 31) - (mL M4 l0 31))) (0 : Int64)) → R249 sl sx d M0 P 107 [some (vR (some l0)), some (vI l1), some (vI l2), some (vI l3), some (vI l4), some (vI l5), some (vI l6), some (vI l7), some (vI l8), some (vL (mL M1 l0 31)), none, some (vL r3.toInt64), none, some (vL (mL M2 l0 33)), none, some (vL ((2 : Int64) * ((mL M1 l0 31) - (mL M4 l0 31)))), none, some (vL (r3.toInt64 - r6.toInt64)), none] [] M5) ∧ (¬ (0 ≤ (lg_cmp ((2 : Int64) * ((mL M1 l0 31) - (mL M4 l0 31))) (0 : Int64))) → R249 sl sx d M0 P 97 [some (vR (some l0)), some (vI l1), some (vI l2), some (vI l3), some (vI l4), some (vI l5), some (vI l6), some (vI l7), some (vI l8), some (vL (mL M1 l0 31)), none, some (vL r3.toInt64), none, some (vL (mL M2 l0 33)), none, some (vL ((2 : Int64) * ((mL M1 l0 31) - (mL M4 l0 31)))), none, some (vL (r3.toInt64 - r6.toInt64)), none] [] M5) from ⟨fun hc => ?_, fun hc => ?_⟩)
    · replace h := h.1 hc
      exact RN_weak (K := [some (vR (some l0)), none, none, none, none, none, none, none, none, some (vL (mL M1 l0 31)), none, some (vL r3.toInt64), none, some (vL (mL M2 l0 33)), none, some (vL ((2 : Int64) * ((mL M1 l0 31) - (mL M4 l0 31)))), none, some (vL (r3.toInt64 - r6.toInt64)), none]) (callX_det _) (show _ ∧ _ ∧ _ ∧ _ ∧ _ ∧ _ ∧ True from ⟨rfl, rfl, rfl, rfl, rfl, rfl, trivial⟩) (t249_107  l0 (mL M1 l0 31) r3.toInt64 (mL M2 l0 33) ((2 : Int64) * ((mL M1 l0 31) - (mL M4 l0 31))) (r3.toInt64 - r6.toInt64) _ hM h)
    · replace h := h.2 hc
      refine RN_k (callX_det _) 6 _ _ _ _ (show R249 sl sx d M0 P 107 [some (vR (some l0)), some (vI l1), some (vI l2), some (vI l3), some (vI l4), some (vI l5), some (vI l6), some (vI l7), some (vI l8), some (vL (mL M1 l0 31)), none, some (vL r3.toInt64), none, some (vL (mL M2 l0 33)), none, some (vL (-((2 : Int64) * ((mL M1 l0 31) - (mL M4 l0 31))))), none, some (vL (-(r3.toInt64 - r6.toInt64))), none] [] M5 from ?_)
      exact RN_weak (K := [some (vR (some l0)), none, none, none, none, none, none, none, none, some (vL (mL M1 l0 31)), none, some (vL r3.toInt64), none, some (vL (mL M2 l0 33)), none, some (vL (-((2 : Int64) * ((mL M1 l0 31) - (mL M4 l0 31))))), none, some (vL (-(r3.toInt64 - r6.toInt64))), none]) (callX_det _) (show _ ∧ _ ∧ _ ∧ _ ∧ _ ∧ _ ∧ True from ⟨rfl, rfl, rfl, rfl, rfl, rfl, trivial⟩) (t249_107  l0 (mL M1 l0 31) r3.toInt64 (mL M2 l0 33) (-((2 : Int64) * ((mL M1 l0 31) - (mL M4 l0 31)))) (-(r3.toInt64 - r6.toInt64)) _ hM h)
  · replace h := h.2 hc
    exact RN_k (callX_det _) 1 _ _ _ _ (show rtW q249 M0 (PV P) none M5 from ⟨rfl, hM.1, hM.2, rfl, h⟩)
theorem c249 {sl : Nat} {sx : Nat → Int32} {d : Nat} {l0 : Nat} {l1 : Int32} {l2 : Int32} {l3 : Int32} {l4 : Int32} {l5 : Int32} {l6 : Int32} {l7 : Int32} {l8 : Int32} {M : MM} {P : MM → Prop} (h : w249 l0 l1 l2 l3 l4 l5 l6 l7 l8 M P) : callX TBg sl sx (d + 102) 249 [vR (some l0), vI l1, vI l2, vI l3, vI l4, vI l5, vI l6, vI l7, vI l8] M (PV P) :=
  cX (d := d + 101) q249 (false, tb249) rfl rfl rfl (t249_E l0 l1 l2 l3 l4 l5 l6 l7 l8 M lenR h)
-- TwoLeashModel.putsOf([I[II[I[II)V
abbrev q248 : MQ7 := (7, 1, 10, 10, 0, 0, 0)
abbrev R248 (sl : Nat) (sx : Nat → Int32) (d : Nat) (M0 : MM) (P : MM → Prop) : Nat → LL → List VV → MM → Prop := RN 10 false (mS M0).length (mT M0) 0 0 sl sx (callX TBg sl sx (d + 102)) (rtW q248 M0 (PV P)) (as2 tb248)
def w248_75 (k3 : Nat → Option Nat → Option Nat → Int32 → Option Nat → Option Nat → Int32 → Int32 → MM → Prop) (k15 : Nat → Option Nat → Option Nat → Int32 → Option Nat → Option Nat → Int32 → Int32 → Int32 → MM → Prop) : Nat → Nat → Option Nat → Option Nat → Int32 → Option Nat → Option Nat → Int32 → Int32 → Int32 → Int32 → MM → (MM → Prop) → Prop
  | 0 => fun _ _ _ _ _ _ _ _ _ _ _ _ => False
  | n + 1 => fun l0 l1 l2 l3 l4 l5 l6 l7 l8 l9 M P => (l3 ≤ l9 → (k15 l0 l1 l2 l3 l4 l5 l6 l7 (l8 + (1 : Int32)) M)) ∧ (¬ (l3 ≤ l9) → (∃ a1, l1 = some a1 ∧ (inb M a1 11 l8 ∧ (∃ a2, l2 = some a2 ∧ (inb M a2 11 l8 ∧ (inb M a1 11 l9 ∧ (inb M a2 11 l9 ∧ (∃ a3, l4 = some a3 ∧ (inb M a3 11 l7 ∧ (∃ a4, l5 = some a4 ∧ (inb M a4 11 l7 ∧ (inb M a3 11 (l7 + (1 : Int32)) ∧ (inb M a4 11 (l7 + (1 : Int32)) ∧ (kd M l0 10 ∧ w249 l0 (mI M a1 l8.toNatClampNeg) (mI M a2 l8.toNatClampNeg) (mI M a1 l9.toNatClampNeg) (mI M a2 l9.toNatClampNeg) (mI M a3 l7.toNatClampNeg) (mI M a4 l7.toNatClampNeg) (mI M a3 (l7 + (1 : Int32)).toNatClampNeg) (mI M a4 (l7 + (1 : Int32)).toNatClampNeg) M (fun M5 => w248_75 k3 k15 n l0 (some a1) (some a2) l3 (some a3) (some a4) l6 l7 l8 (l9 + (1 : Int32)) M5 P)))))))))))))))
theorem t248_75 {sl : Nat} {sx : Nat → Int32} {d : Nat} {M0 : MM} {P : MM → Prop} {k3 : Nat → Option Nat → Option Nat → Int32 → Option Nat → Option Nat → Int32 → Int32 → MM → Prop} {k15 : Nat → Option Nat → Option Nat → Int32 → Option Nat → Option Nat → Int32 → Int32 → Int32 → MM → Prop} (hk3 : ∀ (l0 : Nat) (l1 : Option Nat) (l2 : Option Nat) (l3 : Int32) (l4 : Option Nat) (l5 : Option Nat) (l6 : Int32) (l7 : Int32) (M : MM), lenO M0 M → k3 l0 l1 l2 l3 l4 l5 l6 l7 M → R248 sl sx d M0 P 3 [some (vR (some l0)), some (vR l1), some (vR l2), some (vI l3), some (vR l4), some (vR l5), some (vI l6), some (vI l7), none, none] [] M) (hk15 : ∀ (l0 : Nat) (l1 : Option Nat) (l2 : Option Nat) (l3 : Int32) (l4 : Option Nat) (l5 : Option Nat) (l6 : Int32) (l7 : Int32) (l8 : Int32) (M : MM), lenO M0 M → k15 l0 l1 l2 l3 l4 l5 l6 l7 l8 M → R248 sl sx d M0 P 15 [some (vR (some l0)), some (vR l1), some (vR l2), some (vI l3), some (vR l4), some (vR l5), some (vI l6), some (vI l7), some (vI l8), none] [] M) (n : Nat) : ∀ (l0 : Nat) (l1 : Option Nat) (l2 : Option Nat) (l3 : Int32) (l4 : Option Nat) (l5 : Option Nat) (l6 : Int32) (l7 : Int32) (l8 : Int32) (l9 : Int32) (M : MM) (_ : lenO M0 M) (_ : w248_75 k3 k15 n l0 l1 l2 l3 l4 l5 l6 l7 l8 l9 M P), R248 sl sx d M0 P 75 [some (vR (some l0)), some (vR l1), some (vR l2), some (vI l3), some (vR l4), some (vR l5), some (vI l6), some (vI l7), some (vI l8), some (vI l9)] [] M := by
  induction n with
  | zero => intro l0 l1 l2 l3 l4 l5 l6 l7 l8 l9 M hM h; cases h
  | succ n ih =>
    intro l0 l1 l2 l3 l4 l5 l6 l7 l8 l9 M hM h
    refine RN_k (callX_det _) 3 _ _ _ _ (show (l3 ≤ l9 → R248 sl sx d M0 P 131 [some (vR (some l0)), some (vR l1), some (vR l2), some (vI l3), some (vR l4), some (vR l5), some (vI l6), some (vI l7), some (vI l8), some (vI l9)] [] M) ∧ (¬ (l3 ≤ l9) → R248 sl sx d M0 P 81 [some (vR (some l0)), some (vR l1), some (vR l2), some (vI l3), some (vR l4), some (vR l5), some (vI l6), some (vI l7), some (vI l8), some (vI l9)] [] M) from ⟨fun hc => ?_, fun hc => ?_⟩)
    · replace h := h.1 hc
      refine RN_k (callX_det _) 2 _ _ _ _ (show R248 sl sx d M0 P 15 [some (vR (some l0)), some (vR l1), some (vR l2), some (vI l3), some (vR l4), some (vR l5), some (vI l6), some (vI l7), some (vI (l8 + (1 : Int32))), some (vI l9)] [] M from ?_)
      exact RN_weak (K := [some (vR (some l0)), some (vR l1), some (vR l2), some (vI l3), some (vR l4), some (vR l5), some (vI l6), some (vI l7), some (vI (l8 + (1 : Int32))), none]) (callX_det _) (show _ ∧ _ ∧ _ ∧ _ ∧ _ ∧ _ ∧ _ ∧ _ ∧ _ ∧ True from ⟨rfl, rfl, rfl, rfl, rfl, rfl, rfl, rfl, rfl, trivial⟩) (hk15 l0 l1 l2 l3 l4 l5 l6 l7 (l8 + (1 : Int32)) _ hM h)
    · replace h := h.2 hc
      obtain ⟨a1, he, h⟩ := h
      refine RN_k (callX_det _) 3 _ _ _ _ (show R248 sl sx d M0 P 85 [some (vR (some l0)), some (vR l1), some (vR l2), some (vI l3), some (vR l4), some (vR l5), some (vI l6), some (vI l7), some (vI l8), some (vI l9)] [vI l8, vR l1, vR (some l0)] M from ?_)
      subst he
      refine RN_k (callX_det _) 1 _ _ _ _ (show inb M a1 11 l8 ∧ R248 sl sx d M0 P 86 [some (vR (some l0)), some (vR (some a1)), some (vR l2), some (vI l3), some (vR l4), some (vR l5), some (vI l6), some (vI l7), some (vI l8), some (vI l9)] [vI (mI M a1 l8.toNatClampNeg), vR (some l0)] M from ⟨h.1, ?_⟩)
      replace h := h.2
      obtain ⟨a2, he, h⟩ := h
      refine RN_k (callX_det _) 2 _ _ _ _ (show R248 sl sx d M0 P 89 [some (vR (some l0)), some (vR (some a1)), some (vR l2), some (vI l3), some (vR l4), some (vR l5), some (vI l6), some (vI l7), some (vI l8), some (vI l9)] [vI l8, vR l2, vI (mI M a1 l8.toNatClampNeg), vR (some l0)] M from ?_)
      subst he
      refine RN_k (callX_det _) 1 _ _ _ _ (show inb M a2 11 l8 ∧ R248 sl sx d M0 P 90 [some (vR (some l0)), some (vR (some a1)), some (vR (some a2)), some (vI l3), some (vR l4), some (vR l5), some (vI l6), some (vI l7), some (vI l8), some (vI l9)] [vI (mI M a2 l8.toNatClampNeg), vI (mI M a1 l8.toNatClampNeg), vR (some l0)] M from ⟨h.1, ?_⟩)
      replace h := h.2
      refine RN_k (callX_det _) 3 _ _ _ _ (show inb M a1 11 l9 ∧ R248 sl sx d M0 P 94 [some (vR (some l0)), some (vR (some a1)), some (vR (some a2)), some (vI l3), some (vR l4), some (vR l5), some (vI l6), some (vI l7), some (vI l8), some (vI l9)] [vI (mI M a1 l9.toNatClampNeg), vI (mI M a2 l8.toNatClampNeg), vI (mI M a1 l8.toNatClampNeg), vR (some l0)] M from ⟨h.1, ?_⟩)
      replace h := h.2
      refine RN_k (callX_det _) 3 _ _ _ _ (show inb M a2 11 l9 ∧ R248 sl sx d M0 P 98 [some (vR (some l0)), some (vR (some a1)), some (vR (some a2)), some (vI l3), some (vR l4), some (vR l5), some (vI l6), some (vI l7), some (vI l8), some (vI l9)] [vI (mI M a2 l9.toNatClampNeg), vI (mI M a1 l9.toNatClampNeg), vI (mI M a2 l8.toNatClampNeg), vI (mI M a1 l8.toNatClampNeg), vR (some l0)] M from ⟨h.1, ?_⟩)
      replace h := h.2
      obtain ⟨a3, he, h⟩ := h
      refine RN_k (callX_det _) 2 _ _ _ _ (show R248 sl sx d M0 P 102 [some (vR (some l0)), some (vR (some a1)), some (vR (some a2)), some (vI l3), some (vR l4), some (vR l5), some (vI l6), some (vI l7), some (vI l8), some (vI l9)] [vI l7, vR l4, vI (mI M a2 l9.toNatClampNeg), vI (mI M a1 l9.toNatClampNeg), vI (mI M a2 l8.toNatClampNeg), vI (mI M a1 l8.toNatClampNeg), vR (some l0)] M from ?_)
      subst he
      refine RN_k (callX_det _) 1 _ _ _ _ (show inb M a3 11 l7 ∧ R248 sl sx d M0 P 103 [some (vR (some l0)), some (vR (some a1)), some (vR (some a2)), some (vI l3), some (vR (some a3)), some (vR l5), some (vI l6), some (vI l7), some (vI l8), some (vI l9)] [vI (mI M a3 l7.toNatClampNeg), vI (mI M a2 l9.toNatClampNeg), vI (mI M a1 l9.toNatClampNeg), vI (mI M a2 l8.toNatClampNeg), vI (mI M a1 l8.toNatClampNeg), vR (some l0)] M from ⟨h.1, ?_⟩)
      replace h := h.2
      obtain ⟨a4, he, h⟩ := h
      refine RN_k (callX_det _) 2 _ _ _ _ (show R248 sl sx d M0 P 107 [some (vR (some l0)), some (vR (some a1)), some (vR (some a2)), some (vI l3), some (vR (some a3)), some (vR l5), some (vI l6), some (vI l7), some (vI l8), some (vI l9)] [vI l7, vR l5, vI (mI M a3 l7.toNatClampNeg), vI (mI M a2 l9.toNatClampNeg), vI (mI M a1 l9.toNatClampNeg), vI (mI M a2 l8.toNatClampNeg), vI (mI M a1 l8.toNatClampNeg), vR (some l0)] M from ?_)
      subst he
      refine RN_k (callX_det _) 1 _ _ _ _ (show inb M a4 11 l7 ∧ R248 sl sx d M0 P 108 [some (vR (some l0)), some (vR (some a1)), some (vR (some a2)), some (vI l3), some (vR (some a3)), some (vR (some a4)), some (vI l6), some (vI l7), some (vI l8), some (vI l9)] [vI (mI M a4 l7.toNatClampNeg), vI (mI M a3 l7.toNatClampNeg), vI (mI M a2 l9.toNatClampNeg), vI (mI M a1 l9.toNatClampNeg), vI (mI M a2 l8.toNatClampNeg), vI (mI M a1 l8.toNatClampNeg), vR (some l0)] M from ⟨h.1, ?_⟩)
      replace h := h.2
      refine RN_k (callX_det _) 5 _ _ _ _ (show inb M a3 11 (l7 + (1 : Int32)) ∧ R248 sl sx d M0 P 115 [some (vR (some l0)), some (vR (some a1)), some (vR (some a2)), some (vI l3), some (vR (some a3)), some (vR (some a4)), some (vI l6), some (vI l7), some (vI l8), some (vI l9)] [vI (mI M a3 (l7 + (1 : Int32)).toNatClampNeg), vI (mI M a4 l7.toNatClampNeg), vI (mI M a3 l7.toNatClampNeg), vI (mI M a2 l9.toNatClampNeg), vI (mI M a1 l9.toNatClampNeg), vI (mI M a2 l8.toNatClampNeg), vI (mI M a1 l8.toNatClampNeg), vR (some l0)] M from ⟨h.1, ?_⟩)
      replace h := h.2
      refine RN_k (callX_det _) 5 _ _ _ _ (show inb M a4 11 (l7 + (1 : Int32)) ∧ R248 sl sx d M0 P 122 [some (vR (some l0)), some (vR (some a1)), some (vR (some a2)), some (vI l3), some (vR (some a3)), some (vR (some a4)), some (vI l6), some (vI l7), some (vI l8), some (vI l9)] [vI (mI M a4 (l7 + (1 : Int32)).toNatClampNeg), vI (mI M a3 (l7 + (1 : Int32)).toNatClampNeg), vI (mI M a4 l7.toNatClampNeg), vI (mI M a3 l7.toNatClampNeg), vI (mI M a2 l9.toNatClampNeg), vI (mI M a1 l9.toNatClampNeg), vI (mI M a2 l8.toNatClampNeg), vI (mI M a1 l8.toNatClampNeg), vR (some l0)] M from ⟨h.1, ?_⟩)
      replace h := h.2
      refine RN_k (callX_det _) 1 _ _ _ _ (show kd M l0 10 ∧ callX TBg sl sx (d + 102) 249 [vR (some l0), vI (mI M a1 l8.toNatClampNeg), vI (mI M a2 l8.toNatClampNeg), vI (mI M a1 l9.toNatClampNeg), vI (mI M a2 l9.toNatClampNeg), vI (mI M a3 l7.toNatClampNeg), vI (mI M a4 l7.toNatClampNeg), vI (mI M a3 (l7 + (1 : Int32)).toNatClampNeg), vI (mI M a4 (l7 + (1 : Int32)).toNatClampNeg)] M (fun v M9 => R248 sl sx d M0 P 125 [some (vR (some l0)), some (vR (some a1)), some (vR (some a2)), some (vI l3), some (vR (some a3)), some (vR (some a4)), some (vI l6), some (vI l7), some (vI l8), some (vI l9)] (pushO v []) M9) from ⟨h.1, ?_⟩)
      replace h := h.2
      refine callX_mono (callX_len (d := (d + 102)) rfl rfl rfl (c249 (d := d) h)) ?_
      clear h
      rintro v9 M5 ⟨hl, rfl, h⟩
      replace hM := lenT hM hl
      show R248 sl sx d M0 P 125 [some (vR (some l0)), some (vR (some a1)), some (vR (some a2)), some (vI l3), some (vR (some a3)), some (vR (some a4)), some (vI l6), some (vI l7), some (vI l8), some (vI l9)] [] M5
      refine RN_k (callX_det _) 2 _ _ _ _ (show R248 sl sx d M0 P 75 [some (vR (some l0)), some (vR (some a1)), some (vR (some a2)), some (vI l3), some (vR (some a3)), some (vR (some a4)), some (vI l6), some (vI l7), some (vI l8), some (vI (l9 + (1 : Int32)))] [] M5 from ?_)
      exact RN_weak (K := [some (vR (some l0)), some (vR (some a1)), some (vR (some a2)), some (vI l3), some (vR (some a3)), some (vR (some a4)), some (vI l6), some (vI l7), some (vI l8), some (vI (l9 + (1 : Int32)))]) (callX_det _) (show _ ∧ _ ∧ _ ∧ _ ∧ _ ∧ _ ∧ _ ∧ _ ∧ _ ∧ _ ∧ True from ⟨rfl, rfl, rfl, rfl, rfl, rfl, rfl, rfl, rfl, rfl, trivial⟩) (ih l0 (some a1) (some a2) l3 (some a3) (some a4) l6 l7 l8 (l9 + (1 : Int32)) _ hM h)
def w248_15 (k3 : Nat → Option Nat → Option Nat → Int32 → Option Nat → Option Nat → Int32 → Int32 → MM → Prop) : Nat → Nat → Option Nat → Option Nat → Int32 → Option Nat → Option Nat → Int32 → Int32 → Int32 → MM → (MM → Prop) → Prop
  | 0 => fun _ _ _ _ _ _ _ _ _ _ _ => False
  | n + 1 => fun l0 l1 l2 l3 l4 l5 l6 l7 l8 M P => (l3 ≤ l8 → (k3 l0 l1 l2 l3 l4 l5 l6 (l7 + (1 : Int32)) M)) ∧ (¬ (l3 ≤ l8) → (∃ a1, l1 = some a1 ∧ (inb M a1 11 l8 ∧ (∃ a2, l2 = some a2 ∧ (inb M a2 11 l8 ∧ (∃ a3, l4 = some a3 ∧ (inb M a3 11 l7 ∧ (∃ a4, l5 = some a4 ∧ (inb M a4 11 l7 ∧ (inb M a3 11 (l7 + (1 : Int32)) ∧ (inb M a4 11 (l7 + (1 : Int32)) ∧ (kd M l0 10 ∧ w192 l0 (mI M a1 l8.toNatClampNeg) (mI M a2 l8.toNatClampNeg) (mI M a3 l7.toNatClampNeg) (mI M a4 l7.toNatClampNeg) (mI M a3 (l7 + (1 : Int32)).toNatClampNeg) (mI M a4 (l7 + (1 : Int32)).toNatClampNeg) M (fun M5 => kd M5 l0 10 ∧ (kd M5 l0 10 ∧ (kd M5 l0 10 ∧ w247 l0 (mL M5 l0 50) (mL M5 l0 51) M5 (fun M6 => ∃ n2, w248_75 k3 (fun z0 z1 z2 z3 z4 z5 z6 z7 z8 z9 => w248_15 k3 n z0 z1 z2 z3 z4 z5 z6 z7 z8 z9 P) n2 l0 (some a1) (some a2) l3 (some a3) (some a4) l6 l7 l8 (l8 + (1 : Int32)) M6 P))))))))))))))))
theorem t248_15 {sl : Nat} {sx : Nat → Int32} {d : Nat} {M0 : MM} {P : MM → Prop} {k3 : Nat → Option Nat → Option Nat → Int32 → Option Nat → Option Nat → Int32 → Int32 → MM → Prop} (hk3 : ∀ (l0 : Nat) (l1 : Option Nat) (l2 : Option Nat) (l3 : Int32) (l4 : Option Nat) (l5 : Option Nat) (l6 : Int32) (l7 : Int32) (M : MM), lenO M0 M → k3 l0 l1 l2 l3 l4 l5 l6 l7 M → R248 sl sx d M0 P 3 [some (vR (some l0)), some (vR l1), some (vR l2), some (vI l3), some (vR l4), some (vR l5), some (vI l6), some (vI l7), none, none] [] M) (n : Nat) : ∀ (l0 : Nat) (l1 : Option Nat) (l2 : Option Nat) (l3 : Int32) (l4 : Option Nat) (l5 : Option Nat) (l6 : Int32) (l7 : Int32) (l8 : Int32) (M : MM) (_ : lenO M0 M) (_ : w248_15 k3 n l0 l1 l2 l3 l4 l5 l6 l7 l8 M P), R248 sl sx d M0 P 15 [some (vR (some l0)), some (vR l1), some (vR l2), some (vI l3), some (vR l4), some (vR l5), some (vI l6), some (vI l7), some (vI l8), none] [] M := by
  induction n with
  | zero => intro l0 l1 l2 l3 l4 l5 l6 l7 l8 M hM h; cases h
  | succ n ih =>
    intro l0 l1 l2 l3 l4 l5 l6 l7 l8 M hM h
    refine RN_k (callX_det _) 3 _ _ _ _ (show (l3 ≤ l8 → R248 sl sx d M0 P 137 [some (vR (some l0)), some (vR l1), some (vR l2), some (vI l3), some (vR l4), some (vR l5), some (vI l6), some (vI l7), some (vI l8), none] [] M) ∧ (¬ (l3 ≤ l8) → R248 sl sx d M0 P 21 [some (vR (some l0)), some (vR l1), some (vR l2), some (vI l3), some (vR l4), some (vR l5), some (vI l6), some (vI l7), some (vI l8), none] [] M) from ⟨fun hc => ?_, fun hc => ?_⟩)
    · replace h := h.1 hc
      refine RN_k (callX_det _) 2 _ _ _ _ (show R248 sl sx d M0 P 3 [some (vR (some l0)), some (vR l1), some (vR l2), some (vI l3), some (vR l4), some (vR l5), some (vI l6), some (vI (l7 + (1 : Int32))), some (vI l8), none] [] M from ?_)
      exact RN_weak (K := [some (vR (some l0)), some (vR l1), some (vR l2), some (vI l3), some (vR l4), some (vR l5), some (vI l6), some (vI (l7 + (1 : Int32))), none, none]) (callX_det _) (show _ ∧ _ ∧ _ ∧ _ ∧ _ ∧ _ ∧ _ ∧ _ ∧ True from ⟨rfl, rfl, rfl, rfl, rfl, rfl, rfl, rfl, trivial⟩) (hk3 l0 l1 l2 l3 l4 l5 l6 (l7 + (1 : Int32)) _ hM h)
    · replace h := h.2 hc
      obtain ⟨a1, he, h⟩ := h
      refine RN_k (callX_det _) 3 _ _ _ _ (show R248 sl sx d M0 P 25 [some (vR (some l0)), some (vR l1), some (vR l2), some (vI l3), some (vR l4), some (vR l5), some (vI l6), some (vI l7), some (vI l8), none] [vI l8, vR l1, vR (some l0)] M from ?_)
      subst he
      refine RN_k (callX_det _) 1 _ _ _ _ (show inb M a1 11 l8 ∧ R248 sl sx d M0 P 26 [some (vR (some l0)), some (vR (some a1)), some (vR l2), some (vI l3), some (vR l4), some (vR l5), some (vI l6), some (vI l7), some (vI l8), none] [vI (mI M a1 l8.toNatClampNeg), vR (some l0)] M from ⟨h.1, ?_⟩)
      replace h := h.2
      obtain ⟨a2, he, h⟩ := h
      refine RN_k (callX_det _) 2 _ _ _ _ (show R248 sl sx d M0 P 29 [some (vR (some l0)), some (vR (some a1)), some (vR l2), some (vI l3), some (vR l4), some (vR l5), some (vI l6), some (vI l7), some (vI l8), none] [vI l8, vR l2, vI (mI M a1 l8.toNatClampNeg), vR (some l0)] M from ?_)
      subst he
      refine RN_k (callX_det _) 1 _ _ _ _ (show inb M a2 11 l8 ∧ R248 sl sx d M0 P 30 [some (vR (some l0)), some (vR (some a1)), some (vR (some a2)), some (vI l3), some (vR l4), some (vR l5), some (vI l6), some (vI l7), some (vI l8), none] [vI (mI M a2 l8.toNatClampNeg), vI (mI M a1 l8.toNatClampNeg), vR (some l0)] M from ⟨h.1, ?_⟩)
      replace h := h.2
      obtain ⟨a3, he, h⟩ := h
      refine RN_k (callX_det _) 2 _ _ _ _ (show R248 sl sx d M0 P 34 [some (vR (some l0)), some (vR (some a1)), some (vR (some a2)), some (vI l3), some (vR l4), some (vR l5), some (vI l6), some (vI l7), some (vI l8), none] [vI l7, vR l4, vI (mI M a2 l8.toNatClampNeg), vI (mI M a1 l8.toNatClampNeg), vR (some l0)] M from ?_)
      subst he
      refine RN_k (callX_det _) 1 _ _ _ _ (show inb M a3 11 l7 ∧ R248 sl sx d M0 P 35 [some (vR (some l0)), some (vR (some a1)), some (vR (some a2)), some (vI l3), some (vR (some a3)), some (vR l5), some (vI l6), some (vI l7), some (vI l8), none] [vI (mI M a3 l7.toNatClampNeg), vI (mI M a2 l8.toNatClampNeg), vI (mI M a1 l8.toNatClampNeg), vR (some l0)] M from ⟨h.1, ?_⟩)
      replace h := h.2
      obtain ⟨a4, he, h⟩ := h
      refine RN_k (callX_det _) 2 _ _ _ _ (show R248 sl sx d M0 P 39 [some (vR (some l0)), some (vR (some a1)), some (vR (some a2)), some (vI l3), some (vR (some a3)), some (vR l5), some (vI l6), some (vI l7), some (vI l8), none] [vI l7, vR l5, vI (mI M a3 l7.toNatClampNeg), vI (mI M a2 l8.toNatClampNeg), vI (mI M a1 l8.toNatClampNeg), vR (some l0)] M from ?_)
      subst he
      refine RN_k (callX_det _) 1 _ _ _ _ (show inb M a4 11 l7 ∧ R248 sl sx d M0 P 40 [some (vR (some l0)), some (vR (some a1)), some (vR (some a2)), some (vI l3), some (vR (some a3)), some (vR (some a4)), some (vI l6), some (vI l7), some (vI l8), none] [vI (mI M a4 l7.toNatClampNeg), vI (mI M a3 l7.toNatClampNeg), vI (mI M a2 l8.toNatClampNeg), vI (mI M a1 l8.toNatClampNeg), vR (some l0)] M from ⟨h.1, ?_⟩)
      replace h := h.2
      refine RN_k (callX_det _) 5 _ _ _ _ (show inb M a3 11 (l7 + (1 : Int32)) ∧ R248 sl sx d M0 P 47 [some (vR (some l0)), some (vR (some a1)), some (vR (some a2)), some (vI l3), some (vR (some a3)), some (vR (some a4)), some (vI l6), some (vI l7), some (vI l8), none] [vI (mI M a3 (l7 + (1 : Int32)).toNatClampNeg), vI (mI M a4 l7.toNatClampNeg), vI (mI M a3 l7.toNatClampNeg), vI (mI M a2 l8.toNatClampNeg), vI (mI M a1 l8.toNatClampNeg), vR (some l0)] M from ⟨h.1, ?_⟩)
      replace h := h.2
      refine RN_k (callX_det _) 5 _ _ _ _ (show inb M a4 11 (l7 + (1 : Int32)) ∧ R248 sl sx d M0 P 54 [some (vR (some l0)), some (vR (some a1)), some (vR (some a2)), some (vI l3), some (vR (some a3)), some (vR (some a4)), some (vI l6), some (vI l7), some (vI l8), none] [vI (mI M a4 (l7 + (1 : Int32)).toNatClampNeg), vI (mI M a3 (l7 + (1 : Int32)).toNatClampNeg), vI (mI M a4 l7.toNatClampNeg), vI (mI M a3 l7.toNatClampNeg), vI (mI M a2 l8.toNatClampNeg), vI (mI M a1 l8.toNatClampNeg), vR (some l0)] M from ⟨h.1, ?_⟩)
      replace h := h.2
      refine RN_k (callX_det _) 1 _ _ _ _ (show kd M l0 10 ∧ callX TBg sl sx (d + 102) 192 [vR (some l0), vI (mI M a1 l8.toNatClampNeg), vI (mI M a2 l8.toNatClampNeg), vI (mI M a3 l7.toNatClampNeg), vI (mI M a4 l7.toNatClampNeg), vI (mI M a3 (l7 + (1 : Int32)).toNatClampNeg), vI (mI M a4 (l7 + (1 : Int32)).toNatClampNeg)] M (fun v M9 => R248 sl sx d M0 P 57 [some (vR (some l0)), some (vR (some a1)), some (vR (some a2)), some (vI l3), some (vR (some a3)), some (vR (some a4)), some (vI l6), some (vI l7), some (vI l8), none] (pushO v []) M9) from ⟨h.1, ?_⟩)
      replace h := h.2
      refine callX_mono (callX_len (d := (d + 102)) rfl rfl rfl (c192 (d := d + 100) h)) ?_
      clear h
      rintro v9 M5 ⟨hl, rfl, h⟩
      replace hM := lenT hM hl
      show R248 sl sx d M0 P 57 [some (vR (some l0)), some (vR (some a1)), some (vR (some a2)), some (vI l3), some (vR (some a3)), some (vR (some a4)), some (vI l6), some (vI l7), some (vI l8), none] [] M5
      refine RN_k (callX_det _) 3 _ _ _ _ (show kd M5 l0 10 ∧ R248 sl sx d M0 P 62 [some (vR (some l0)), some (vR (some a1)), some (vR (some a2)), some (vI l3), some (vR (some a3)), some (vR (some a4)), some (vI l6), some (vI l7), some (vI l8), none] [vL (mL M5 l0 50), vR (some l0)] M5 from ⟨h.1, ?_⟩)
      replace h := h.2
      refine RN_k (callX_det _) 2 _ _ _ _ (show kd M5 l0 10 ∧ R248 sl sx d M0 P 66 [some (vR (some l0)), some (vR (some a1)), some (vR (some a2)), some (vI l3), some (vR (some a3)), some (vR (some a4)), some (vI l6), some (vI l7), some (vI l8), none] [vL (mL M5 l0 51), vL (mL M5 l0 50), vR (some l0)] M5 from ⟨h.1, ?_⟩)
      replace h := h.2
      refine RN_k (callX_det _) 1 _ _ _ _ (show kd M5 l0 10 ∧ callX TBg sl sx (d + 102) 247 [vR (some l0), vL (mL M5 l0 50), vL (mL M5 l0 51)] M5 (fun v M9 => R248 sl sx d M0 P 69 [some (vR (some l0)), some (vR (some a1)), some (vR (some a2)), some (vI l3), some (vR (some a3)), some (vR (some a4)), some (vI l6), some (vI l7), some (vI l8), none] (pushO v []) M9) from ⟨h.1, ?_⟩)
      replace h := h.2
      refine callX_mono (callX_len (d := (d + 102)) rfl rfl rfl (c247 (d := d + 1) h)) ?_
      clear h
      rintro v9 M6 ⟨hl, rfl, h⟩
      replace hM := lenT hM hl
      show R248 sl sx d M0 P 69 [some (vR (some l0)), some (vR (some a1)), some (vR (some a2)), some (vI l3), some (vR (some a3)), some (vR (some a4)), some (vI l6), some (vI l7), some (vI l8), none] [] M6
      refine RN_k (callX_det _) 4 _ _ _ _ (show R248 sl sx d M0 P 75 [some (vR (some l0)), some (vR (some a1)), some (vR (some a2)), some (vI l3), some (vR (some a3)), some (vR (some a4)), some (vI l6), some (vI l7), some (vI l8), some (vI (l8 + (1 : Int32)))] [] M6 from ?_)
      obtain ⟨n2, h⟩ := h
      exact RN_weak (K := [some (vR (some l0)), some (vR (some a1)), some (vR (some a2)), some (vI l3), some (vR (some a3)), some (vR (some a4)), some (vI l6), some (vI l7), some (vI l8), some (vI (l8 + (1 : Int32)))]) (callX_det _) (show _ ∧ _ ∧ _ ∧ _ ∧ _ ∧ _ ∧ _ ∧ _ ∧ _ ∧ _ ∧ True from ⟨rfl, rfl, rfl, rfl, rfl, rfl, rfl, rfl, rfl, rfl, trivial⟩) (t248_75 hk3 ih n2 l0 (some a1) (some a2) l3 (some a3) (some a4) l6 l7 l8 (l8 + (1 : Int32)) _ hM h)
def w248_3 : Nat → Nat → Option Nat → Option Nat → Int32 → Option Nat → Option Nat → Int32 → Int32 → MM → (MM → Prop) → Prop
  | 0 => fun _ _ _ _ _ _ _ _ _ _ => False
  | n + 1 => fun l0 l1 l2 l3 l4 l5 l6 l7 M P => (l6 ≤ (l7 + (1 : Int32)) → (P M)) ∧ (¬ (l6 ≤ (l7 + (1 : Int32))) → (∃ n2, w248_15 (fun z0 z1 z2 z3 z4 z5 z6 z7 z8 => w248_3  n z0 z1 z2 z3 z4 z5 z6 z7 z8 P) n2 l0 l1 l2 l3 l4 l5 l6 l7 (0 : Int32) M P))
theorem t248_3 {sl : Nat} {sx : Nat → Int32} {d : Nat} {M0 : MM} {P : MM → Prop} (n : Nat) : ∀ (l0 : Nat) (l1 : Option Nat) (l2 : Option Nat) (l3 : Int32) (l4 : Option Nat) (l5 : Option Nat) (l6 : Int32) (l7 : Int32) (M : MM) (_ : lenO M0 M) (_ : w248_3  n l0 l1 l2 l3 l4 l5 l6 l7 M P), R248 sl sx d M0 P 3 [some (vR (some l0)), some (vR l1), some (vR l2), some (vI l3), some (vR l4), some (vR l5), some (vI l6), some (vI l7), none, none] [] M := by
  induction n with
  | zero => intro l0 l1 l2 l3 l4 l5 l6 l7 M hM h; cases h
  | succ n ih =>
    intro l0 l1 l2 l3 l4 l5 l6 l7 M hM h
    refine RN_k (callX_det _) 5 _ _ _ _ (show (l6 ≤ (l7 + (1 : Int32)) → R248 sl sx d M0 P 143 [some (vR (some l0)), some (vR l1), some (vR l2), some (vI l3), some (vR l4), some (vR l5), some (vI l6), some (vI l7), none, none] [] M) ∧ (¬ (l6 ≤ (l7 + (1 : Int32))) → R248 sl sx d M0 P 12 [some (vR (some l0)), some (vR l1), some (vR l2), some (vI l3), some (vR l4), some (vR l5), some (vI l6), some (vI l7), none, none] [] M) from ⟨fun hc => ?_, fun hc => ?_⟩)
    · replace h := h.1 hc
      exact RN_k (callX_det _) 1 _ _ _ _ (show rtW q248 M0 (PV P) none M from ⟨rfl, hM.1, hM.2, rfl, h⟩)
    · replace h := h.2 hc
      refine RN_k (callX_det _) 2 _ _ _ _ (show R248 sl sx d M0 P 15 [some (vR (some l0)), some (vR l1), some (vR l2), some (vI l3), some (vR l4), some (vR l5), some (vI l6), some (vI l7), some (vI (0 : Int32)), none] [] M from ?_)
      obtain ⟨n2, h⟩ := h
      exact RN_weak (K := [some (vR (some l0)), some (vR l1), some (vR l2), some (vI l3), some (vR l4), some (vR l5), some (vI l6), some (vI l7), some (vI (0 : Int32)), none]) (callX_det _) (show _ ∧ _ ∧ _ ∧ _ ∧ _ ∧ _ ∧ _ ∧ _ ∧ _ ∧ True from ⟨rfl, rfl, rfl, rfl, rfl, rfl, rfl, rfl, rfl, trivial⟩) (t248_15 ih n2 l0 l1 l2 l3 l4 l5 l6 l7 (0 : Int32) _ hM h)
def w248 (l0 : Nat) (l1 : Option Nat) (l2 : Option Nat) (l3 : Int32) (l4 : Option Nat) (l5 : Option Nat) (l6 : Int32) (M : MM) (P : MM → Prop) : Prop := ∃ n2, w248_3  n2 l0 l1 l2 l3 l4 l5 l6 (0 : Int32) M P
theorem t248_E {sl : Nat} {sx : Nat → Int32} {d : Nat} {M0 : MM} {P : MM → Prop} (l0 : Nat) (l1 : Option Nat) (l2 : Option Nat) (l3 : Int32) (l4 : Option Nat) (l5 : Option Nat) (l6 : Int32) (M : MM) (hM : lenO M0 M) (h : w248  l0 l1 l2 l3 l4 l5 l6 M P) : R248 sl sx d M0 P 0 [some (vR (some l0)), some (vR l1), some (vR l2), some (vI l3), some (vR l4), some (vR l5), some (vI l6), none, none, none] [] M := by
  refine RN_k (callX_det _) 2 _ _ _ _ (show R248 sl sx d M0 P 3 [some (vR (some l0)), some (vR l1), some (vR l2), some (vI l3), some (vR l4), some (vR l5), some (vI l6), some (vI (0 : Int32)), none, none] [] M from ?_)
  obtain ⟨n2, h⟩ := h
  exact RN_weak (K := [some (vR (some l0)), some (vR l1), some (vR l2), some (vI l3), some (vR l4), some (vR l5), some (vI l6), some (vI (0 : Int32)), none, none]) (callX_det _) (show _ ∧ _ ∧ _ ∧ _ ∧ _ ∧ _ ∧ _ ∧ _ ∧ True from ⟨rfl, rfl, rfl, rfl, rfl, rfl, rfl, rfl, trivial⟩) (t248_3  n2 l0 l1 l2 l3 l4 l5 l6 (0 : Int32) _ hM h)
theorem c248 {sl : Nat} {sx : Nat → Int32} {d : Nat} {l0 : Nat} {l1 : Option Nat} {l2 : Option Nat} {l3 : Int32} {l4 : Option Nat} {l5 : Option Nat} {l6 : Int32} {M : MM} {P : MM → Prop} (h : w248 l0 l1 l2 l3 l4 l5 l6 M P) : callX TBg sl sx (d + 103) 248 [vR (some l0), vR l1, vR l2, vI l3, vR l4, vR l5, vI l6] M (PV P) :=
  cX (d := d + 102) q248 (false, tb248) rfl rfl rfl (t248_E l0 l1 l2 l3 l4 l5 l6 M lenR h)
-- TwoLeashModel.laysCrits()V
abbrev q246 : MQ7 := (1, 1, 1, 10, 0, 0, 0)
abbrev R246 (sl : Nat) (sx : Nat → Int32) (d : Nat) (M0 : MM) (P : MM → Prop) : Nat → LL → List VV → MM → Prop := RN 10 false (mS M0).length (mT M0) 0 0 sl sx (callX TBg sl sx (d + 103)) (rtW q246 M0 (PV P)) (as2 tb246)
def w246 (l0 : Nat) (M : MM) (P : MM → Prop) : Prop := kd M l0 10 ∧ (kd (sI M l0 49 (0 : Int32)) l0 10 ∧ w231 l0 (0 : Int32) (0 : Int32) (sI M l0 49 (0 : Int32)) (fun r2 M1 => kd M1 l0 10 ∧ w247 l0 r2.toInt64 (1 : Int64) M1 (fun M3 => kd M3 l0 10 ∧ (kd M3 l0 10 ∧ (kd M3 l0 10 ∧ w231 l0 ((mI M3 l0 27) - (1 : Int32)) ((mI M3 l0 28) - (1 : Int32)) M3 (fun r5 M4 => kd M4 l0 10 ∧ w247 l0 r5.toInt64 (1 : Int64) M4 (fun M6 => kd M6 l0 10 ∧ (kd M6 l0 10 ∧ (kd M6 l0 10 ∧ (kd M6 l0 10 ∧ (kd M6 l0 10 ∧ (kd M6 l0 10 ∧ (kd M6 l0 10 ∧ w248 l0 (mR M6 l0 23) (mR M6 l0 24) (mI M6 l0 27) (mR M6 l0 25) (mR M6 l0 26) (mI M6 l0 28) M6 (fun M7 => kd M7 l0 10 ∧ (kd M7 l0 10 ∧ (kd M7 l0 10 ∧ (kd M7 l0 10 ∧ (kd M7 l0 10 ∧ (kd M7 l0 10 ∧ (kd M7 l0 10 ∧ w248 l0 (mR M7 l0 25) (mR M7 l0 26) (mI M7 l0 28) (mR M7 l0 23) (mR M7 l0 24) (mI M7 l0 27) M7 (fun M8 => P M8)))))))))))))))))))))
theorem t246_E {sl : Nat} {sx : Nat → Int32} {d : Nat} {M0 : MM} {P : MM → Prop} (l0 : Nat) (M : MM) (hM : lenO M0 M) (h : w246  l0 M P) : R246 sl sx d M0 P 0 [some (vR (some l0))] [] M := by
  refine RN_k (callX_det _) 3 _ _ _ _ (show kd M l0 10 ∧ R246 sl sx d M0 P 5 [some (vR (some l0))] [] (sI M l0 49 (0 : Int32)) from ⟨h.1, ?_⟩)
  replace h := h.2
  refine RN_k (callX_det _) 5 _ _ _ _ (show kd (sI M l0 49 (0 : Int32)) l0 10 ∧ callX TBg sl sx (d + 103) 231 [vR (some l0), vI (0 : Int32), vI (0 : Int32)] (sI M l0 49 (0 : Int32)) (fun v M9 => R246 sl sx d M0 P 12 [some (vR (some l0))] (pushO v [vR (some l0)]) M9) from ⟨h.1, ?_⟩)
  replace h := h.2
  refine callX_mono (callX_len (d := (d + 103)) rfl rfl rfl (c231 (d := d + 101) h)) ?_
  clear h
  rintro v9 M1 ⟨hl, r2, rfl, h⟩
  replace hM := lenT hM hl
  show R246 sl sx d M0 P 12 [some (vR (some l0))] [vI r2, vR (some l0)] M1
  refine RN_k (callX_det _) 3 _ _ _ _ (show kd M1 l0 10 ∧ callX TBg sl sx (d + 103) 247 [vR (some l0), vL r2.toInt64, vL (1 : Int64)] M1 (fun v M9 => R246 sl sx d M0 P 17 [some (vR (some l0))] (pushO v []) M9) from ⟨h.1, ?_⟩)
  replace h := h.2
  refine callX_mono (callX_len (d := (d + 103)) rfl rfl rfl (c247 (d := d + 2) h)) ?_
  clear h
  rintro v9 M3 ⟨hl, rfl, h⟩
  replace hM := lenT hM hl
  show R246 sl sx d M0 P 17 [some (vR (some l0))] [] M3
  refine RN_k (callX_det _) 4 _ _ _ _ (show kd M3 l0 10 ∧ R246 sl sx d M0 P 23 [some (vR (some l0))] [vI (mI M3 l0 27), vR (some l0), vR (some l0)] M3 from ⟨h.1, ?_⟩)
  replace h := h.2
  refine RN_k (callX_det _) 4 _ _ _ _ (show kd M3 l0 10 ∧ R246 sl sx d M0 P 29 [some (vR (some l0))] [vI (mI M3 l0 28), vI ((mI M3 l0 27) - (1 : Int32)), vR (some l0), vR (some l0)] M3 from ⟨h.1, ?_⟩)
  replace h := h.2
  refine RN_k (callX_det _) 3 _ _ _ _ (show kd M3 l0 10 ∧ callX TBg sl sx (d + 103) 231 [vR (some l0), vI ((mI M3 l0 27) - (1 : Int32)), vI ((mI M3 l0 28) - (1 : Int32))] M3 (fun v M9 => R246 sl sx d M0 P 34 [some (vR (some l0))] (pushO v [vR (some l0)]) M9) from ⟨h.1, ?_⟩)
  replace h := h.2
  refine callX_mono (callX_len (d := (d + 103)) rfl rfl rfl (c231 (d := d + 101) h)) ?_
  clear h
  rintro v9 M4 ⟨hl, r5, rfl, h⟩
  replace hM := lenT hM hl
  show R246 sl sx d M0 P 34 [some (vR (some l0))] [vI r5, vR (some l0)] M4
  refine RN_k (callX_det _) 3 _ _ _ _ (show kd M4 l0 10 ∧ callX TBg sl sx (d + 103) 247 [vR (some l0), vL r5.toInt64, vL (1 : Int64)] M4 (fun v M9 => R246 sl sx d M0 P 39 [some (vR (some l0))] (pushO v []) M9) from ⟨h.1, ?_⟩)
  replace h := h.2
  refine callX_mono (callX_len (d := (d + 103)) rfl rfl rfl (c247 (d := d + 2) h)) ?_
  clear h
  rintro v9 M6 ⟨hl, rfl, h⟩
  replace hM := lenT hM hl
  show R246 sl sx d M0 P 39 [some (vR (some l0))] [] M6
  refine RN_k (callX_det _) 3 _ _ _ _ (show kd M6 l0 10 ∧ R246 sl sx d M0 P 44 [some (vR (some l0))] [vR (mR M6 l0 23), vR (some l0)] M6 from ⟨h.1, ?_⟩)
  replace h := h.2
  refine RN_k (callX_det _) 2 _ _ _ _ (show kd M6 l0 10 ∧ R246 sl sx d M0 P 48 [some (vR (some l0))] [vR (mR M6 l0 24), vR (mR M6 l0 23), vR (some l0)] M6 from ⟨h.1, ?_⟩)
  replace h := h.2
  refine RN_k (callX_det _) 2 _ _ _ _ (show kd M6 l0 10 ∧ R246 sl sx d M0 P 52 [some (vR (some l0))] [vI (mI M6 l0 27), vR (mR M6 l0 24), vR (mR M6 l0 23), vR (some l0)] M6 from ⟨h.1, ?_⟩)
  replace h := h.2
  refine RN_k (callX_det _) 2 _ _ _ _ (show kd M6 l0 10 ∧ R246 sl sx d M0 P 56 [some (vR (some l0))] [vR (mR M6 l0 25), vI (mI M6 l0 27), vR (mR M6 l0 24), vR (mR M6 l0 23), vR (some l0)] M6 from ⟨h.1, ?_⟩)
  replace h := h.2
  refine RN_k (callX_det _) 2 _ _ _ _ (show kd M6 l0 10 ∧ R246 sl sx d M0 P 60 [some (vR (some l0))] [vR (mR M6 l0 26), vR (mR M6 l0 25), vI (mI M6 l0 27), vR (mR M6 l0 24), vR (mR M6 l0 23), vR (some l0)] M6 from ⟨h.1, ?_⟩)
  replace h := h.2
  refine RN_k (callX_det _) 2 _ _ _ _ (show kd M6 l0 10 ∧ R246 sl sx d M0 P 64 [some (vR (some l0))] [vI (mI M6 l0 28), vR (mR M6 l0 26), vR (mR M6 l0 25), vI (mI M6 l0 27), vR (mR M6 l0 24), vR (mR M6 l0 23), vR (some l0)] M6 from ⟨h.1, ?_⟩)
  replace h := h.2
  refine RN_k (callX_det _) 1 _ _ _ _ (show kd M6 l0 10 ∧ callX TBg sl sx (d + 103) 248 [vR (some l0), vR (mR M6 l0 23), vR (mR M6 l0 24), vI (mI M6 l0 27), vR (mR M6 l0 25), vR (mR M6 l0 26), vI (mI M6 l0 28)] M6 (fun v M9 => R246 sl sx d M0 P 67 [some (vR (some l0))] (pushO v []) M9) from ⟨h.1, ?_⟩)
  replace h := h.2
  refine callX_mono (callX_len (d := (d + 103)) rfl rfl rfl (c248 (d := d) h)) ?_
  clear h
  rintro v9 M7 ⟨hl, rfl, h⟩
  replace hM := lenT hM hl
  show R246 sl sx d M0 P 67 [some (vR (some l0))] [] M7
  refine RN_k (callX_det _) 3 _ _ _ _ (show kd M7 l0 10 ∧ R246 sl sx d M0 P 72 [some (vR (some l0))] [vR (mR M7 l0 25), vR (some l0)] M7 from ⟨h.1, ?_⟩)
  replace h := h.2
  refine RN_k (callX_det _) 2 _ _ _ _ (show kd M7 l0 10 ∧ R246 sl sx d M0 P 76 [some (vR (some l0))] [vR (mR M7 l0 26), vR (mR M7 l0 25), vR (some l0)] M7 from ⟨h.1, ?_⟩)
  replace h := h.2
  refine RN_k (callX_det _) 2 _ _ _ _ (show kd M7 l0 10 ∧ R246 sl sx d M0 P 80 [some (vR (some l0))] [vI (mI M7 l0 28), vR (mR M7 l0 26), vR (mR M7 l0 25), vR (some l0)] M7 from ⟨h.1, ?_⟩)
  replace h := h.2
  refine RN_k (callX_det _) 2 _ _ _ _ (show kd M7 l0 10 ∧ R246 sl sx d M0 P 84 [some (vR (some l0))] [vR (mR M7 l0 23), vI (mI M7 l0 28), vR (mR M7 l0 26), vR (mR M7 l0 25), vR (some l0)] M7 from ⟨h.1, ?_⟩)
  replace h := h.2
  refine RN_k (callX_det _) 2 _ _ _ _ (show kd M7 l0 10 ∧ R246 sl sx d M0 P 88 [some (vR (some l0))] [vR (mR M7 l0 24), vR (mR M7 l0 23), vI (mI M7 l0 28), vR (mR M7 l0 26), vR (mR M7 l0 25), vR (some l0)] M7 from ⟨h.1, ?_⟩)
  replace h := h.2
  refine RN_k (callX_det _) 2 _ _ _ _ (show kd M7 l0 10 ∧ R246 sl sx d M0 P 92 [some (vR (some l0))] [vI (mI M7 l0 27), vR (mR M7 l0 24), vR (mR M7 l0 23), vI (mI M7 l0 28), vR (mR M7 l0 26), vR (mR M7 l0 25), vR (some l0)] M7 from ⟨h.1, ?_⟩)
  replace h := h.2
  refine RN_k (callX_det _) 1 _ _ _ _ (show kd M7 l0 10 ∧ callX TBg sl sx (d + 103) 248 [vR (some l0), vR (mR M7 l0 25), vR (mR M7 l0 26), vI (mI M7 l0 28), vR (mR M7 l0 23), vR (mR M7 l0 24), vI (mI M7 l0 27)] M7 (fun v M9 => R246 sl sx d M0 P 95 [some (vR (some l0))] (pushO v []) M9) from ⟨h.1, ?_⟩)
  replace h := h.2
  refine callX_mono (callX_len (d := (d + 103)) rfl rfl rfl (c248 (d := d) h)) ?_
  clear h
  rintro v9 M8 ⟨hl, rfl, h⟩
  replace hM := lenT hM hl
  show R246 sl sx d M0 P 95 [some (vR (some l0))] [] M8
  exact RN_k (callX_det _) 1 _ _ _ _ (show rtW q246 M0 (PV P) none M8 from ⟨rfl, hM.1, hM.2, rfl, h⟩)
theorem c246 {sl : Nat} {sx : Nat → Int32} {d : Nat} {l0 : Nat} {M : MM} {P : MM → Prop} (h : w246 l0 M P) : callX TBg sl sx (d + 104) 246 [vR (some l0)] M (PV P) :=
  cX (d := d + 103) q246 (false, tb246) rfl rfl rfl (t246_E l0 M lenR h)
-- TwoLeashModel.laysShortest(I)V
abbrev q245 : MQ7 := (2, 1, 5, 10, 0, 0, 0)
abbrev R245 (sl : Nat) (sx : Nat → Int32) (d : Nat) (M0 : MM) (P : MM → Prop) : Nat → LL → List VV → MM → Prop := RN 10 false (mS M0).length (mT M0) 0 0 sl sx (callX TBg sl sx (d + 104)) (rtW q245 M0 (PV P)) (as2 tb245)
def w245_86 (k33 : Nat → Int32 → Int32 → Int32 → MM → Prop) (l0 : Nat) (l1 : Int32) (l2 : Int32) (l3 : Int32) (M : MM) (P : MM → Prop) : Prop := k33 l0 l1 l2 l3 M
theorem t245_86 {sl : Nat} {sx : Nat → Int32} {d : Nat} {M0 : MM} {P : MM → Prop} {k33 : Nat → Int32 → Int32 → Int32 → MM → Prop} (hk33 : ∀ (l0 : Nat) (l1 : Int32) (l2 : Int32) (l3 : Int32) (M : MM), lenO M0 M → k33 l0 l1 l2 l3 M → R245 sl sx d M0 P 33 [some (vR (some l0)), some (vI l1), some (vI l2), some (vI l3), none] [] M) (l0 : Nat) (l1 : Int32) (l2 : Int32) (l3 : Int32) (M : MM) (hM : lenO M0 M) (h : w245_86 k33 l0 l1 l2 l3 M P) : R245 sl sx d M0 P 86 [some (vR (some l0)), some (vI l1), some (vI l2), some (vI l3), none] [] M := by
  refine RN_k (callX_det _) 1 _ _ _ _ (show R245 sl sx d M0 P 33 [some (vR (some l0)), some (vI l1), some (vI l2), some (vI l3), none] [] M from ?_)
  exact RN_weak (K := [some (vR (some l0)), some (vI l1), some (vI l2), some (vI l3), none]) (callX_det _) (show _ ∧ _ ∧ _ ∧ _ ∧ True from ⟨rfl, rfl, rfl, rfl, trivial⟩) (hk33 l0 l1 l2 l3 _ hM h)
def w245_67 (k33 : Nat → Int32 → Int32 → Int32 → MM → Prop) (l0 : Nat) (l1 : Int32) (l2 : Int32) (l3 : Int32) (l4 : Int32) (M : MM) (P : MM → Prop) : Prop := kd M l0 10 ∧ w239 l0 l1 M (fun r2 M1 => (r2 = 0 → (w245_86 k33 l0 l1 (l4 + (1 : Int32)) l3 M1 P)) ∧ (¬ (r2 = 0) → (w245_86 k33 l0 l1 l2 l4 M1 P)))
theorem t245_67 {sl : Nat} {sx : Nat → Int32} {d : Nat} {M0 : MM} {P : MM → Prop} {k33 : Nat → Int32 → Int32 → Int32 → MM → Prop} (hk33 : ∀ (l0 : Nat) (l1 : Int32) (l2 : Int32) (l3 : Int32) (M : MM), lenO M0 M → k33 l0 l1 l2 l3 M → R245 sl sx d M0 P 33 [some (vR (some l0)), some (vI l1), some (vI l2), some (vI l3), none] [] M) (l0 : Nat) (l1 : Int32) (l2 : Int32) (l3 : Int32) (l4 : Int32) (M : MM) (hM : lenO M0 M) (h : w245_67 k33 l0 l1 l2 l3 l4 M P) : R245 sl sx d M0 P 67 [some (vR (some l0)), some (vI l1), some (vI l2), some (vI l3), some (vI l4)] [] M := by
  refine RN_k (callX_det _) 3 _ _ _ _ (show kd M l0 10 ∧ callX TBg sl sx (d + 104) 239 [vR (some l0), vI l1] M (fun v M9 => R245 sl sx d M0 P 72 [some (vR (some l0)), some (vI l1), some (vI l2), some (vI l3), some (vI l4)] (pushO v []) M9) from ⟨h.1, ?_⟩)
  replace h := h.2
  refine callX_mono (callX_len (d := (d + 104)) rfl rfl rfl (c239 (d := d + 95) h)) ?_
  clear h
  rintro v9 M1 ⟨hl, r2, rfl, h⟩
  replace hM := lenT hM hl
  show R245 sl sx d M0 P 72 [some (vR (some l0)), some (vI l1), some (vI l2), some (vI l3), some (vI l4)] [vI r2] M1
  refine RN_k (callX_det _) 1 _ _ _ _ (show (r2 = 0 → R245 sl sx d M0 P 81 [some (vR (some l0)), some (vI l1), some (vI l2), some (vI l3), some (vI l4)] [] M1) ∧ (¬ (r2 = 0) → R245 sl sx d M0 P 75 [some (vR (some l0)), some (vI l1), some (vI l2), some (vI l3), some (vI l4)] [] M1) from ⟨fun hc => ?_, fun hc => ?_⟩)
  · replace h := h.1 hc
    refine RN_k (callX_det _) 4 _ _ _ _ (show R245 sl sx d M0 P 86 [some (vR (some l0)), some (vI l1), some (vI (l4 + (1 : Int32))), some (vI l3), some (vI l4)] [] M1 from ?_)
    exact RN_weak (K := [some (vR (some l0)), some (vI l1), some (vI (l4 + (1 : Int32))), some (vI l3), none]) (callX_det _) (show _ ∧ _ ∧ _ ∧ _ ∧ True from ⟨rfl, rfl, rfl, rfl, trivial⟩) (t245_86 hk33 l0 l1 (l4 + (1 : Int32)) l3 _ hM h)
  · replace h := h.2 hc
    refine RN_k (callX_det _) 3 _ _ _ _ (show R245 sl sx d M0 P 86 [some (vR (some l0)), some (vI l1), some (vI l2), some (vI l4), some (vI l4)] [] M1 from ?_)
    exact RN_weak (K := [some (vR (some l0)), some (vI l1), some (vI l2), some (vI l4), none]) (callX_det _) (show _ ∧ _ ∧ _ ∧ _ ∧ True from ⟨rfl, rfl, rfl, rfl, trivial⟩) (t245_86 hk33 l0 l1 l2 l4 _ hM h)
def w245_33 : Nat → Nat → Int32 → Int32 → Int32 → MM → (MM → Prop) → Prop
  | 0 => fun _ _ _ _ _ _ => False
  | n + 1 => fun l0 l1 l2 l3 M P => (l3 ≤ l2 → (kd M l0 10 ∧ (kd (sI M l0 54 l2) l0 10 ∧ (∃ a1, mR (sI M l0 54 l2) l0 47 = some a1 ∧ (inb (sI M l0 54 l2) a1 12 l2 ∧ (kd (sI M l0 54 l2) l0 10 ∧ (kd (sL (sI M l0 54 l2) l0 52 (mL (sI M l0 54 l2) a1 l2.toNatClampNeg)) l0 10 ∧ (∃ a2, mR (sL (sI M l0 54 l2) l0 52 (mL (sI M l0 54 l2) a1 l2.toNatClampNeg)) l0 48 = some a2 ∧ (inb (sL (sI M l0 54 l2) l0 52 (mL (sI M l0 54 l2) a1 l2.toNatClampNeg)) a2 12 l2 ∧ (kd (sL (sI M l0 54 l2) l0 52 (mL (sI M l0 54 l2) a1 l2.toNatClampNeg)) l0 10 ∧ (P (sL (sL (sI M l0 54 l2) l0 52 (mL (sI M l0 54 l2) a1 l2.toNatClampNeg)) l0 53 (mL (sL (sI M l0 54 l2) l0 52 (mL (sI M l0 54 l2) a1 l2.toNatClampNeg)) a2 l2.toNatClampNeg))))))))))))) ∧ (¬ (l3 ≤ l2) → (¬ (2 : Int32) = 0 ∧ (kd M l0 10 ∧ (∃ a3, mR M l0 47 = some a3 ∧ (inb M a3 12 ((l2 + l3) / (2 : Int32)) ∧ (kd M l0 10 ∧ (kd (sL M l0 29 (mL M a3 ((l2 + l3) / (2 : Int32)).toNatClampNeg)) l0 10 ∧ (∃ a4, mR (sL M l0 29 (mL M a3 ((l2 + l3) / (2 : Int32)).toNatClampNeg)) l0 48 = some a4 ∧ (inb (sL M l0 29 (mL M a3 ((l2 + l3) / (2 : Int32)).toNatClampNeg)) a4 12 ((l2 + l3) / (2 : Int32)) ∧ (kd (sL M l0 29 (mL M a3 ((l2 + l3) / (2 : Int32)).toNatClampNeg)) l0 10 ∧ (w245_67 (fun z0 z1 z2 z3 z4 => w245_33  n z0 z1 z2 z3 z4 P) l0 l1 l2 l3 ((l2 + l3) / (2 : Int32)) (sL (sL M l0 29 (mL M a3 ((l2 + l3) / (2 : Int32)).toNatClampNeg)) l0 30 (mL (sL M l0 29 (mL M a3 ((l2 + l3) / (2 : Int32)).toNatClampNeg)) a4 ((l2 + l3) / (2 : Int32)).toNatClampNeg)) P)))))))))))
theorem t245_33 {sl : Nat} {sx : Nat → Int32} {d : Nat} {M0 : MM} {P : MM → Prop} (n : Nat) : ∀ (l0 : Nat) (l1 : Int32) (l2 : Int32) (l3 : Int32) (M : MM) (_ : lenO M0 M) (_ : w245_33  n l0 l1 l2 l3 M P), R245 sl sx d M0 P 33 [some (vR (some l0)), some (vI l1), some (vI l2), some (vI l3), none] [] M := by
  induction n with
  | zero => intro l0 l1 l2 l3 M hM h; cases h
  | succ n ih =>
    intro l0 l1 l2 l3 M hM h
    refine RN_k (callX_det _) 3 _ _ _ _ (show (l3 ≤ l2 → R245 sl sx d M0 P 89 [some (vR (some l0)), some (vI l1), some (vI l2), some (vI l3), none] [] M) ∧ (¬ (l3 ≤ l2) → R245 sl sx d M0 P 38 [some (vR (some l0)), some (vI l1), some (vI l2), some (vI l3), none] [] M) from ⟨fun hc => ?_, fun hc => ?_⟩)
    · replace h := h.1 hc
      refine RN_k (callX_det _) 3 _ _ _ _ (show kd M l0 10 ∧ R245 sl sx d M0 P 94 [some (vR (some l0)), some (vI l1), some (vI l2), some (vI l3), none] [] (sI M l0 54 l2) from ⟨h.1, ?_⟩)
      replace h := h.2
      refine RN_k (callX_det _) 3 _ _ _ _ (show kd (sI M l0 54 l2) l0 10 ∧ R245 sl sx d M0 P 99 [some (vR (some l0)), some (vI l1), some (vI l2), some (vI l3), none] [vR (mR (sI M l0 54 l2) l0 47), vR (some l0)] (sI M l0 54 l2) from ⟨h.1, ?_⟩)
      replace h := h.2
      obtain ⟨a1, he, h⟩ := h
      refine RN_k (callX_det _) 1 _ _ _ _ (show R245 sl sx d M0 P 100 [some (vR (some l0)), some (vI l1), some (vI l2), some (vI l3), none] [vI l2, vR (mR (sI M l0 54 l2) l0 47), vR (some l0)] (sI M l0 54 l2) from ?_)
      rw [he]
      refine RN_k (callX_det _) 1 _ _ _ _ (show inb (sI M l0 54 l2) a1 12 l2 ∧ R245 sl sx d M0 P 101 [some (vR (some l0)), some (vI l1), some (vI l2), some (vI l3), none] [vL (mL (sI M l0 54 l2) a1 l2.toNatClampNeg), vR (some l0)] (sI M l0 54 l2) from ⟨h.1, ?_⟩)
      replace h := h.2
      refine RN_k (callX_det _) 1 _ _ _ _ (show kd (sI M l0 54 l2) l0 10 ∧ R245 sl sx d M0 P 104 [some (vR (some l0)), some (vI l1), some (vI l2), some (vI l3), none] [] (sL (sI M l0 54 l2) l0 52 (mL (sI M l0 54 l2) a1 l2.toNatClampNeg)) from ⟨h.1, ?_⟩)
      replace h := h.2
      refine RN_k (callX_det _) 3 _ _ _ _ (show kd (sL (sI M l0 54 l2) l0 52 (mL (sI M l0 54 l2) a1 l2.toNatClampNeg)) l0 10 ∧ R245 sl sx d M0 P 109 [some (vR (some l0)), some (vI l1), some (vI l2), some (vI l3), none] [vR (mR (sL (sI M l0 54 l2) l0 52 (mL (sI M l0 54 l2) a1 l2.toNatClampNeg)) l0 48), vR (some l0)] (sL (sI M l0 54 l2) l0 52 (mL (sI M l0 54 l2) a1 l2.toNatClampNeg)) from ⟨h.1, ?_⟩)
      replace h := h.2
      obtain ⟨a2, he, h⟩ := h
      refine RN_k (callX_det _) 1 _ _ _ _ (show R245 sl sx d M0 P 110 [some (vR (some l0)), some (vI l1), some (vI l2), some (vI l3), none] [vI l2, vR (mR (sL (sI M l0 54 l2) l0 52 (mL (sI M l0 54 l2) a1 l2.toNatClampNeg)) l0 48), vR (some l0)] (sL (sI M l0 54 l2) l0 52 (mL (sI M l0 54 l2) a1 l2.toNatClampNeg)) from ?_)
      rw [he]
      refine RN_k (callX_det _) 1 _ _ _ _ (show inb (sL (sI M l0 54 l2) l0 52 (mL (sI M l0 54 l2) a1 l2.toNatClampNeg)) a2 12 l2 ∧ R245 sl sx d M0 P 111 [some (vR (some l0)), some (vI l1), some (vI l2), some (vI l3), none] [vL (mL (sL (sI M l0 54 l2) l0 52 (mL (sI M l0 54 l2) a1 l2.toNatClampNeg)) a2 l2.toNatClampNeg), vR (some l0)] (sL (sI M l0 54 l2) l0 52 (mL (sI M l0 54 l2) a1 l2.toNatClampNeg)) from ⟨h.1, ?_⟩)
      replace h := h.2
      refine RN_k (callX_det _) 1 _ _ _ _ (show kd (sL (sI M l0 54 l2) l0 52 (mL (sI M l0 54 l2) a1 l2.toNatClampNeg)) l0 10 ∧ R245 sl sx d M0 P 114 [some (vR (some l0)), some (vI l1), some (vI l2), some (vI l3), none] [] (sL (sL (sI M l0 54 l2) l0 52 (mL (sI M l0 54 l2) a1 l2.toNatClampNeg)) l0 53 (mL (sL (sI M l0 54 l2) l0 52 (mL (sI M l0 54 l2) a1 l2.toNatClampNeg)) a2 l2.toNatClampNeg)) from ⟨h.1, ?_⟩)
      replace h := h.2
      exact RN_k (callX_det _) 1 _ _ _ _ (show rtW q245 M0 (PV P) none (sL (sL (sI M l0 54 l2) l0 52 (mL (sI M l0 54 l2) a1 l2.toNatClampNeg)) l0 53 (mL (sL (sI M l0 54 l2) l0 52 (mL (sI M l0 54 l2) a1 l2.toNatClampNeg)) a2 l2.toNatClampNeg)) from ⟨rfl, hM.1, hM.2, rfl, h⟩)
    · replace h := h.2 hc
      refine RN_k (callX_det _) 5 _ _ _ _ (show ¬ (2 : Int32) = 0 ∧ R245 sl sx d M0 P 43 [some (vR (some l0)), some (vI l1), some (vI l2), some (vI l3), none] [vI ((l2 + l3) / (2 : Int32))] M from ⟨h.1, ?_⟩)
      replace h := h.2
      refine RN_k (callX_det _) 4 _ _ _ _ (show kd M l0 10 ∧ R245 sl sx d M0 P 50 [some (vR (some l0)), some (vI l1), some (vI l2), some (vI l3), some (vI ((l2 + l3) / (2 : Int32)))] [vR (mR M l0 47), vR (some l0)] M from ⟨h.1, ?_⟩)
      replace h := h.2
      obtain ⟨a3, he, h⟩ := h
      refine RN_k (callX_det _) 1 _ _ _ _ (show R245 sl sx d M0 P 52 [some (vR (some l0)), some (vI l1), some (vI l2), some (vI l3), some (vI ((l2 + l3) / (2 : Int32)))] [vI ((l2 + l3) / (2 : Int32)), vR (mR M l0 47), vR (some l0)] M from ?_)
      rw [he]
      refine RN_k (callX_det _) 1 _ _ _ _ (show inb M a3 12 ((l2 + l3) / (2 : Int32)) ∧ R245 sl sx d M0 P 53 [some (vR (some l0)), some (vI l1), some (vI l2), some (vI l3), some (vI ((l2 + l3) / (2 : Int32)))] [vL (mL M a3 ((l2 + l3) / (2 : Int32)).toNatClampNeg), vR (some l0)] M from ⟨h.1, ?_⟩)
      replace h := h.2
      refine RN_k (callX_det _) 1 _ _ _ _ (show kd M l0 10 ∧ R245 sl sx d M0 P 56 [some (vR (some l0)), some (vI l1), some (vI l2), some (vI l3), some (vI ((l2 + l3) / (2 : Int32)))] [] (sL M l0 29 (mL M a3 ((l2 + l3) / (2 : Int32)).toNatClampNeg)) from ⟨h.1, ?_⟩)
      replace h := h.2
      refine RN_k (callX_det _) 3 _ _ _ _ (show kd (sL M l0 29 (mL M a3 ((l2 + l3) / (2 : Int32)).toNatClampNeg)) l0 10 ∧ R245 sl sx d M0 P 61 [some (vR (some l0)), some (vI l1), some (vI l2), some (vI l3), some (vI ((l2 + l3) / (2 : Int32)))] [vR (mR (sL M l0 29 (mL M a3 ((l2 + l3) / (2 : Int32)).toNatClampNeg)) l0 48), vR (some l0)] (sL M l0 29 (mL M a3 ((l2 + l3) / (2 : Int32)).toNatClampNeg)) from ⟨h.1, ?_⟩)
      replace h := h.2
      obtain ⟨a4, he, h⟩ := h
      refine RN_k (callX_det _) 1 _ _ _ _ (show R245 sl sx d M0 P 63 [some (vR (some l0)), some (vI l1), some (vI l2), some (vI l3), some (vI ((l2 + l3) / (2 : Int32)))] [vI ((l2 + l3) / (2 : Int32)), vR (mR (sL M l0 29 (mL M a3 ((l2 + l3) / (2 : Int32)).toNatClampNeg)) l0 48), vR (some l0)] (sL M l0 29 (mL M a3 ((l2 + l3) / (2 : Int32)).toNatClampNeg)) from ?_)
      rw [he]
      refine RN_k (callX_det _) 1 _ _ _ _ (show inb (sL M l0 29 (mL M a3 ((l2 + l3) / (2 : Int32)).toNatClampNeg)) a4 12 ((l2 + l3) / (2 : Int32)) ∧ R245 sl sx d M0 P 64 [some (vR (some l0)), some (vI l1), some (vI l2), some (vI l3), some (vI ((l2 + l3) / (2 : Int32)))] [vL (mL (sL M l0 29 (mL M a3 ((l2 + l3) / (2 : Int32)).toNatClampNeg)) a4 ((l2 + l3) / (2 : Int32)).toNatClampNeg), vR (some l0)] (sL M l0 29 (mL M a3 ((l2 + l3) / (2 : Int32)).toNatClampNeg)) from ⟨h.1, ?_⟩)
      replace h := h.2
      refine RN_k (callX_det _) 1 _ _ _ _ (show kd (sL M l0 29 (mL M a3 ((l2 + l3) / (2 : Int32)).toNatClampNeg)) l0 10 ∧ R245 sl sx d M0 P 67 [some (vR (some l0)), some (vI l1), some (vI l2), some (vI l3), some (vI ((l2 + l3) / (2 : Int32)))] [] (sL (sL M l0 29 (mL M a3 ((l2 + l3) / (2 : Int32)).toNatClampNeg)) l0 30 (mL (sL M l0 29 (mL M a3 ((l2 + l3) / (2 : Int32)).toNatClampNeg)) a4 ((l2 + l3) / (2 : Int32)).toNatClampNeg)) from ⟨h.1, ?_⟩)
      replace h := h.2
      exact RN_weak (K := [some (vR (some l0)), some (vI l1), some (vI l2), some (vI l3), some (vI ((l2 + l3) / (2 : Int32)))]) (callX_det _) (show _ ∧ _ ∧ _ ∧ _ ∧ _ ∧ True from ⟨rfl, rfl, rfl, rfl, rfl, trivial⟩) (t245_67 ih l0 l1 l2 l3 ((l2 + l3) / (2 : Int32)) _ hM h)
def w245 (l0 : Nat) (l1 : Int32) (M : MM) (P : MM → Prop) : Prop := (l1 ≠ (2 : Int32) → (kd M l0 10 ∧ w246 l0 M (fun M1 => kd M1 l0 10 ∧ (∃ n2, w245_33  n2 l0 l1 (0 : Int32) ((mI M1 l0 49) - (1 : Int32)) M1 P)))) ∧ (¬ (l1 ≠ (2 : Int32)) → (kd M l0 10 ∧ w241 l0 M (fun r3 M2 => kd M2 l0 10 ∧ (kd (sL M2 l0 52 r3.toInt64) l0 10 ∧ (P (sL (sL M2 l0 52 r3.toInt64) l0 53 (1 : Int64)))))))
theorem t245_E {sl : Nat} {sx : Nat → Int32} {d : Nat} {M0 : MM} {P : MM → Prop} (l0 : Nat) (l1 : Int32) (M : MM) (hM : lenO M0 M) (h : w245  l0 l1 M P) : R245 sl sx d M0 P 0 [some (vR (some l0)), some (vI l1), none, none, none] [] M := by
  refine RN_k (callX_det _) 3 _ _ _ _ (show (l1 ≠ (2 : Int32) → R245 sl sx d M0 P 20 [some (vR (some l0)), some (vI l1), none, none, none] [] M) ∧ (¬ (l1 ≠ (2 : Int32)) → R245 sl sx d M0 P 5 [some (vR (some l0)), some (vI l1), none, none, none] [] M) from ⟨fun hc => ?_, fun hc => ?_⟩)
  · replace h := h.1 hc
    refine RN_k (callX_det _) 2 _ _ _ _ (show kd M l0 10 ∧ callX TBg sl sx (d + 104) 246 [vR (some l0)] M (fun v M9 => R245 sl sx d M0 P 24 [some (vR (some l0)), some (vI l1), none, none, none] (pushO v []) M9) from ⟨h.1, ?_⟩)
    replace h := h.2
    refine callX_mono (callX_len (d := (d + 104)) rfl rfl rfl (c246 (d := d) h)) ?_
    clear h
    rintro v9 M1 ⟨hl, rfl, h⟩
    replace hM := lenT hM hl
    show R245 sl sx d M0 P 24 [some (vR (some l0)), some (vI l1), none, none, none] [] M1
    refine RN_k (callX_det _) 4 _ _ _ _ (show kd M1 l0 10 ∧ R245 sl sx d M0 P 30 [some (vR (some l0)), some (vI l1), some (vI (0 : Int32)), none, none] [vI (mI M1 l0 49)] M1 from ⟨h.1, ?_⟩)
    replace h := h.2
    refine RN_k (callX_det _) 3 _ _ _ _ (show R245 sl sx d M0 P 33 [some (vR (some l0)), some (vI l1), some (vI (0 : Int32)), some (vI ((mI M1 l0 49) - (1 : Int32))), none] [] M1 from ?_)
    obtain ⟨n2, h⟩ := h
    exact RN_weak (K := [some (vR (some l0)), some (vI l1), some (vI (0 : Int32)), some (vI ((mI M1 l0 49) - (1 : Int32))), none]) (callX_det _) (show _ ∧ _ ∧ _ ∧ _ ∧ True from ⟨rfl, rfl, rfl, rfl, trivial⟩) (t245_33  n2 l0 l1 (0 : Int32) ((mI M1 l0 49) - (1 : Int32)) _ hM h)
  · replace h := h.2 hc
    refine RN_k (callX_det _) 3 _ _ _ _ (show kd M l0 10 ∧ callX TBg sl sx (d + 104) 241 [vR (some l0)] M (fun v M9 => R245 sl sx d M0 P 10 [some (vR (some l0)), some (vI l1), none, none, none] (pushO v [vR (some l0)]) M9) from ⟨h.1, ?_⟩)
    replace h := h.2
    refine callX_mono (callX_len (d := (d + 104)) rfl rfl rfl (c241 (d := d + 101) h)) ?_
    clear h
    rintro v9 M2 ⟨hl, r3, rfl, h⟩
    replace hM := lenT hM hl
    show R245 sl sx d M0 P 10 [some (vR (some l0)), some (vI l1), none, none, none] [vI r3, vR (some l0)] M2
    refine RN_k (callX_det _) 2 _ _ _ _ (show kd M2 l0 10 ∧ R245 sl sx d M0 P 14 [some (vR (some l0)), some (vI l1), none, none, none] [] (sL M2 l0 52 r3.toInt64) from ⟨h.1, ?_⟩)
    replace h := h.2
    refine RN_k (callX_det _) 3 _ _ _ _ (show kd (sL M2 l0 52 r3.toInt64) l0 10 ∧ R245 sl sx d M0 P 19 [some (vR (some l0)), some (vI l1), none, none, none] [] (sL (sL M2 l0 52 r3.toInt64) l0 53 (1 : Int64)) from ⟨h.1, ?_⟩)
    replace h := h.2
    exact RN_k (callX_det _) 1 _ _ _ _ (show rtW q245 M0 (PV P) none (sL (sL M2 l0 52 r3.toInt64) l0 53 (1 : Int64)) from ⟨rfl, hM.1, hM.2, rfl, h⟩)
theorem c245 {sl : Nat} {sx : Nat → Int32} {d : Nat} {l0 : Nat} {l1 : Int32} {M : MM} {P : MM → Prop} (h : w245 l0 l1 M P) : callX TBg sl sx (d + 105) 245 [vR (some l0), vI l1] M (PV P) :=
  cX (d := d + 104) q245 (false, tb245) rfl rfl rfl (t245_E l0 l1 M lenR h)
-- TwoLeashModel.shortest(III)Z
abbrev q244 : MQ7 := (4, 1, 5, 10, 0, 0, 4)
abbrev R244 (sl : Nat) (sx : Nat → Int32) (d : Nat) (M0 : MM) (P : Int32 → MM → Prop) : Nat → LL → List VV → MM → Prop := RN 10 false (mS M0).length (mT M0) 0 0 sl sx (callX TBg sl sx (d + 105)) (rtW q244 M0 (PI P)) (as2 tb244)
def w244_19 (l0 : Nat) (l1 : Int32) (l2 : Int32) (l3 : Int32) (s0 : Int32) (M : MM) (P : Int32 → MM → Prop) : Prop := (s0 ≤ 0 → (kd M l0 10 ∧ w211 l0 l1 l2 M (fun M1 => kd M1 l0 10 ∧ w245 l0 l3 M1 (fun M2 => kd M2 l0 10 ∧ (kd M2 l0 10 ∧ (kd M2 l0 10 ∧ w194 l0 (mL M2 l0 52) (mL M2 l0 53) M2 (fun r4 M3 => (r4 = 0 ∨ r4 = 1) ∧ P r4 M3))))))) ∧ (¬ (s0 ≤ 0) → (kd M l0 10 ∧ w190 l0 s0 M (fun r6 M5 => (r6 = 0 ∨ r6 = 1) ∧ P r6 M5)))
theorem t244_19 {sl : Nat} {sx : Nat → Int32} {d : Nat} {M0 : MM} {P : Int32 → MM → Prop} (l0 : Nat) (l1 : Int32) (l2 : Int32) (l3 : Int32) (s0 : Int32) (M : MM) (hM : lenO M0 M) (h : w244_19  l0 l1 l2 l3 s0 M P) : R244 sl sx d M0 P 19 [some (vR (some l0)), some (vI l1), some (vI l2), some (vI l3), none] [vI s0] M := by
  refine RN_k (callX_det _) 3 _ _ _ _ (show (s0 ≤ 0 → R244 sl sx d M0 P 33 [some (vR (some l0)), some (vI l1), some (vI l2), some (vI l3), some (vI s0)] [] M) ∧ (¬ (s0 ≤ 0) → R244 sl sx d M0 P 26 [some (vR (some l0)), some (vI l1), some (vI l2), some (vI l3), some (vI s0)] [] M) from ⟨fun hc => ?_, fun hc => ?_⟩)
  · replace h := h.1 hc
    refine RN_k (callX_det _) 4 _ _ _ _ (show kd M l0 10 ∧ callX TBg sl sx (d + 105) 211 [vR (some l0), vI l1, vI l2] M (fun v M9 => R244 sl sx d M0 P 39 [some (vR (some l0)), some (vI l1), some (vI l2), some (vI l3), some (vI s0)] (pushO v []) M9) from ⟨h.1, ?_⟩)
    replace h := h.2
    refine callX_mono (callX_len (d := (d + 105)) rfl rfl rfl (c211 (d := d + 100) h)) ?_
    clear h
    rintro v9 M1 ⟨hl, rfl, h⟩
    replace hM := lenT hM hl
    show R244 sl sx d M0 P 39 [some (vR (some l0)), some (vI l1), some (vI l2), some (vI l3), some (vI s0)] [] M1
    refine RN_k (callX_det _) 3 _ _ _ _ (show kd M1 l0 10 ∧ callX TBg sl sx (d + 105) 245 [vR (some l0), vI l3] M1 (fun v M9 => R244 sl sx d M0 P 44 [some (vR (some l0)), some (vI l1), some (vI l2), some (vI l3), some (vI s0)] (pushO v []) M9) from ⟨h.1, ?_⟩)
    replace h := h.2
    refine callX_mono (callX_len (d := (d + 105)) rfl rfl rfl (c245 (d := d) h)) ?_
    clear h
    rintro v9 M2 ⟨hl, rfl, h⟩
    replace hM := lenT hM hl
    show R244 sl sx d M0 P 44 [some (vR (some l0)), some (vI l1), some (vI l2), some (vI l3), some (vI s0)] [] M2
    refine RN_k (callX_det _) 3 _ _ _ _ (show kd M2 l0 10 ∧ R244 sl sx d M0 P 49 [some (vR (some l0)), some (vI l1), some (vI l2), some (vI l3), some (vI s0)] [vL (mL M2 l0 52), vR (some l0)] M2 from ⟨h.1, ?_⟩)
    replace h := h.2
    refine RN_k (callX_det _) 2 _ _ _ _ (show kd M2 l0 10 ∧ R244 sl sx d M0 P 53 [some (vR (some l0)), some (vI l1), some (vI l2), some (vI l3), some (vI s0)] [vL (mL M2 l0 53), vL (mL M2 l0 52), vR (some l0)] M2 from ⟨h.1, ?_⟩)
    replace h := h.2
    refine RN_k (callX_det _) 1 _ _ _ _ (show kd M2 l0 10 ∧ callX TBg sl sx (d + 105) 194 [vR (some l0), vL (mL M2 l0 52), vL (mL M2 l0 53)] M2 (fun v M9 => R244 sl sx d M0 P 56 [some (vR (some l0)), some (vI l1), some (vI l2), some (vI l3), some (vI s0)] (pushO v []) M9) from ⟨h.1, ?_⟩)
    replace h := h.2
    refine callX_mono (callX_len (d := (d + 105)) rfl rfl rfl (c194 (d := d + 3) h)) ?_
    clear h
    rintro v9 M3 ⟨hl, r4, rfl, h⟩
    replace hM := lenT hM hl
    show R244 sl sx d M0 P 56 [some (vR (some l0)), some (vI l1), some (vI l2), some (vI l3), some (vI s0)] [vI r4] M3
    exact RN_k (callX_det _) 1 _ _ _ _ (show rtW q244 M0 (PI P) (some (vI r4)) M3 from ⟨⟨_, rfl, h.1⟩, hM.1, hM.2, _, rfl, h.2⟩)
  · replace h := h.2 hc
    refine RN_k (callX_det _) 3 _ _ _ _ (show kd M l0 10 ∧ callX TBg sl sx (d + 105) 190 [vR (some l0), vI s0] M (fun v M9 => R244 sl sx d M0 P 32 [some (vR (some l0)), some (vI l1), some (vI l2), some (vI l3), some (vI s0)] (pushO v []) M9) from ⟨h.1, ?_⟩)
    replace h := h.2
    refine callX_mono (callX_len (d := (d + 105)) rfl rfl rfl (c190 (d := d + 104) h)) ?_
    clear h
    rintro v9 M5 ⟨hl, r6, rfl, h⟩
    replace hM := lenT hM hl
    show R244 sl sx d M0 P 32 [some (vR (some l0)), some (vI l1), some (vI l2), some (vI l3), some (vI s0)] [vI r6] M5
    exact RN_k (callX_det _) 1 _ _ _ _ (show rtW q244 M0 (PI P) (some (vI r6)) M5 from ⟨⟨_, rfl, h.1⟩, hM.1, hM.2, _, rfl, h.2⟩)
def w244 (l0 : Nat) (l1 : Int32) (l2 : Int32) (l3 : Int32) (M : MM) (P : Int32 → MM → Prop) : Prop := w166 l3 (0 : Int32) (2 : Int32) M (fun r2 M1 => (r2 ≠ 0 → (kd M1 l0 10 ∧ w202 l0 l1 l2 M1 (fun r4 M3 => w244_19  l0 l1 l2 l3 r4 M3 P))) ∧ (¬ (r2 ≠ 0) → (w244_19  l0 l1 l2 l3 (1 : Int32) M1 P)))
theorem t244_E {sl : Nat} {sx : Nat → Int32} {d : Nat} {M0 : MM} {P : Int32 → MM → Prop} (l0 : Nat) (l1 : Int32) (l2 : Int32) (l3 : Int32) (M : MM) (hM : lenO M0 M) (h : w244  l0 l1 l2 l3 M P) : R244 sl sx d M0 P 0 [some (vR (some l0)), some (vI l1), some (vI l2), some (vI l3), none] [] M := by
  refine RN_k (callX_det _) 4 _ _ _ _ (show callX TBg sl sx (d + 105) 166 [vI l3, vI (0 : Int32), vI (2 : Int32)] M (fun v M9 => R244 sl sx d M0 P 6 [some (vR (some l0)), some (vI l1), some (vI l2), some (vI l3), none] (pushO v []) M9) from ?_)
  refine callX_mono (callX_len (d := (d + 105)) rfl rfl rfl (c166 (d := d + 104) h)) ?_
  clear h
  rintro v9 M1 ⟨hl, r2, rfl, h⟩
  replace hM := lenT hM hl
  show R244 sl sx d M0 P 6 [some (vR (some l0)), some (vI l1), some (vI l2), some (vI l3), none] [vI r2] M1
  refine RN_k (callX_det _) 1 _ _ _ _ (show (r2 ≠ 0 → R244 sl sx d M0 P 13 [some (vR (some l0)), some (vI l1), some (vI l2), some (vI l3), none] [] M1) ∧ (¬ (r2 ≠ 0) → R244 sl sx d M0 P 9 [some (vR (some l0)), some (vI l1), some (vI l2), some (vI l3), none] [] M1) from ⟨fun hc => ?_, fun hc => ?_⟩)
  · replace h := h.1 hc
    refine RN_k (callX_det _) 4 _ _ _ _ (show kd M1 l0 10 ∧ callX TBg sl sx (d + 105) 202 [vR (some l0), vI l1, vI l2] M1 (fun v M9 => R244 sl sx d M0 P 19 [some (vR (some l0)), some (vI l1), some (vI l2), some (vI l3), none] (pushO v []) M9) from ⟨h.1, ?_⟩)
    replace h := h.2
    refine callX_mono (callX_len (d := (d + 105)) rfl rfl rfl (c202 (d := d + 102) h)) ?_
    clear h
    rintro v9 M3 ⟨hl, r4, rfl, h⟩
    replace hM := lenT hM hl
    show R244 sl sx d M0 P 19 [some (vR (some l0)), some (vI l1), some (vI l2), some (vI l3), none] [vI r4] M3
    exact RN_weak (K := [some (vR (some l0)), some (vI l1), some (vI l2), some (vI l3), none]) (callX_det _) (show _ ∧ _ ∧ _ ∧ _ ∧ True from ⟨rfl, rfl, rfl, rfl, trivial⟩) (t244_19  l0 l1 l2 l3 r4 _ hM h)
  · replace h := h.2 hc
    refine RN_k (callX_det _) 2 _ _ _ _ (show R244 sl sx d M0 P 19 [some (vR (some l0)), some (vI l1), some (vI l2), some (vI l3), none] [vI (1 : Int32)] M1 from ?_)
    exact RN_weak (K := [some (vR (some l0)), some (vI l1), some (vI l2), some (vI l3), none]) (callX_det _) (show _ ∧ _ ∧ _ ∧ _ ∧ True from ⟨rfl, rfl, rfl, rfl, trivial⟩) (t244_19  l0 l1 l2 l3 (1 : Int32) _ hM h)
theorem c244 {sl : Nat} {sx : Nat → Int32} {d : Nat} {l0 : Nat} {l1 : Int32} {l2 : Int32} {l3 : Int32} {M : MM} {P : Int32 → MM → Prop} (h : w244 l0 l1 l2 l3 M P) : callX TBg sl sx (d + 106) 244 [vR (some l0), vI l1, vI l2, vI l3] M (PI P) :=
  cX (d := d + 105) q244 (false, tb244) rfl rfl rfl (t244_E l0 l1 l2 l3 M lenR h)
-- TwoLeashModel.criticals(III)I
abbrev q250 : MQ7 := (4, 1, 5, 10, 0, 0, 1)
abbrev R250 (sl : Nat) (sx : Nat → Int32) (d : Nat) (M0 : MM) (P : Int32 → MM → Prop) : Nat → LL → List VV → MM → Prop := RN 10 false (mS M0).length (mT M0) 0 0 sl sx (callX TBg sl sx (d + 105)) (rtW q250 M0 (PI P)) (as2 tb250)
def w250_19 (l0 : Nat) (l1 : Int32) (l2 : Int32) (l3 : Int32) (s0 : Int32) (M : MM) (P : Int32 → MM → Prop) : Prop := (s0 ≤ 0 → (kd M l0 10 ∧ w211 l0 l1 l2 M (fun M1 => (l3 ≠ (-1 : Int32) → (kd M1 l0 10 ∧ w245 l0 l3 M1 (fun M2 => kd M2 l0 10 ∧ (kd M2 l0 10 ∧ w177 l0 (mI M2 l0 54) M2 (fun r4 M3 => P r4 M3))))) ∧ (¬ (l3 ≠ (-1 : Int32)) → (kd M1 l0 10 ∧ w246 l0 M1 (fun M5 => kd M5 l0 10 ∧ (kd M5 l0 10 ∧ w177 l0 (mI M5 l0 49) M5 (fun r7 M6 => P r7 M6)))))))) ∧ (¬ (s0 ≤ 0) → (kd M l0 10 ∧ w167 l0 s0 M (fun r9 M8 => P r9 M8)))
theorem t250_19 {sl : Nat} {sx : Nat → Int32} {d : Nat} {M0 : MM} {P : Int32 → MM → Prop} (l0 : Nat) (l1 : Int32) (l2 : Int32) (l3 : Int32) (s0 : Int32) (M : MM) (hM : lenO M0 M) (h : w250_19  l0 l1 l2 l3 s0 M P) : R250 sl sx d M0 P 19 [some (vR (some l0)), some (vI l1), some (vI l2), some (vI l3), none] [vI s0] M := by
  refine RN_k (callX_det _) 3 _ _ _ _ (show (s0 ≤ 0 → R250 sl sx d M0 P 33 [some (vR (some l0)), some (vI l1), some (vI l2), some (vI l3), some (vI s0)] [] M) ∧ (¬ (s0 ≤ 0) → R250 sl sx d M0 P 26 [some (vR (some l0)), some (vI l1), some (vI l2), some (vI l3), some (vI s0)] [] M) from ⟨fun hc => ?_, fun hc => ?_⟩)
  · replace h := h.1 hc
    refine RN_k (callX_det _) 4 _ _ _ _ (show kd M l0 10 ∧ callX TBg sl sx (d + 105) 211 [vR (some l0), vI l1, vI l2] M (fun v M9 => R250 sl sx d M0 P 39 [some (vR (some l0)), some (vI l1), some (vI l2), some (vI l3), some (vI s0)] (pushO v []) M9) from ⟨h.1, ?_⟩)
    replace h := h.2
    refine callX_mono (callX_len (d := (d + 105)) rfl rfl rfl (c211 (d := d + 100) h)) ?_
    clear h
    rintro v9 M1 ⟨hl, rfl, h⟩
    replace hM := lenT hM hl
    show R250 sl sx d M0 P 39 [some (vR (some l0)), some (vI l1), some (vI l2), some (vI l3), some (vI s0)] [] M1
    refine RN_k (callX_det _) 3 _ _ _ _ (show (l3 ≠ (-1 : Int32) → R250 sl sx d M0 P 57 [some (vR (some l0)), some (vI l1), some (vI l2), some (vI l3), some (vI s0)] [] M1) ∧ (¬ (l3 ≠ (-1 : Int32)) → R250 sl sx d M0 P 44 [some (vR (some l0)), some (vI l1), some (vI l2), some (vI l3), some (vI s0)] [] M1) from ⟨fun hc => ?_, fun hc => ?_⟩)
    · replace h := h.1 hc
      refine RN_k (callX_det _) 3 _ _ _ _ (show kd M1 l0 10 ∧ callX TBg sl sx (d + 105) 245 [vR (some l0), vI l3] M1 (fun v M9 => R250 sl sx d M0 P 62 [some (vR (some l0)), some (vI l1), some (vI l2), some (vI l3), some (vI s0)] (pushO v []) M9) from ⟨h.1, ?_⟩)
      replace h := h.2
      refine callX_mono (callX_len (d := (d + 105)) rfl rfl rfl (c245 (d := d) h)) ?_
      clear h
      rintro v9 M2 ⟨hl, rfl, h⟩
      replace hM := lenT hM hl
      show R250 sl sx d M0 P 62 [some (vR (some l0)), some (vI l1), some (vI l2), some (vI l3), some (vI s0)] [] M2
      refine RN_k (callX_det _) 3 _ _ _ _ (show kd M2 l0 10 ∧ R250 sl sx d M0 P 67 [some (vR (some l0)), some (vI l1), some (vI l2), some (vI l3), some (vI s0)] [vI (mI M2 l0 54), vR (some l0)] M2 from ⟨h.1, ?_⟩)
      replace h := h.2
      refine RN_k (callX_det _) 1 _ _ _ _ (show kd M2 l0 10 ∧ callX TBg sl sx (d + 105) 177 [vR (some l0), vI (mI M2 l0 54)] M2 (fun v M9 => R250 sl sx d M0 P 70 [some (vR (some l0)), some (vI l1), some (vI l2), some (vI l3), some (vI s0)] (pushO v []) M9) from ⟨h.1, ?_⟩)
      replace h := h.2
      refine callX_mono (callX_len (d := (d + 105)) rfl rfl rfl (c177 (d := d + 104) h)) ?_
      clear h
      rintro v9 M3 ⟨hl, r4, rfl, h⟩
      replace hM := lenT hM hl
      show R250 sl sx d M0 P 70 [some (vR (some l0)), some (vI l1), some (vI l2), some (vI l3), some (vI s0)] [vI r4] M3
      exact RN_k (callX_det _) 1 _ _ _ _ (show rtW q250 M0 (PI P) (some (vI r4)) M3 from ⟨⟨_, rfl⟩, hM.1, hM.2, _, rfl, h⟩)
    · replace h := h.2 hc
      refine RN_k (callX_det _) 2 _ _ _ _ (show kd M1 l0 10 ∧ callX TBg sl sx (d + 105) 246 [vR (some l0)] M1 (fun v M9 => R250 sl sx d M0 P 48 [some (vR (some l0)), some (vI l1), some (vI l2), some (vI l3), some (vI s0)] (pushO v []) M9) from ⟨h.1, ?_⟩)
      replace h := h.2
      refine callX_mono (callX_len (d := (d + 105)) rfl rfl rfl (c246 (d := d + 1) h)) ?_
      clear h
      rintro v9 M5 ⟨hl, rfl, h⟩
      replace hM := lenT hM hl
      show R250 sl sx d M0 P 48 [some (vR (some l0)), some (vI l1), some (vI l2), some (vI l3), some (vI s0)] [] M5
      refine RN_k (callX_det _) 3 _ _ _ _ (show kd M5 l0 10 ∧ R250 sl sx d M0 P 53 [some (vR (some l0)), some (vI l1), some (vI l2), some (vI l3), some (vI s0)] [vI (mI M5 l0 49), vR (some l0)] M5 from ⟨h.1, ?_⟩)
      replace h := h.2
      refine RN_k (callX_det _) 1 _ _ _ _ (show kd M5 l0 10 ∧ callX TBg sl sx (d + 105) 177 [vR (some l0), vI (mI M5 l0 49)] M5 (fun v M9 => R250 sl sx d M0 P 56 [some (vR (some l0)), some (vI l1), some (vI l2), some (vI l3), some (vI s0)] (pushO v []) M9) from ⟨h.1, ?_⟩)
      replace h := h.2
      refine callX_mono (callX_len (d := (d + 105)) rfl rfl rfl (c177 (d := d + 104) h)) ?_
      clear h
      rintro v9 M6 ⟨hl, r7, rfl, h⟩
      replace hM := lenT hM hl
      show R250 sl sx d M0 P 56 [some (vR (some l0)), some (vI l1), some (vI l2), some (vI l3), some (vI s0)] [vI r7] M6
      exact RN_k (callX_det _) 1 _ _ _ _ (show rtW q250 M0 (PI P) (some (vI r7)) M6 from ⟨⟨_, rfl⟩, hM.1, hM.2, _, rfl, h⟩)
  · replace h := h.2 hc
    refine RN_k (callX_det _) 3 _ _ _ _ (show kd M l0 10 ∧ callX TBg sl sx (d + 105) 167 [vR (some l0), vI s0] M (fun v M9 => R250 sl sx d M0 P 32 [some (vR (some l0)), some (vI l1), some (vI l2), some (vI l3), some (vI s0)] (pushO v []) M9) from ⟨h.1, ?_⟩)
    replace h := h.2
    refine callX_mono (callX_len (d := (d + 105)) rfl rfl rfl (c167 (d := d + 104) h)) ?_
    clear h
    rintro v9 M8 ⟨hl, r9, rfl, h⟩
    replace hM := lenT hM hl
    show R250 sl sx d M0 P 32 [some (vR (some l0)), some (vI l1), some (vI l2), some (vI l3), some (vI s0)] [vI r9] M8
    exact RN_k (callX_det _) 1 _ _ _ _ (show rtW q250 M0 (PI P) (some (vI r9)) M8 from ⟨⟨_, rfl⟩, hM.1, hM.2, _, rfl, h⟩)
def w250 (l0 : Nat) (l1 : Int32) (l2 : Int32) (l3 : Int32) (M : MM) (P : Int32 → MM → Prop) : Prop := w166 l3 (-1 : Int32) (1 : Int32) M (fun r2 M1 => (r2 ≠ 0 → (kd M1 l0 10 ∧ w202 l0 l1 l2 M1 (fun r4 M3 => w250_19  l0 l1 l2 l3 r4 M3 P))) ∧ (¬ (r2 ≠ 0) → (w250_19  l0 l1 l2 l3 (1 : Int32) M1 P)))
theorem t250_E {sl : Nat} {sx : Nat → Int32} {d : Nat} {M0 : MM} {P : Int32 → MM → Prop} (l0 : Nat) (l1 : Int32) (l2 : Int32) (l3 : Int32) (M : MM) (hM : lenO M0 M) (h : w250  l0 l1 l2 l3 M P) : R250 sl sx d M0 P 0 [some (vR (some l0)), some (vI l1), some (vI l2), some (vI l3), none] [] M := by
  refine RN_k (callX_det _) 4 _ _ _ _ (show callX TBg sl sx (d + 105) 166 [vI l3, vI (-1 : Int32), vI (1 : Int32)] M (fun v M9 => R250 sl sx d M0 P 6 [some (vR (some l0)), some (vI l1), some (vI l2), some (vI l3), none] (pushO v []) M9) from ?_)
  refine callX_mono (callX_len (d := (d + 105)) rfl rfl rfl (c166 (d := d + 104) h)) ?_
  clear h
  rintro v9 M1 ⟨hl, r2, rfl, h⟩
  replace hM := lenT hM hl
  show R250 sl sx d M0 P 6 [some (vR (some l0)), some (vI l1), some (vI l2), some (vI l3), none] [vI r2] M1
  refine RN_k (callX_det _) 1 _ _ _ _ (show (r2 ≠ 0 → R250 sl sx d M0 P 13 [some (vR (some l0)), some (vI l1), some (vI l2), some (vI l3), none] [] M1) ∧ (¬ (r2 ≠ 0) → R250 sl sx d M0 P 9 [some (vR (some l0)), some (vI l1), some (vI l2), some (vI l3), none] [] M1) from ⟨fun hc => ?_, fun hc => ?_⟩)
  · replace h := h.1 hc
    refine RN_k (callX_det _) 4 _ _ _ _ (show kd M1 l0 10 ∧ callX TBg sl sx (d + 105) 202 [vR (some l0), vI l1, vI l2] M1 (fun v M9 => R250 sl sx d M0 P 19 [some (vR (some l0)), some (vI l1), some (vI l2), some (vI l3), none] (pushO v []) M9) from ⟨h.1, ?_⟩)
    replace h := h.2
    refine callX_mono (callX_len (d := (d + 105)) rfl rfl rfl (c202 (d := d + 102) h)) ?_
    clear h
    rintro v9 M3 ⟨hl, r4, rfl, h⟩
    replace hM := lenT hM hl
    show R250 sl sx d M0 P 19 [some (vR (some l0)), some (vI l1), some (vI l2), some (vI l3), none] [vI r4] M3
    exact RN_weak (K := [some (vR (some l0)), some (vI l1), some (vI l2), some (vI l3), none]) (callX_det _) (show _ ∧ _ ∧ _ ∧ _ ∧ True from ⟨rfl, rfl, rfl, rfl, trivial⟩) (t250_19  l0 l1 l2 l3 r4 _ hM h)
  · replace h := h.2 hc
    refine RN_k (callX_det _) 2 _ _ _ _ (show R250 sl sx d M0 P 19 [some (vR (some l0)), some (vI l1), some (vI l2), some (vI l3), none] [vI (1 : Int32)] M1 from ?_)
    exact RN_weak (K := [some (vR (some l0)), some (vI l1), some (vI l2), some (vI l3), none]) (callX_det _) (show _ ∧ _ ∧ _ ∧ _ ∧ True from ⟨rfl, rfl, rfl, rfl, trivial⟩) (t250_19  l0 l1 l2 l3 (1 : Int32) _ hM h)
theorem c250 {sl : Nat} {sx : Nat → Int32} {d : Nat} {l0 : Nat} {l1 : Int32} {l2 : Int32} {l3 : Int32} {M : MM} {P : Int32 → MM → Prop} (h : w250 l0 l1 l2 l3 M P) : callX TBg sl sx (d + 106) 250 [vR (some l0), vI l1, vI l2, vI l3] M (PI P) :=
  cX (d := d + 105) q250 (false, tb250) rfl rfl rfl (t250_E l0 l1 l2 l3 M lenR h)
-- TwoLeashModel.critical(III)Z
abbrev q251 : MQ7 := (4, 1, 5, 10, 0, 0, 4)
abbrev R251 (sl : Nat) (sx : Nat → Int32) (d : Nat) (M0 : MM) (P : Int32 → MM → Prop) : Nat → LL → List VV → MM → Prop := RN 10 false (mS M0).length (mT M0) 0 0 sl sx (callX TBg sl sx (d + 104)) (rtW q251 M0 (PI P)) (as2 tb251)
def w251_70 (s0 : Int32) (M : MM) (P : Int32 → MM → Prop) : Prop := (s0 = 0 ∨ s0 = 1) ∧ P s0 M
theorem t251_70 {sl : Nat} {sx : Nat → Int32} {d : Nat} {M0 : MM} {P : Int32 → MM → Prop} (s0 : Int32) (M : MM) (hM : lenO M0 M) (h : w251_70  s0 M P) : R251 sl sx d M0 P 70 [none, none, none, none, none] [vI s0] M := by
  exact RN_k (callX_det _) 1 _ _ _ _ (show rtW q251 M0 (PI P) (some (vI s0)) M from ⟨⟨_, rfl, h.1⟩, hM.1, hM.2, _, rfl, h.2⟩)
def w251_14 (l0 : Nat) (l1 : Int32) (l2 : Int32) (l3 : Int32) (s0 : Int32) (M : MM) (P : Int32 → MM → Prop) : Prop := (s0 ≤ 0 → (kd M l0 10 ∧ w211 l0 l1 l2 M (fun M1 => kd M1 l0 10 ∧ w246 l0 M1 (fun M2 => kd M2 l0 10 ∧ (((mI M2 l0 49) ≤ l3 → (kd M2 l0 10 ∧ w190 l0 (5 : Int32) M2 (fun r4 M3 => w251_70  r4 M3 P))) ∧ (¬ ((mI M2 l0 49) ≤ l3) → (kd M2 l0 10 ∧ (∃ a5, mR M2 l0 47 = some a5 ∧ (inb M2 a5 12 l3 ∧ (kd M2 l0 10 ∧ (∃ a6, mR M2 l0 48 = some a6 ∧ (inb M2 a6 12 l3 ∧ (kd M2 l0 10 ∧ w194 l0 (mL M2 a5 l3.toNatClampNeg) (mL M2 a6 l3.toNatClampNeg) M2 (fun r8 M7 => w251_70  r8 M7 P)))))))))))))) ∧ (¬ (s0 ≤ 0) → (kd M l0 10 ∧ w190 l0 s0 M (fun r10 M9 => (r10 = 0 ∨ r10 = 1) ∧ P r10 M9)))
theorem t251_14 {sl : Nat} {sx : Nat → Int32} {d : Nat} {M0 : MM} {P : Int32 → MM → Prop} (l0 : Nat) (l1 : Int32) (l2 : Int32) (l3 : Int32) (s0 : Int32) (M : MM) (hM : lenO M0 M) (h : w251_14  l0 l1 l2 l3 s0 M P) : R251 sl sx d M0 P 14 [some (vR (some l0)), some (vI l1), some (vI l2), some (vI l3), none] [vI s0] M := by
  refine RN_k (callX_det _) 3 _ _ _ _ (show (s0 ≤ 0 → R251 sl sx d M0 P 28 [some (vR (some l0)), some (vI l1), some (vI l2), some (vI l3), some (vI s0)] [] M) ∧ (¬ (s0 ≤ 0) → R251 sl sx d M0 P 21 [some (vR (some l0)), some (vI l1), some (vI l2), some (vI l3), some (vI s0)] [] M) from ⟨fun hc => ?_, fun hc => ?_⟩)
  · replace h := h.1 hc
    refine RN_k (callX_det _) 4 _ _ _ _ (show kd M l0 10 ∧ callX TBg sl sx (d + 104) 211 [vR (some l0), vI l1, vI l2] M (fun v M9 => R251 sl sx d M0 P 34 [some (vR (some l0)), some (vI l1), some (vI l2), some (vI l3), some (vI s0)] (pushO v []) M9) from ⟨h.1, ?_⟩)
    replace h := h.2
    refine callX_mono (callX_len (d := (d + 104)) rfl rfl rfl (c211 (d := d + 99) h)) ?_
    clear h
    rintro v9 M1 ⟨hl, rfl, h⟩
    replace hM := lenT hM hl
    show R251 sl sx d M0 P 34 [some (vR (some l0)), some (vI l1), some (vI l2), some (vI l3), some (vI s0)] [] M1
    refine RN_k (callX_det _) 2 _ _ _ _ (show kd M1 l0 10 ∧ callX TBg sl sx (d + 104) 246 [vR (some l0)] M1 (fun v M9 => R251 sl sx d M0 P 38 [some (vR (some l0)), some (vI l1), some (vI l2), some (vI l3), some (vI s0)] (pushO v []) M9) from ⟨h.1, ?_⟩)
    replace h := h.2
    refine callX_mono (callX_len (d := (d + 104)) rfl rfl rfl (c246 (d := d) h)) ?_
    clear h
    rintro v9 M2 ⟨hl, rfl, h⟩
    replace hM := lenT hM hl
    show R251 sl sx d M0 P 38 [some (vR (some l0)), some (vI l1), some (vI l2), some (vI l3), some (vI s0)] [] M2
    refine RN_k (callX_det _) 3 _ _ _ _ (show kd M2 l0 10 ∧ R251 sl sx d M0 P 43 [some (vR (some l0)), some (vI l1), some (vI l2), some (vI l3), some (vI s0)] [vI (mI M2 l0 49), vI l3] M2 from ⟨h.1, ?_⟩)
    replace h := h.2
    refine RN_k (callX_det _) 1 _ _ _ _ (show ((mI M2 l0 49) ≤ l3 → R251 sl sx d M0 P 65 [some (vR (some l0)), some (vI l1), some (vI l2), some (vI l3), some (vI s0)] [] M2) ∧ (¬ ((mI M2 l0 49) ≤ l3) → R251 sl sx d M0 P 46 [some (vR (some l0)), some (vI l1), some (vI l2), some (vI l3), some (vI s0)] [] M2) from ⟨fun hc => ?_, fun hc => ?_⟩)
    · replace h := h.1 hc
      refine RN_k (callX_det _) 3 _ _ _ _ (show kd M2 l0 10 ∧ callX TBg sl sx (d + 104) 190 [vR (some l0), vI (5 : Int32)] M2 (fun v M9 => R251 sl sx d M0 P 70 [some (vR (some l0)), some (vI l1), some (vI l2), some (vI l3), some (vI s0)] (pushO v []) M9) from ⟨h.1, ?_⟩)
      replace h := h.2
      refine callX_mono (callX_len (d := (d + 104)) rfl rfl rfl (c190 (d := d + 103) h)) ?_
      clear h
      rintro v9 M3 ⟨hl, r4, rfl, h⟩
      replace hM := lenT hM hl
      show R251 sl sx d M0 P 70 [some (vR (some l0)), some (vI l1), some (vI l2), some (vI l3), some (vI s0)] [vI r4] M3
      exact RN_weak (K := [none, none, none, none, none]) (callX_det _) (show True from trivial) (t251_70  r4 _ hM h)
    · replace h := h.2 hc
      refine RN_k (callX_det _) 3 _ _ _ _ (show kd M2 l0 10 ∧ R251 sl sx d M0 P 51 [some (vR (some l0)), some (vI l1), some (vI l2), some (vI l3), some (vI s0)] [vR (mR M2 l0 47), vR (some l0)] M2 from ⟨h.1, ?_⟩)
      replace h := h.2
      obtain ⟨a5, he, h⟩ := h
      refine RN_k (callX_det _) 1 _ _ _ _ (show R251 sl sx d M0 P 52 [some (vR (some l0)), some (vI l1), some (vI l2), some (vI l3), some (vI s0)] [vI l3, vR (mR M2 l0 47), vR (some l0)] M2 from ?_)
      rw [he]
      refine RN_k (callX_det _) 1 _ _ _ _ (show inb M2 a5 12 l3 ∧ R251 sl sx d M0 P 53 [some (vR (some l0)), some (vI l1), some (vI l2), some (vI l3), some (vI s0)] [vL (mL M2 a5 l3.toNatClampNeg), vR (some l0)] M2 from ⟨h.1, ?_⟩)
      replace h := h.2
      refine RN_k (callX_det _) 2 _ _ _ _ (show kd M2 l0 10 ∧ R251 sl sx d M0 P 57 [some (vR (some l0)), some (vI l1), some (vI l2), some (vI l3), some (vI s0)] [vR (mR M2 l0 48), vL (mL M2 a5 l3.toNatClampNeg), vR (some l0)] M2 from ⟨h.1, ?_⟩)
      replace h := h.2
      obtain ⟨a6, he, h⟩ := h
      refine RN_k (callX_det _) 1 _ _ _ _ (show R251 sl sx d M0 P 58 [some (vR (some l0)), some (vI l1), some (vI l2), some (vI l3), some (vI s0)] [vI l3, vR (mR M2 l0 48), vL (mL M2 a5 l3.toNatClampNeg), vR (some l0)] M2 from ?_)
      rw [he]
      refine RN_k (callX_det _) 1 _ _ _ _ (show inb M2 a6 12 l3 ∧ R251 sl sx d M0 P 59 [some (vR (some l0)), some (vI l1), some (vI l2), some (vI l3), some (vI s0)] [vL (mL M2 a6 l3.toNatClampNeg), vL (mL M2 a5 l3.toNatClampNeg), vR (some l0)] M2 from ⟨h.1, ?_⟩)
      replace h := h.2
      refine RN_k (callX_det _) 1 _ _ _ _ (show kd M2 l0 10 ∧ callX TBg sl sx (d + 104) 194 [vR (some l0), vL (mL M2 a5 l3.toNatClampNeg), vL (mL M2 a6 l3.toNatClampNeg)] M2 (fun v M9 => R251 sl sx d M0 P 62 [some (vR (some l0)), some (vI l1), some (vI l2), some (vI l3), some (vI s0)] (pushO v []) M9) from ⟨h.1, ?_⟩)
      replace h := h.2
      refine callX_mono (callX_len (d := (d + 104)) rfl rfl rfl (c194 (d := d + 2) h)) ?_
      clear h
      rintro v9 M7 ⟨hl, r8, rfl, h⟩
      replace hM := lenT hM hl
      show R251 sl sx d M0 P 62 [some (vR (some l0)), some (vI l1), some (vI l2), some (vI l3), some (vI s0)] [vI r8] M7
      refine RN_k (callX_det _) 1 _ _ _ _ (show R251 sl sx d M0 P 70 [some (vR (some l0)), some (vI l1), some (vI l2), some (vI l3), some (vI s0)] [vI r8] M7 from ?_)
      exact RN_weak (K := [none, none, none, none, none]) (callX_det _) (show True from trivial) (t251_70  r8 _ hM h)
  · replace h := h.2 hc
    refine RN_k (callX_det _) 3 _ _ _ _ (show kd M l0 10 ∧ callX TBg sl sx (d + 104) 190 [vR (some l0), vI s0] M (fun v M9 => R251 sl sx d M0 P 27 [some (vR (some l0)), some (vI l1), some (vI l2), some (vI l3), some (vI s0)] (pushO v []) M9) from ⟨h.1, ?_⟩)
    replace h := h.2
    refine callX_mono (callX_len (d := (d + 104)) rfl rfl rfl (c190 (d := d + 103) h)) ?_
    clear h
    rintro v9 M9 ⟨hl, r10, rfl, h⟩
    replace hM := lenT hM hl
    show R251 sl sx d M0 P 27 [some (vR (some l0)), some (vI l1), some (vI l2), some (vI l3), some (vI s0)] [vI r10] M9
    exact RN_k (callX_det _) 1 _ _ _ _ (show rtW q251 M0 (PI P) (some (vI r10)) M9 from ⟨⟨_, rfl, h.1⟩, hM.1, hM.2, _, rfl, h.2⟩)
def w251 (l0 : Nat) (l1 : Int32) (l2 : Int32) (l3 : Int32) (M : MM) (P : Int32 → MM → Prop) : Prop := (0 ≤ l3 → (kd M l0 10 ∧ w202 l0 l1 l2 M (fun r2 M1 => w251_14  l0 l1 l2 l3 r2 M1 P))) ∧ (¬ (0 ≤ l3) → (w251_14  l0 l1 l2 l3 (1 : Int32) M P))
theorem t251_E {sl : Nat} {sx : Nat → Int32} {d : Nat} {M0 : MM} {P : Int32 → MM → Prop} (l0 : Nat) (l1 : Int32) (l2 : Int32) (l3 : Int32) (M : MM) (hM : lenO M0 M) (h : w251  l0 l1 l2 l3 M P) : R251 sl sx d M0 P 0 [some (vR (some l0)), some (vI l1), some (vI l2), some (vI l3), none] [] M := by
  refine RN_k (callX_det _) 2 _ _ _ _ (show (0 ≤ l3 → R251 sl sx d M0 P 8 [some (vR (some l0)), some (vI l1), some (vI l2), some (vI l3), none] [] M) ∧ (¬ (0 ≤ l3) → R251 sl sx d M0 P 4 [some (vR (some l0)), some (vI l1), some (vI l2), some (vI l3), none] [] M) from ⟨fun hc => ?_, fun hc => ?_⟩)
  · replace h := h.1 hc
    refine RN_k (callX_det _) 4 _ _ _ _ (show kd M l0 10 ∧ callX TBg sl sx (d + 104) 202 [vR (some l0), vI l1, vI l2] M (fun v M9 => R251 sl sx d M0 P 14 [some (vR (some l0)), some (vI l1), some (vI l2), some (vI l3), none] (pushO v []) M9) from ⟨h.1, ?_⟩)
    replace h := h.2
    refine callX_mono (callX_len (d := (d + 104)) rfl rfl rfl (c202 (d := d + 101) h)) ?_
    clear h
    rintro v9 M1 ⟨hl, r2, rfl, h⟩
    replace hM := lenT hM hl
    show R251 sl sx d M0 P 14 [some (vR (some l0)), some (vI l1), some (vI l2), some (vI l3), none] [vI r2] M1
    exact RN_weak (K := [some (vR (some l0)), some (vI l1), some (vI l2), some (vI l3), none]) (callX_det _) (show _ ∧ _ ∧ _ ∧ _ ∧ True from ⟨rfl, rfl, rfl, rfl, trivial⟩) (t251_14  l0 l1 l2 l3 r2 _ hM h)
  · replace h := h.2 hc
    refine RN_k (callX_det _) 2 _ _ _ _ (show R251 sl sx d M0 P 14 [some (vR (some l0)), some (vI l1), some (vI l2), some (vI l3), none] [vI (1 : Int32)] M from ?_)
    exact RN_weak (K := [some (vR (some l0)), some (vI l1), some (vI l2), some (vI l3), none]) (callX_det _) (show _ ∧ _ ∧ _ ∧ _ ∧ True from ⟨rfl, rfl, rfl, rfl, trivial⟩) (t251_14  l0 l1 l2 l3 (1 : Int32) _ hM h)
theorem c251 {sl : Nat} {sx : Nat → Int32} {d : Nat} {l0 : Nat} {l1 : Int32} {l2 : Int32} {l3 : Int32} {M : MM} {P : Int32 → MM → Prop} (h : w251 l0 l1 l2 l3 M P) : callX TBg sl sx (d + 105) 251 [vR (some l0), vI l1, vI l2, vI l3] M (PI P) :=
  cX (d := d + 104) q251 (false, tb251) rfl rfl rfl (t251_E l0 l1 l2 l3 M lenR h)
-- TwoLeashModel.putsRow(II)V
abbrev q254 : MQ7 := (3, 1, 3, 10, 0, 0, 0)
abbrev R254 (sl : Nat) (sx : Nat → Int32) (d : Nat) (M0 : MM) (P : MM → Prop) : Nat → LL → List VV → MM → Prop := RN 10 false (mS M0).length (mT M0) 0 0 sl sx (callX TBg sl sx (d + 0)) (rtW q254 M0 (PV P)) (as2 tb254)
def w254_30 (M : MM) (P : MM → Prop) : Prop := P M
theorem t254_30 {sl : Nat} {sx : Nat → Int32} {d : Nat} {M0 : MM} {P : MM → Prop}  (M : MM) (hM : lenO M0 M) (h : w254_30   M P) : R254 sl sx d M0 P 30 [none, none, none] [] M := by
  exact RN_k (callX_det _) 1 _ _ _ _ (show rtW q254 M0 (PV P) none M from ⟨rfl, hM.1, hM.2, rfl, h⟩)
def w254 (l0 : Nat) (l1 : Int32) (l2 : Int32) (M : MM) (P : MM → Prop) : Prop := kd M l0 10 ∧ (kd M l0 10 ∧ (∃ a1, mR M l0 57 = some a1 ∧ (inb M a1 11 (mI M l0 59) ∧ (kd (sI M a1 (mI M l0 59).toNatClampNeg l1) l0 10 ∧ (kd (sI M a1 (mI M l0 59).toNatClampNeg l1) l0 10 ∧ (∃ a2, mR (sI M a1 (mI M l0 59).toNatClampNeg l1) l0 58 = some a2 ∧ (inb (sI M a1 (mI M l0 59).toNatClampNeg l1) a2 11 (mI (sI M a1 (mI M l0 59).toNatClampNeg l1) l0 59) ∧ (kd (sI (sI M a1 (mI M l0 59).toNatClampNeg l1) a2 (mI (sI M a1 (mI M l0 59).toNatClampNeg l1) l0 59).toNatClampNeg l2) l0 10 ∧ (kd (sI (sI M a1 (mI M l0 59).toNatClampNeg l1) a2 (mI (sI M a1 (mI M l0 59).toNatClampNeg l1) l0 59).toNatClampNeg l2) l0 10 ∧ (w254_30  (sI (sI (sI M a1 (mI M l0 59).toNatClampNeg l1) a2 (mI (sI M a1 (mI M l0 59).toNatClampNeg l1) l0 59).toNatClampNeg l2) l0 59 ((mI (sI (sI M a1 (mI M l0 59).toNatClampNeg l1) a2 (mI (sI M a1 (mI M l0 59).toNatClampNeg l1) l0 59).toNatClampNeg l2) l0 59) + (1 : Int32))) P))))))))))
theorem t254_E {sl : Nat} {sx : Nat → Int32} {d : Nat} {M0 : MM} {P : MM → Prop} (l0 : Nat) (l1 : Int32) (l2 : Int32) (M : MM) (hM : lenO M0 M) (h : w254  l0 l1 l2 M P) : R254 sl sx d M0 P 0 [some (vR (some l0)), some (vI l1), some (vI l2)] [] M := by
  refine RN_k (callX_det _) 2 _ _ _ _ (show kd M l0 10 ∧ R254 sl sx d M0 P 4 [some (vR (some l0)), some (vI l1), some (vI l2)] [vR (mR M l0 57)] M from ⟨h.1, ?_⟩)
  replace h := h.2
  refine RN_k (callX_det _) 2 _ _ _ _ (show kd M l0 10 ∧ R254 sl sx d M0 P 8 [some (vR (some l0)), some (vI l1), some (vI l2)] [vI (mI M l0 59), vR (mR M l0 57)] M from ⟨h.1, ?_⟩)
  replace h := h.2
  obtain ⟨a1, he, h⟩ := h
  refine RN_k (callX_det _) 1 _ _ _ _ (show R254 sl sx d M0 P 9 [some (vR (some l0)), some (vI l1), some (vI l2)] [vI l1, vI (mI M l0 59), vR (mR M l0 57)] M from ?_)
  rw [he]
  refine RN_k (callX_det _) 1 _ _ _ _ (show inb M a1 11 (mI M l0 59) ∧ R254 sl sx d M0 P 10 [some (vR (some l0)), some (vI l1), some (vI l2)] [] (sI M a1 (mI M l0 59).toNatClampNeg l1) from ⟨h.1, ?_⟩)
  replace h := h.2
  refine RN_k (callX_det _) 2 _ _ _ _ (show kd (sI M a1 (mI M l0 59).toNatClampNeg l1) l0 10 ∧ R254 sl sx d M0 P 14 [some (vR (some l0)), some (vI l1), some (vI l2)] [vR (mR (sI M a1 (mI M l0 59).toNatClampNeg l1) l0 58)] (sI M a1 (mI M l0 59).toNatClampNeg l1) from ⟨h.1, ?_⟩)
  replace h := h.2
  refine RN_k (callX_det _) 2 _ _ _ _ (show kd (sI M a1 (mI M l0 59).toNatClampNeg l1) l0 10 ∧ R254 sl sx d M0 P 18 [some (vR (some l0)), some (vI l1), some (vI l2)] [vI (mI (sI M a1 (mI M l0 59).toNatClampNeg l1) l0 59), vR (mR (sI M a1 (mI M l0 59).toNatClampNeg l1) l0 58)] (sI M a1 (mI M l0 59).toNatClampNeg l1) from ⟨h.1, ?_⟩)
  replace h := h.2
  obtain ⟨a2, he, h⟩ := h
  refine RN_k (callX_det _) 1 _ _ _ _ (show R254 sl sx d M0 P 19 [some (vR (some l0)), some (vI l1), some (vI l2)] [vI l2, vI (mI (sI M a1 (mI M l0 59).toNatClampNeg l1) l0 59), vR (mR (sI M a1 (mI M l0 59).toNatClampNeg l1) l0 58)] (sI M a1 (mI M l0 59).toNatClampNeg l1) from ?_)
  rw [he]
  refine RN_k (callX_det _) 1 _ _ _ _ (show inb (sI M a1 (mI M l0 59).toNatClampNeg l1) a2 11 (mI (sI M a1 (mI M l0 59).toNatClampNeg l1) l0 59) ∧ R254 sl sx d M0 P 20 [some (vR (some l0)), some (vI l1), some (vI l2)] [] (sI (sI M a1 (mI M l0 59).toNatClampNeg l1) a2 (mI (sI M a1 (mI M l0 59).toNatClampNeg l1) l0 59).toNatClampNeg l2) from ⟨h.1, ?_⟩)
  replace h := h.2
  refine RN_k (callX_det _) 3 _ _ _ _ (show kd (sI (sI M a1 (mI M l0 59).toNatClampNeg l1) a2 (mI (sI M a1 (mI M l0 59).toNatClampNeg l1) l0 59).toNatClampNeg l2) l0 10 ∧ R254 sl sx d M0 P 25 [some (vR (some l0)), some (vI l1), some (vI l2)] [vI (mI (sI (sI M a1 (mI M l0 59).toNatClampNeg l1) a2 (mI (sI M a1 (mI M l0 59).toNatClampNeg l1) l0 59).toNatClampNeg l2) l0 59), vR (some l0)] (sI (sI M a1 (mI M l0 59).toNatClampNeg l1) a2 (mI (sI M a1 (mI M l0 59).toNatClampNeg l1) l0 59).toNatClampNeg l2) from ⟨h.1, ?_⟩)
  replace h := h.2
  refine RN_k (callX_det _) 3 _ _ _ _ (show kd (sI (sI M a1 (mI M l0 59).toNatClampNeg l1) a2 (mI (sI M a1 (mI M l0 59).toNatClampNeg l1) l0 59).toNatClampNeg l2) l0 10 ∧ R254 sl sx d M0 P 30 [some (vR (some l0)), some (vI l1), some (vI l2)] [] (sI (sI (sI M a1 (mI M l0 59).toNatClampNeg l1) a2 (mI (sI M a1 (mI M l0 59).toNatClampNeg l1) l0 59).toNatClampNeg l2) l0 59 ((mI (sI (sI M a1 (mI M l0 59).toNatClampNeg l1) a2 (mI (sI M a1 (mI M l0 59).toNatClampNeg l1) l0 59).toNatClampNeg l2) l0 59) + (1 : Int32))) from ⟨h.1, ?_⟩)
  replace h := h.2
  exact RN_weak (K := [none, none, none]) (callX_det _) (show True from trivial) (t254_30   _ hM h)
theorem c254 {sl : Nat} {sx : Nat → Int32} {d : Nat} {l0 : Nat} {l1 : Int32} {l2 : Int32} {M : MM} {P : MM → Prop} (h : w254 l0 l1 l2 M P) : callX TBg sl sx (d + 1) 254 [vR (some l0), vI l1, vI l2] M (PV P) :=
  cX (d := d + 0) q254 (false, tb254) rfl rfl rfl (t254_E l0 l1 l2 M lenR h)
-- TwoLeashModel.laysWalk()V
abbrev q253 : MQ7 := (1, 1, 4, 10, 0, 0, 0)
abbrev R253 (sl : Nat) (sx : Nat → Int32) (d : Nat) (M0 : MM) (P : MM → Prop) : Nat → LL → List VV → MM → Prop := RN 10 false (mS M0).length (mT M0) 0 0 sl sx (callX TBg sl sx (d + 1)) (rtW q253 M0 (PV P)) (as2 tb253)
def w253_87 (k37 : Nat → Int32 → Int32 → Int32 → MM → Prop) (l0 : Nat) (l1 : Int32) (l2 : Int32) (s0 : Int32) (M : MM) (P : MM → Prop) : Prop := k37 l0 l1 l2 s0 M
theorem t253_87 {sl : Nat} {sx : Nat → Int32} {d : Nat} {M0 : MM} {P : MM → Prop} {k37 : Nat → Int32 → Int32 → Int32 → MM → Prop} (hk37 : ∀ (l0 : Nat) (l1 : Int32) (l2 : Int32) (l3 : Int32) (M : MM), lenO M0 M → k37 l0 l1 l2 l3 M → R253 sl sx d M0 P 37 [some (vR (some l0)), some (vI l1), some (vI l2), some (vI l3)] [] M) (l0 : Nat) (l1 : Int32) (l2 : Int32) (s0 : Int32) (M : MM) (hM : lenO M0 M) (h : w253_87 k37 l0 l1 l2 s0 M P) : R253 sl sx d M0 P 87 [some (vR (some l0)), some (vI l1), some (vI l2), none] [vI s0] M := by
  refine RN_k (callX_det _) 2 _ _ _ _ (show R253 sl sx d M0 P 37 [some (vR (some l0)), some (vI l1), some (vI l2), some (vI s0)] [] M from ?_)
  exact RN_weak (K := [some (vR (some l0)), some (vI l1), some (vI l2), some (vI s0)]) (callX_det _) (show _ ∧ _ ∧ _ ∧ _ ∧ True from ⟨rfl, rfl, rfl, rfl, trivial⟩) (hk37 l0 l1 l2 s0 _ hM h)
def w253_55 (k37 : Nat → Int32 → Int32 → Int32 → MM → Prop) (l0 : Nat) (l1 : Int32) (l2 : Int32) (l3 : Int32) (M : MM) (P : MM → Prop) : Prop := (l3 = 0 → (kd M l0 10 ∧ w254 l0 l1 (l2 + (-1 : Int32)) M (fun M1 => kd M1 l0 10 ∧ (w218 (1 : Int32) l1 (l2 + (-1 : Int32)) M1 (fun r3 M2 => ∃ a4, mR M1 l0 35 = some a4 ∧ (inb M2 a4 14 r3 ∧ (k37 l0 l1 (l2 + (-1 : Int32)) (mI M2 a4 r3.toNatClampNeg) M2))))))) ∧ (¬ (l3 = 0) → (kd M l0 10 ∧ w254 l0 (l1 + (-1 : Int32)) l2 M (fun M5 => kd M5 l0 10 ∧ (w218 (0 : Int32) (l1 + (-1 : Int32)) l2 M5 (fun r7 M6 => ∃ a8, mR M5 l0 35 = some a8 ∧ (inb M6 a8 14 r7 ∧ (((mI M6 a8 r7.toNatClampNeg) ≠ 0 → (w253_87 k37 l0 (l1 + (-1 : Int32)) l2 (0 : Int32) M6 P)) ∧ (¬ ((mI M6 a8 r7.toNatClampNeg) ≠ 0) → (w253_87 k37 l0 (l1 + (-1 : Int32)) l2 (1 : Int32) M6 P)))))))))
theorem t253_55 {sl : Nat} {sx : Nat → Int32} {d : Nat} {M0 : MM} {P : MM → Prop} {k37 : Nat → Int32 → Int32 → Int32 → MM → Prop} (hk37 : ∀ (l0 : Nat) (l1 : Int32) (l2 : Int32) (l3 : Int32) (M : MM), lenO M0 M → k37 l0 l1 l2 l3 M → R253 sl sx d M0 P 37 [some (vR (some l0)), some (vI l1), some (vI l2), some (vI l3)] [] M) (l0 : Nat) (l1 : Int32) (l2 : Int32) (l3 : Int32) (M : MM) (hM : lenO M0 M) (h : w253_55 k37 l0 l1 l2 l3 M P) : R253 sl sx d M0 P 55 [some (vR (some l0)), some (vI l1), some (vI l2), some (vI l3)] [] M := by
  refine RN_k (callX_det _) 2 _ _ _ _ (show (l3 = 0 → R253 sl sx d M0 P 91 [some (vR (some l0)), some (vI l1), some (vI l2), some (vI l3)] [] M) ∧ (¬ (l3 = 0) → R253 sl sx d M0 P 59 [some (vR (some l0)), some (vI l1), some (vI l2), some (vI l3)] [] M) from ⟨fun hc => ?_, fun hc => ?_⟩)
  · replace h := h.1 hc
    refine RN_k (callX_det _) 5 _ _ _ _ (show kd M l0 10 ∧ callX TBg sl sx (d + 1) 254 [vR (some l0), vI l1, vI (l2 + (-1 : Int32))] M (fun v M9 => R253 sl sx d M0 P 100 [some (vR (some l0)), some (vI l1), some (vI (l2 + (-1 : Int32))), some (vI l3)] (pushO v []) M9) from ⟨h.1, ?_⟩)
    replace h := h.2
    refine callX_mono (callX_len (d := (d + 1)) rfl rfl rfl (c254 (d := d) h)) ?_
    clear h
    rintro v9 M1 ⟨hl, rfl, h⟩
    replace hM := lenT hM hl
    show R253 sl sx d M0 P 100 [some (vR (some l0)), some (vI l1), some (vI (l2 + (-1 : Int32))), some (vI l3)] [] M1
    refine RN_k (callX_det _) 2 _ _ _ _ (show kd M1 l0 10 ∧ R253 sl sx d M0 P 104 [some (vR (some l0)), some (vI l1), some (vI (l2 + (-1 : Int32))), some (vI l3)] [vR (mR M1 l0 35)] M1 from ⟨h.1, ?_⟩)
    replace h := h.2
    refine RN_k (callX_det _) 4 _ _ _ _ (show callX TBg sl sx (d + 1) 218 [vI (1 : Int32), vI l1, vI (l2 + (-1 : Int32))] M1 (fun v M9 => R253 sl sx d M0 P 110 [some (vR (some l0)), some (vI l1), some (vI (l2 + (-1 : Int32))), some (vI l3)] (pushO v [vR (mR M1 l0 35)]) M9) from ?_)
    refine callX_mono (callX_len (d := (d + 1)) rfl rfl rfl (c218 (d := d) h)) ?_
    clear h
    rintro v9 M2 ⟨hl, r3, rfl, h⟩
    replace hM := lenT hM hl
    show R253 sl sx d M0 P 110 [some (vR (some l0)), some (vI l1), some (vI (l2 + (-1 : Int32))), some (vI l3)] [vI r3, vR (mR M1 l0 35)] M2
    obtain ⟨a4, he, h⟩ := h
    rw [he]
    refine RN_k (callX_det _) 1 _ _ _ _ (show inb M2 a4 14 r3 ∧ R253 sl sx d M0 P 111 [some (vR (some l0)), some (vI l1), some (vI (l2 + (-1 : Int32))), some (vI l3)] [vI (mI M2 a4 r3.toNatClampNeg)] M2 from ⟨h.1, ?_⟩)
    replace h := h.2
    refine RN_k (callX_det _) 2 _ _ _ _ (show R253 sl sx d M0 P 37 [some (vR (some l0)), some (vI l1), some (vI (l2 + (-1 : Int32))), some (vI (mI M2 a4 r3.toNatClampNeg))] [] M2 from ?_)
    exact RN_weak (K := [some (vR (some l0)), some (vI l1), some (vI (l2 + (-1 : Int32))), some (vI (mI M2 a4 r3.toNatClampNeg))]) (callX_det _) (show _ ∧ _ ∧ _ ∧ _ ∧ True from ⟨rfl, rfl, rfl, rfl, trivial⟩) (hk37 l0 l1 (l2 + (-1 : Int32)) (mI M2 a4 r3.toNatClampNeg) _ hM h)
  · replace h := h.2 hc
    refine RN_k (callX_det _) 5 _ _ _ _ (show kd M l0 10 ∧ callX TBg sl sx (d + 1) 254 [vR (some l0), vI (l1 + (-1 : Int32)), vI l2] M (fun v M9 => R253 sl sx d M0 P 68 [some (vR (some l0)), some (vI (l1 + (-1 : Int32))), some (vI l2), some (vI l3)] (pushO v []) M9) from ⟨h.1, ?_⟩)
    replace h := h.2
    refine callX_mono (callX_len (d := (d + 1)) rfl rfl rfl (c254 (d := d) h)) ?_
    clear h
    rintro v9 M5 ⟨hl, rfl, h⟩
    replace hM := lenT hM hl
    show R253 sl sx d M0 P 68 [some (vR (some l0)), some (vI (l1 + (-1 : Int32))), some (vI l2), some (vI l3)] [] M5
    refine RN_k (callX_det _) 2 _ _ _ _ (show kd M5 l0 10 ∧ R253 sl sx d M0 P 72 [some (vR (some l0)), some (vI (l1 + (-1 : Int32))), some (vI l2), some (vI l3)] [vR (mR M5 l0 35)] M5 from ⟨h.1, ?_⟩)
    replace h := h.2
    refine RN_k (callX_det _) 4 _ _ _ _ (show callX TBg sl sx (d + 1) 218 [vI (0 : Int32), vI (l1 + (-1 : Int32)), vI l2] M5 (fun v M9 => R253 sl sx d M0 P 78 [some (vR (some l0)), some (vI (l1 + (-1 : Int32))), some (vI l2), some (vI l3)] (pushO v [vR (mR M5 l0 35)]) M9) from ?_)
    refine callX_mono (callX_len (d := (d + 1)) rfl rfl rfl (c218 (d := d) h)) ?_
    clear h
    rintro v9 M6 ⟨hl, r7, rfl, h⟩
    replace hM := lenT hM hl
    show R253 sl sx d M0 P 78 [some (vR (some l0)), some (vI (l1 + (-1 : Int32))), some (vI l2), some (vI l3)] [vI r7, vR (mR M5 l0 35)] M6
    obtain ⟨a8, he, h⟩ := h
    rw [he]
    refine RN_k (callX_det _) 1 _ _ _ _ (show inb M6 a8 14 r7 ∧ R253 sl sx d M0 P 79 [some (vR (some l0)), some (vI (l1 + (-1 : Int32))), some (vI l2), some (vI l3)] [vI (mI M6 a8 r7.toNatClampNeg)] M6 from ⟨h.1, ?_⟩)
    replace h := h.2
    refine RN_k (callX_det _) 1 _ _ _ _ (show ((mI M6 a8 r7.toNatClampNeg) ≠ 0 → R253 sl sx d M0 P 86 [some (vR (some l0)), some (vI (l1 + (-1 : Int32))), some (vI l2), some (vI l3)] [] M6) ∧ (¬ ((mI M6 a8 r7.toNatClampNeg) ≠ 0) → R253 sl sx d M0 P 82 [some (vR (some l0)), some (vI (l1 + (-1 : Int32))), some (vI l2), some (vI l3)] [] M6) from ⟨fun hc => ?_, fun hc => ?_⟩)
    · replace h := h.1 hc
      refine RN_k (callX_det _) 1 _ _ _ _ (show R253 sl sx d M0 P 87 [some (vR (some l0)), some (vI (l1 + (-1 : Int32))), some (vI l2), some (vI l3)] [vI (0 : Int32)] M6 from ?_)
      exact RN_weak (K := [some (vR (some l0)), some (vI (l1 + (-1 : Int32))), some (vI l2), none]) (callX_det _) (show _ ∧ _ ∧ _ ∧ True from ⟨rfl, rfl, rfl, trivial⟩) (t253_87 hk37 l0 (l1 + (-1 : Int32)) l2 (0 : Int32) _ hM h)
    · replace h := h.2 hc
      refine RN_k (callX_det _) 2 _ _ _ _ (show R253 sl sx d M0 P 87 [some (vR (some l0)), some (vI (l1 + (-1 : Int32))), some (vI l2), some (vI l3)] [vI (1 : Int32)] M6 from ?_)
      exact RN_weak (K := [some (vR (some l0)), some (vI (l1 + (-1 : Int32))), some (vI l2), none]) (callX_det _) (show _ ∧ _ ∧ _ ∧ True from ⟨rfl, rfl, rfl, trivial⟩) (t253_87 hk37 l0 (l1 + (-1 : Int32)) l2 (1 : Int32) _ hM h)
def w253_49 (k37 : Nat → Int32 → Int32 → Int32 → MM → Prop) (l0 : Nat) (l1 : Int32) (l2 : Int32) (l3 : Int32) (M : MM) (P : MM → Prop) : Prop := (l2 ≠ 0 → (w253_55 k37 l0 l1 l2 l3 M P)) ∧ (¬ (l2 ≠ 0) → (w253_55 k37 l0 l1 l2 (1 : Int32) M P))
theorem t253_49 {sl : Nat} {sx : Nat → Int32} {d : Nat} {M0 : MM} {P : MM → Prop} {k37 : Nat → Int32 → Int32 → Int32 → MM → Prop} (hk37 : ∀ (l0 : Nat) (l1 : Int32) (l2 : Int32) (l3 : Int32) (M : MM), lenO M0 M → k37 l0 l1 l2 l3 M → R253 sl sx d M0 P 37 [some (vR (some l0)), some (vI l1), some (vI l2), some (vI l3)] [] M) (l0 : Nat) (l1 : Int32) (l2 : Int32) (l3 : Int32) (M : MM) (hM : lenO M0 M) (h : w253_49 k37 l0 l1 l2 l3 M P) : R253 sl sx d M0 P 49 [some (vR (some l0)), some (vI l1), some (vI l2), some (vI l3)] [] M := by
  refine RN_k (callX_det _) 2 _ _ _ _ (show (l2 ≠ 0 → R253 sl sx d M0 P 55 [some (vR (some l0)), some (vI l1), some (vI l2), some (vI l3)] [] M) ∧ (¬ (l2 ≠ 0) → R253 sl sx d M0 P 53 [some (vR (some l0)), some (vI l1), some (vI l2), some (vI l3)] [] M) from ⟨fun hc => ?_, fun hc => ?_⟩)
  · replace h := h.1 hc
    exact RN_weak (K := [some (vR (some l0)), some (vI l1), some (vI l2), some (vI l3)]) (callX_det _) (show _ ∧ _ ∧ _ ∧ _ ∧ True from ⟨rfl, rfl, rfl, rfl, trivial⟩) (t253_55 hk37 l0 l1 l2 l3 _ hM h)
  · replace h := h.2 hc
    refine RN_k (callX_det _) 2 _ _ _ _ (show R253 sl sx d M0 P 55 [some (vR (some l0)), some (vI l1), some (vI l2), some (vI (1 : Int32))] [] M from ?_)
    exact RN_weak (K := [some (vR (some l0)), some (vI l1), some (vI l2), some (vI (1 : Int32))]) (callX_det _) (show _ ∧ _ ∧ _ ∧ _ ∧ True from ⟨rfl, rfl, rfl, rfl, trivial⟩) (t253_55 hk37 l0 l1 l2 (1 : Int32) _ hM h)
def w253_37 : Nat → Nat → Int32 → Int32 → Int32 → MM → (MM → Prop) → Prop
  | 0 => fun _ _ _ _ _ _ => False
  | n + 1 => fun l0 l1 l2 l3 M P => ((l1 + l2) ≤ 0 → (P M)) ∧ (¬ ((l1 + l2) ≤ 0) → ((l1 ≠ 0 → (w253_49 (fun z0 z1 z2 z3 z4 => w253_37  n z0 z1 z2 z3 z4 P) l0 l1 l2 l3 M P)) ∧ (¬ (l1 ≠ 0) → (w253_49 (fun z0 z1 z2 z3 z4 => w253_37  n z0 z1 z2 z3 z4 P) l0 l1 l2 (0 : Int32) M P))))
theorem t253_37 {sl : Nat} {sx : Nat → Int32} {d : Nat} {M0 : MM} {P : MM → Prop} (n : Nat) : ∀ (l0 : Nat) (l1 : Int32) (l2 : Int32) (l3 : Int32) (M : MM) (_ : lenO M0 M) (_ : w253_37  n l0 l1 l2 l3 M P), R253 sl sx d M0 P 37 [some (vR (some l0)), some (vI l1), some (vI l2), some (vI l3)] [] M := by
  induction n with
  | zero => intro l0 l1 l2 l3 M hM h; cases h
  | succ n ih =>
    intro l0 l1 l2 l3 M hM h
    refine RN_k (callX_det _) 4 _ _ _ _ (show ((l1 + l2) ≤ 0 → R253 sl sx d M0 P 115 [some (vR (some l0)), some (vI l1), some (vI l2), some (vI l3)] [] M) ∧ (¬ ((l1 + l2) ≤ 0) → R253 sl sx d M0 P 43 [some (vR (some l0)), some (vI l1), some (vI l2), some (vI l3)] [] M) from ⟨fun hc => ?_, fun hc => ?_⟩)
    · replace h := h.1 hc
      exact RN_k (callX_det _) 1 _ _ _ _ (show rtW q253 M0 (PV P) none M from ⟨rfl, hM.1, hM.2, rfl, h⟩)
    · replace h := h.2 hc
      refine RN_k (callX_det _) 2 _ _ _ _ (show (l1 ≠ 0 → R253 sl sx d M0 P 49 [some (vR (some l0)), some (vI l1), some (vI l2), some (vI l3)] [] M) ∧ (¬ (l1 ≠ 0) → R253 sl sx d M0 P 47 [some (vR (some l0)), some (vI l1), some (vI l2), some (vI l3)] [] M) from ⟨fun hc => ?_, fun hc => ?_⟩)
      · replace h := h.1 hc
        exact RN_weak (K := [some (vR (some l0)), some (vI l1), some (vI l2), some (vI l3)]) (callX_det _) (show _ ∧ _ ∧ _ ∧ _ ∧ True from ⟨rfl, rfl, rfl, rfl, trivial⟩) (t253_49 ih l0 l1 l2 l3 _ hM h)
      · replace h := h.2 hc
        refine RN_k (callX_det _) 2 _ _ _ _ (show R253 sl sx d M0 P 49 [some (vR (some l0)), some (vI l1), some (vI l2), some (vI (0 : Int32))] [] M from ?_)
        exact RN_weak (K := [some (vR (some l0)), some (vI l1), some (vI l2), some (vI (0 : Int32))]) (callX_det _) (show _ ∧ _ ∧ _ ∧ _ ∧ True from ⟨rfl, rfl, rfl, rfl, trivial⟩) (t253_49 ih l0 l1 l2 (0 : Int32) _ hM h)
def w253 (l0 : Nat) (M : MM) (P : MM → Prop) : Prop := kd M l0 10 ∧ (kd (sI M l0 59 (0 : Int32)) l0 10 ∧ (kd (sI M l0 59 (0 : Int32)) l0 10 ∧ (kd (sI M l0 59 (0 : Int32)) l0 10 ∧ w254 l0 ((mI (sI M l0 59 (0 : Int32)) l0 27) - (2 : Int32)) ((mI (sI M l0 59 (0 : Int32)) l0 28) - (2 : Int32)) (sI M l0 59 (0 : Int32)) (fun M1 => kd M1 l0 10 ∧ (w218 (1 : Int32) ((mI (sI M l0 59 (0 : Int32)) l0 27) - (2 : Int32)) ((mI (sI M l0 59 (0 : Int32)) l0 28) - (2 : Int32)) M1 (fun r3 M2 => ∃ a4, mR M1 l0 35 = some a4 ∧ (inb M2 a4 14 r3 ∧ (∃ n2, w253_37  n2 l0 ((mI (sI M l0 59 (0 : Int32)) l0 27) - (2 : Int32)) ((mI (sI M l0 59 (0 : Int32)) l0 28) - (2 : Int32)) (mI M2 a4 r3.toNatClampNeg) M2 P))))))))
theorem t253_E {sl : Nat} {sx : Nat → Int32} {d : Nat} {M0 : MM} {P : MM → Prop} (l0 : Nat) (M : MM) (hM : lenO M0 M) (h : w253  l0 M P) : R253 sl sx d M0 P 0 [some (vR (some l0)), none, none, none] [] M := by
  refine RN_k (callX_det _) 3 _ _ _ _ (show kd M l0 10 ∧ R253 sl sx d M0 P 5 [some (vR (some l0)), none, none, none] [] (sI M l0 59 (0 : Int32)) from ⟨h.1, ?_⟩)
  replace h := h.2
  refine RN_k (callX_det _) 2 _ _ _ _ (show kd (sI M l0 59 (0 : Int32)) l0 10 ∧ R253 sl sx d M0 P 9 [some (vR (some l0)), none, none, none] [vI (mI (sI M l0 59 (0 : Int32)) l0 27)] (sI M l0 59 (0 : Int32)) from ⟨h.1, ?_⟩)
  replace h := h.2
  refine RN_k (callX_det _) 5 _ _ _ _ (show kd (sI M l0 59 (0 : Int32)) l0 10 ∧ R253 sl sx d M0 P 16 [some (vR (some l0)), some (vI ((mI (sI M l0 59 (0 : Int32)) l0 27) - (2 : Int32))), none, none] [vI (mI (sI M l0 59 (0 : Int32)) l0 28)] (sI M l0 59 (0 : Int32)) from ⟨h.1, ?_⟩)
  replace h := h.2
  refine RN_k (callX_det _) 7 _ _ _ _ (show kd (sI M l0 59 (0 : Int32)) l0 10 ∧ callX TBg sl sx (d + 1) 254 [vR (some l0), vI ((mI (sI M l0 59 (0 : Int32)) l0 27) - (2 : Int32)), vI ((mI (sI M l0 59 (0 : Int32)) l0 28) - (2 : Int32))] (sI M l0 59 (0 : Int32)) (fun v M9 => R253 sl sx d M0 P 25 [some (vR (some l0)), some (vI ((mI (sI M l0 59 (0 : Int32)) l0 27) - (2 : Int32))), some (vI ((mI (sI M l0 59 (0 : Int32)) l0 28) - (2 : Int32))), none] (pushO v []) M9) from ⟨h.1, ?_⟩)
  replace h := h.2
  refine callX_mono (callX_len (d := (d + 1)) rfl rfl rfl (c254 (d := d) h)) ?_
  clear h
  rintro v9 M1 ⟨hl, rfl, h⟩
  replace hM := lenT hM hl
  show R253 sl sx d M0 P 25 [some (vR (some l0)), some (vI ((mI (sI M l0 59 (0 : Int32)) l0 27) - (2 : Int32))), some (vI ((mI (sI M l0 59 (0 : Int32)) l0 28) - (2 : Int32))), none] [] M1
  refine RN_k (callX_det _) 2 _ _ _ _ (show kd M1 l0 10 ∧ R253 sl sx d M0 P 29 [some (vR (some l0)), some (vI ((mI (sI M l0 59 (0 : Int32)) l0 27) - (2 : Int32))), some (vI ((mI (sI M l0 59 (0 : Int32)) l0 28) - (2 : Int32))), none] [vR (mR M1 l0 35)] M1 from ⟨h.1, ?_⟩)
  replace h := h.2
  refine RN_k (callX_det _) 4 _ _ _ _ (show callX TBg sl sx (d + 1) 218 [vI (1 : Int32), vI ((mI (sI M l0 59 (0 : Int32)) l0 27) - (2 : Int32)), vI ((mI (sI M l0 59 (0 : Int32)) l0 28) - (2 : Int32))] M1 (fun v M9 => R253 sl sx d M0 P 35 [some (vR (some l0)), some (vI ((mI (sI M l0 59 (0 : Int32)) l0 27) - (2 : Int32))), some (vI ((mI (sI M l0 59 (0 : Int32)) l0 28) - (2 : Int32))), none] (pushO v [vR (mR M1 l0 35)]) M9) from ?_)
  refine callX_mono (callX_len (d := (d + 1)) rfl rfl rfl (c218 (d := d) h)) ?_
  clear h
  rintro v9 M2 ⟨hl, r3, rfl, h⟩
  replace hM := lenT hM hl
  show R253 sl sx d M0 P 35 [some (vR (some l0)), some (vI ((mI (sI M l0 59 (0 : Int32)) l0 27) - (2 : Int32))), some (vI ((mI (sI M l0 59 (0 : Int32)) l0 28) - (2 : Int32))), none] [vI r3, vR (mR M1 l0 35)] M2
  obtain ⟨a4, he, h⟩ := h
  rw [he]
  refine RN_k (callX_det _) 1 _ _ _ _ (show inb M2 a4 14 r3 ∧ R253 sl sx d M0 P 36 [some (vR (some l0)), some (vI ((mI (sI M l0 59 (0 : Int32)) l0 27) - (2 : Int32))), some (vI ((mI (sI M l0 59 (0 : Int32)) l0 28) - (2 : Int32))), none] [vI (mI M2 a4 r3.toNatClampNeg)] M2 from ⟨h.1, ?_⟩)
  replace h := h.2
  refine RN_k (callX_det _) 1 _ _ _ _ (show R253 sl sx d M0 P 37 [some (vR (some l0)), some (vI ((mI (sI M l0 59 (0 : Int32)) l0 27) - (2 : Int32))), some (vI ((mI (sI M l0 59 (0 : Int32)) l0 28) - (2 : Int32))), some (vI (mI M2 a4 r3.toNatClampNeg))] [] M2 from ?_)
  obtain ⟨n2, h⟩ := h
  exact RN_weak (K := [some (vR (some l0)), some (vI ((mI (sI M l0 59 (0 : Int32)) l0 27) - (2 : Int32))), some (vI ((mI (sI M l0 59 (0 : Int32)) l0 28) - (2 : Int32))), some (vI (mI M2 a4 r3.toNatClampNeg))]) (callX_det _) (show _ ∧ _ ∧ _ ∧ _ ∧ True from ⟨rfl, rfl, rfl, rfl, trivial⟩) (t253_37  n2 l0 ((mI (sI M l0 59 (0 : Int32)) l0 27) - (2 : Int32)) ((mI (sI M l0 59 (0 : Int32)) l0 28) - (2 : Int32)) (mI M2 a4 r3.toNatClampNeg) _ hM h)
theorem c253 {sl : Nat} {sx : Nat → Int32} {d : Nat} {l0 : Nat} {M : MM} {P : MM → Prop} (h : w253 l0 M P) : callX TBg sl sx (d + 2) 253 [vR (some l0)] M (PV P) :=
  cX (d := d + 1) q253 (false, tb253) rfl rfl rfl (t253_E l0 M lenR h)
-- TwoLeashModel.walk(IIIIIZ)I
abbrev q252 : MQ7 := (7, 1, 8, 10, 0, 0, 1)
abbrev R252 (sl : Nat) (sx : Nat → Int32) (d : Nat) (M0 : MM) (P : Int32 → MM → Prop) : Nat → LL → List VV → MM → Prop := RN 10 false (mS M0).length (mT M0) 0 0 sl sx (callX TBg sl sx (d + 9)) (rtW q252 M0 (PI P)) (as2 tb252)
def w252_131 (s0 : Option Nat) (s1 : Int32) (M : MM) (P : Int32 → MM → Prop) : Prop := ∃ a1, s0 = some a1 ∧ (kd M a1 10 ∧ w177 a1 s1 M (fun r3 M2 => P r3 M2))
theorem t252_131 {sl : Nat} {sx : Nat → Int32} {d : Nat} {M0 : MM} {P : Int32 → MM → Prop} (s0 : Option Nat) (s1 : Int32) (M : MM) (hM : lenO M0 M) (h : w252_131  s0 s1 M P) : R252 sl sx d M0 P 131 [none, none, none, none, none, none, none, none] [vI s1, vR s0] M := by
  obtain ⟨a1, he, h⟩ := h
  subst he
  refine RN_k (callX_det _) 1 _ _ _ _ (show kd M a1 10 ∧ callX TBg sl sx (d + 9) 177 [vR (some a1), vI s1] M (fun v M9 => R252 sl sx d M0 P 134 [none, none, none, none, none, none, none, none] (pushO v []) M9) from ⟨h.1, ?_⟩)
  replace h := h.2
  refine callX_mono (callX_len (d := (d + 9)) rfl rfl rfl (c177 (d := d + 8) h)) ?_
  clear h
  rintro v9 M2 ⟨hl, r3, rfl, h⟩
  replace hM := lenT hM hl
  show R252 sl sx d M0 P 134 [none, none, none, none, none, none, none, none] [vI r3] M2
  exact RN_k (callX_det _) 1 _ _ _ _ (show rtW q252 M0 (PI P) (some (vI r3)) M2 from ⟨⟨_, rfl⟩, hM.1, hM.2, _, rfl, h⟩)
def w252_19 (l0 : Nat) (l1 : Int32) (l2 : Int32) (l3 : Int32) (l4 : Int32) (l5 : Int32) (l6 : Int32) (s0 : Int32) (M : MM) (P : Int32 → MM → Prop) : Prop := (s0 ≤ 0 → (kd M l0 10 ∧ w211 l0 l1 l2 M (fun M1 => kd M1 l0 10 ∧ w215 l0 l3 l4 M1 (fun M2 => kd M2 l0 10 ∧ w239 l0 (0 : Int32) M2 (fun r4 M3 => (r4 ≠ 0 → (kd M3 l0 10 ∧ w253 l0 M3 (fun M5 => (l5 ≠ (-1 : Int32) → (kd M5 l0 10 ∧ ((l5 < (mI M5 l0 59) → ((l6 = 0 → (kd M5 l0 10 ∧ (kd M5 l0 10 ∧ (∃ a6, mR M5 l0 57 = some a6 ∧ (inb M5 a6 11 (((mI M5 l0 59) - (1 : Int32)) - l5) ∧ (w252_131  (some l0) (mI M5 a6 (((mI M5 l0 59) - (1 : Int32)) - l5).toNatClampNeg) M5 P)))))) ∧ (¬ (l6 = 0) → (kd M5 l0 10 ∧ (kd M5 l0 10 ∧ (∃ a7, mR M5 l0 58 = some a7 ∧ (inb M5 a7 11 (((mI M5 l0 59) - (1 : Int32)) - l5) ∧ (w252_131  (some l0) (mI M5 a7 (((mI M5 l0 59) - (1 : Int32)) - l5).toNatClampNeg) M5 P)))))))) ∧ (¬ (l5 < (mI M5 l0 59)) → (kd M5 l0 10 ∧ w167 l0 (5 : Int32) M5 (fun r9 M8 => P r9 M8)))))) ∧ (¬ (l5 ≠ (-1 : Int32)) → (kd M5 l0 10 ∧ (kd M5 l0 10 ∧ w177 l0 (mI M5 l0 59) M5 (fun r11 M10 => P r11 M10))))))) ∧ (¬ (r4 ≠ 0) → (kd M3 l0 10 ∧ w167 l0 (5 : Int32) M3 (fun r13 M12 => P r13 M12)))))))) ∧ (¬ (s0 ≤ 0) → (kd M l0 10 ∧ w167 l0 s0 M (fun r15 M14 => P r15 M14)))
theorem t252_19 {sl : Nat} {sx : Nat → Int32} {d : Nat} {M0 : MM} {P : Int32 → MM → Prop} (l0 : Nat) (l1 : Int32) (l2 : Int32) (l3 : Int32) (l4 : Int32) (l5 : Int32) (l6 : Int32) (s0 : Int32) (M : MM) (hM : lenO M0 M) (h : w252_19  l0 l1 l2 l3 l4 l5 l6 s0 M P) : R252 sl sx d M0 P 19 [some (vR (some l0)), some (vI l1), some (vI l2), some (vI l3), some (vI l4), some (vI l5), some (vI l6), none] [vI s0] M := by
  refine RN_k (callX_det _) 3 _ _ _ _ (show (s0 ≤ 0 → R252 sl sx d M0 P 33 [some (vR (some l0)), some (vI l1), some (vI l2), some (vI l3), some (vI l4), some (vI l5), some (vI l6), some (vI s0)] [] M) ∧ (¬ (s0 ≤ 0) → R252 sl sx d M0 P 26 [some (vR (some l0)), some (vI l1), some (vI l2), some (vI l3), some (vI l4), some (vI l5), some (vI l6), some (vI s0)] [] M) from ⟨fun hc => ?_, fun hc => ?_⟩)
  · replace h := h.1 hc
    refine RN_k (callX_det _) 4 _ _ _ _ (show kd M l0 10 ∧ callX TBg sl sx (d + 9) 211 [vR (some l0), vI l1, vI l2] M (fun v M9 => R252 sl sx d M0 P 39 [some (vR (some l0)), some (vI l1), some (vI l2), some (vI l3), some (vI l4), some (vI l5), some (vI l6), some (vI s0)] (pushO v []) M9) from ⟨h.1, ?_⟩)
    replace h := h.2
    refine callX_mono (callX_len (d := (d + 9)) rfl rfl rfl (c211 (d := d + 4) h)) ?_
    clear h
    rintro v9 M1 ⟨hl, rfl, h⟩
    replace hM := lenT hM hl
    show R252 sl sx d M0 P 39 [some (vR (some l0)), some (vI l1), some (vI l2), some (vI l3), some (vI l4), some (vI l5), some (vI l6), some (vI s0)] [] M1
    refine RN_k (callX_det _) 4 _ _ _ _ (show kd M1 l0 10 ∧ callX TBg sl sx (d + 9) 215 [vR (some l0), vI l3, vI l4] M1 (fun v M9 => R252 sl sx d M0 P 46 [some (vR (some l0)), some (vI l1), some (vI l2), some (vI l3), some (vI l4), some (vI l5), some (vI l6), some (vI s0)] (pushO v []) M9) from ⟨h.1, ?_⟩)
    replace h := h.2
    refine callX_mono (callX_len (d := (d + 9)) rfl rfl rfl (c215 (d := d + 8) h)) ?_
    clear h
    rintro v9 M2 ⟨hl, rfl, h⟩
    replace hM := lenT hM hl
    show R252 sl sx d M0 P 46 [some (vR (some l0)), some (vI l1), some (vI l2), some (vI l3), some (vI l4), some (vI l5), some (vI l6), some (vI s0)] [] M2
    refine RN_k (callX_det _) 3 _ _ _ _ (show kd M2 l0 10 ∧ callX TBg sl sx (d + 9) 239 [vR (some l0), vI (0 : Int32)] M2 (fun v M9 => R252 sl sx d M0 P 51 [some (vR (some l0)), some (vI l1), some (vI l2), some (vI l3), some (vI l4), some (vI l5), some (vI l6), some (vI s0)] (pushO v []) M9) from ⟨h.1, ?_⟩)
    replace h := h.2
    refine callX_mono (callX_len (d := (d + 9)) rfl rfl rfl (c239 (d := d) h)) ?_
    clear h
    rintro v9 M3 ⟨hl, r4, rfl, h⟩
    replace hM := lenT hM hl
    show R252 sl sx d M0 P 51 [some (vR (some l0)), some (vI l1), some (vI l2), some (vI l3), some (vI l4), some (vI l5), some (vI l6), some (vI s0)] [vI r4] M3
    refine RN_k (callX_det _) 1 _ _ _ _ (show (r4 ≠ 0 → R252 sl sx d M0 P 60 [some (vR (some l0)), some (vI l1), some (vI l2), some (vI l3), some (vI l4), some (vI l5), some (vI l6), some (vI s0)] [] M3) ∧ (¬ (r4 ≠ 0) → R252 sl sx d M0 P 54 [some (vR (some l0)), some (vI l1), some (vI l2), some (vI l3), some (vI l4), some (vI l5), some (vI l6), some (vI s0)] [] M3) from ⟨fun hc => ?_, fun hc => ?_⟩)
    · replace h := h.1 hc
      refine RN_k (callX_det _) 2 _ _ _ _ (show kd M3 l0 10 ∧ callX TBg sl sx (d + 9) 253 [vR (some l0)] M3 (fun v M9 => R252 sl sx d M0 P 64 [some (vR (some l0)), some (vI l1), some (vI l2), some (vI l3), some (vI l4), some (vI l5), some (vI l6), some (vI s0)] (pushO v []) M9) from ⟨h.1, ?_⟩)
      replace h := h.2
      refine callX_mono (callX_len (d := (d + 9)) rfl rfl rfl (c253 (d := d + 7) h)) ?_
      clear h
      rintro v9 M5 ⟨hl, rfl, h⟩
      replace hM := lenT hM hl
      show R252 sl sx d M0 P 64 [some (vR (some l0)), some (vI l1), some (vI l2), some (vI l3), some (vI l4), some (vI l5), some (vI l6), some (vI s0)] [] M5
      refine RN_k (callX_det _) 3 _ _ _ _ (show (l5 ≠ (-1 : Int32) → R252 sl sx d M0 P 79 [some (vR (some l0)), some (vI l1), some (vI l2), some (vI l3), some (vI l4), some (vI l5), some (vI l6), some (vI s0)] [] M5) ∧ (¬ (l5 ≠ (-1 : Int32)) → R252 sl sx d M0 P 70 [some (vR (some l0)), some (vI l1), some (vI l2), some (vI l3), some (vI l4), some (vI l5), some (vI l6), some (vI s0)] [] M5) from ⟨fun hc => ?_, fun hc => ?_⟩)
      · replace h := h.1 hc
        refine RN_k (callX_det _) 3 _ _ _ _ (show kd M5 l0 10 ∧ R252 sl sx d M0 P 85 [some (vR (some l0)), some (vI l1), some (vI l2), some (vI l3), some (vI l4), some (vI l5), some (vI l6), some (vI s0)] [vI (mI M5 l0 59), vI l5] M5 from ⟨h.1, ?_⟩)
        replace h := h.2
        refine RN_k (callX_det _) 1 _ _ _ _ (show (l5 < (mI M5 l0 59) → R252 sl sx d M0 P 94 [some (vR (some l0)), some (vI l1), some (vI l2), some (vI l3), some (vI l4), some (vI l5), some (vI l6), some (vI s0)] [] M5) ∧ (¬ (l5 < (mI M5 l0 59)) → R252 sl sx d M0 P 88 [some (vR (some l0)), some (vI l1), some (vI l2), some (vI l3), some (vI l4), some (vI l5), some (vI l6), some (vI s0)] [] M5) from ⟨fun hc => ?_, fun hc => ?_⟩)
        · replace h := h.1 hc
          refine RN_k (callX_det _) 3 _ _ _ _ (show (l6 = 0 → R252 sl sx d M0 P 117 [some (vR (some l0)), some (vI l1), some (vI l2), some (vI l3), some (vI l4), some (vI l5), some (vI l6), some (vI s0)] [vR (some l0)] M5) ∧ (¬ (l6 = 0) → R252 sl sx d M0 P 100 [some (vR (some l0)), some (vI l1), some (vI l2), some (vI l3), some (vI l4), some (vI l5), some (vI l6), some (vI s0)] [vR (some l0)] M5) from ⟨fun hc => ?_, fun hc => ?_⟩)
          · replace h := h.1 hc
            refine RN_k (callX_det _) 2 _ _ _ _ (show kd M5 l0 10 ∧ R252 sl sx d M0 P 121 [some (vR (some l0)), some (vI l1), some (vI l2), some (vI l3), some (vI l4), some (vI l5), some (vI l6), some (vI s0)] [vR (mR M5 l0 57), vR (some l0)] M5 from ⟨h.1, ?_⟩)
            replace h := h.2
            refine RN_k (callX_det _) 2 _ _ _ _ (show kd M5 l0 10 ∧ R252 sl sx d M0 P 125 [some (vR (some l0)), some (vI l1), some (vI l2), some (vI l3), some (vI l4), some (vI l5), some (vI l6), some (vI s0)] [vI (mI M5 l0 59), vR (mR M5 l0 57), vR (some l0)] M5 from ⟨h.1, ?_⟩)
            replace h := h.2
            obtain ⟨a6, he, h⟩ := h
            refine RN_k (callX_det _) 4 _ _ _ _ (show R252 sl sx d M0 P 130 [some (vR (some l0)), some (vI l1), some (vI l2), some (vI l3), some (vI l4), some (vI l5), some (vI l6), some (vI s0)] [vI (((mI M5 l0 59) - (1 : Int32)) - l5), vR (mR M5 l0 57), vR (some l0)] M5 from ?_)
            rw [he]
            refine RN_k (callX_det _) 1 _ _ _ _ (show inb M5 a6 11 (((mI M5 l0 59) - (1 : Int32)) - l5) ∧ R252 sl sx d M0 P 131 [some (vR (some l0)), some (vI l1), some (vI l2), some (vI l3), some (vI l4), some (vI l5), some (vI l6), some (vI s0)] [vI (mI M5 a6 (((mI M5 l0 59) - (1 : Int32)) - l5).toNatClampNeg), vR (some l0)] M5 from ⟨h.1, ?_⟩)
            replace h := h.2
            exact RN_weak (K := [none, none, none, none, none, none, none, none]) (callX_det _) (show True from trivial) (t252_131  (some l0) (mI M5 a6 (((mI M5 l0 59) - (1 : Int32)) - l5).toNatClampNeg) _ hM h)
          · replace h := h.2 hc
            refine RN_k (callX_det _) 2 _ _ _ _ (show kd M5 l0 10 ∧ R252 sl sx d M0 P 104 [some (vR (some l0)), some (vI l1), some (vI l2), some (vI l3), some (vI l4), some (vI l5), some (vI l6), some (vI s0)] [vR (mR M5 l0 58), vR (some l0)] M5 from ⟨h.1, ?_⟩)
            replace h := h.2
            refine RN_k (callX_det _) 2 _ _ _ _ (show kd M5 l0 10 ∧ R252 sl sx d M0 P 108 [some (vR (some l0)), some (vI l1), some (vI l2), some (vI l3), some (vI l4), some (vI l5), some (vI l6), some (vI s0)] [vI (mI M5 l0 59), vR (mR M5 l0 58), vR (some l0)] M5 from ⟨h.1, ?_⟩)
            replace h := h.2
            obtain ⟨a7, he, h⟩ := h
            refine RN_k (callX_det _) 4 _ _ _ _ (show R252 sl sx d M0 P 113 [some (vR (some l0)), some (vI l1), some (vI l2), some (vI l3), some (vI l4), some (vI l5), some (vI l6), some (vI s0)] [vI (((mI M5 l0 59) - (1 : Int32)) - l5), vR (mR M5 l0 58), vR (some l0)] M5 from ?_)
            rw [he]
            refine RN_k (callX_det _) 1 _ _ _ _ (show inb M5 a7 11 (((mI M5 l0 59) - (1 : Int32)) - l5) ∧ R252 sl sx d M0 P 114 [some (vR (some l0)), some (vI l1), some (vI l2), some (vI l3), some (vI l4), some (vI l5), some (vI l6), some (vI s0)] [vI (mI M5 a7 (((mI M5 l0 59) - (1 : Int32)) - l5).toNatClampNeg), vR (some l0)] M5 from ⟨h.1, ?_⟩)
            replace h := h.2
            refine RN_k (callX_det _) 1 _ _ _ _ (show R252 sl sx d M0 P 131 [some (vR (some l0)), some (vI l1), some (vI l2), some (vI l3), some (vI l4), some (vI l5), some (vI l6), some (vI s0)] [vI (mI M5 a7 (((mI M5 l0 59) - (1 : Int32)) - l5).toNatClampNeg), vR (some l0)] M5 from ?_)
            exact RN_weak (K := [none, none, none, none, none, none, none, none]) (callX_det _) (show True from trivial) (t252_131  (some l0) (mI M5 a7 (((mI M5 l0 59) - (1 : Int32)) - l5).toNatClampNeg) _ hM h)
        · replace h := h.2 hc
          refine RN_k (callX_det _) 3 _ _ _ _ (show kd M5 l0 10 ∧ callX TBg sl sx (d + 9) 167 [vR (some l0), vI (5 : Int32)] M5 (fun v M9 => R252 sl sx d M0 P 93 [some (vR (some l0)), some (vI l1), some (vI l2), some (vI l3), some (vI l4), some (vI l5), some (vI l6), some (vI s0)] (pushO v []) M9) from ⟨h.1, ?_⟩)
          replace h := h.2
          refine callX_mono (callX_len (d := (d + 9)) rfl rfl rfl (c167 (d := d + 8) h)) ?_
          clear h
          rintro v9 M8 ⟨hl, r9, rfl, h⟩
          replace hM := lenT hM hl
          show R252 sl sx d M0 P 93 [some (vR (some l0)), some (vI l1), some (vI l2), some (vI l3), some (vI l4), some (vI l5), some (vI l6), some (vI s0)] [vI r9] M8
          exact RN_k (callX_det _) 1 _ _ _ _ (show rtW q252 M0 (PI P) (some (vI r9)) M8 from ⟨⟨_, rfl⟩, hM.1, hM.2, _, rfl, h⟩)
      · replace h := h.2 hc
        refine RN_k (callX_det _) 3 _ _ _ _ (show kd M5 l0 10 ∧ R252 sl sx d M0 P 75 [some (vR (some l0)), some (vI l1), some (vI l2), some (vI l3), some (vI l4), some (vI l5), some (vI l6), some (vI s0)] [vI (mI M5 l0 59), vR (some l0)] M5 from ⟨h.1, ?_⟩)
        replace h := h.2
        refine RN_k (callX_det _) 1 _ _ _ _ (show kd M5 l0 10 ∧ callX TBg sl sx (d + 9) 177 [vR (some l0), vI (mI M5 l0 59)] M5 (fun v M9 => R252 sl sx d M0 P 78 [some (vR (some l0)), some (vI l1), some (vI l2), some (vI l3), some (vI l4), some (vI l5), some (vI l6), some (vI s0)] (pushO v []) M9) from ⟨h.1, ?_⟩)
        replace h := h.2
        refine callX_mono (callX_len (d := (d + 9)) rfl rfl rfl (c177 (d := d + 8) h)) ?_
        clear h
        rintro v9 M10 ⟨hl, r11, rfl, h⟩
        replace hM := lenT hM hl
        show R252 sl sx d M0 P 78 [some (vR (some l0)), some (vI l1), some (vI l2), some (vI l3), some (vI l4), some (vI l5), some (vI l6), some (vI s0)] [vI r11] M10
        exact RN_k (callX_det _) 1 _ _ _ _ (show rtW q252 M0 (PI P) (some (vI r11)) M10 from ⟨⟨_, rfl⟩, hM.1, hM.2, _, rfl, h⟩)
    · replace h := h.2 hc
      refine RN_k (callX_det _) 3 _ _ _ _ (show kd M3 l0 10 ∧ callX TBg sl sx (d + 9) 167 [vR (some l0), vI (5 : Int32)] M3 (fun v M9 => R252 sl sx d M0 P 59 [some (vR (some l0)), some (vI l1), some (vI l2), some (vI l3), some (vI l4), some (vI l5), some (vI l6), some (vI s0)] (pushO v []) M9) from ⟨h.1, ?_⟩)
      replace h := h.2
      refine callX_mono (callX_len (d := (d + 9)) rfl rfl rfl (c167 (d := d + 8) h)) ?_
      clear h
      rintro v9 M12 ⟨hl, r13, rfl, h⟩
      replace hM := lenT hM hl
      show R252 sl sx d M0 P 59 [some (vR (some l0)), some (vI l1), some (vI l2), some (vI l3), some (vI l4), some (vI l5), some (vI l6), some (vI s0)] [vI r13] M12
      exact RN_k (callX_det _) 1 _ _ _ _ (show rtW q252 M0 (PI P) (some (vI r13)) M12 from ⟨⟨_, rfl⟩, hM.1, hM.2, _, rfl, h⟩)
  · replace h := h.2 hc
    refine RN_k (callX_det _) 3 _ _ _ _ (show kd M l0 10 ∧ callX TBg sl sx (d + 9) 167 [vR (some l0), vI s0] M (fun v M9 => R252 sl sx d M0 P 32 [some (vR (some l0)), some (vI l1), some (vI l2), some (vI l3), some (vI l4), some (vI l5), some (vI l6), some (vI s0)] (pushO v []) M9) from ⟨h.1, ?_⟩)
    replace h := h.2
    refine callX_mono (callX_len (d := (d + 9)) rfl rfl rfl (c167 (d := d + 8) h)) ?_
    clear h
    rintro v9 M14 ⟨hl, r15, rfl, h⟩
    replace hM := lenT hM hl
    show R252 sl sx d M0 P 32 [some (vR (some l0)), some (vI l1), some (vI l2), some (vI l3), some (vI l4), some (vI l5), some (vI l6), some (vI s0)] [vI r15] M14
    exact RN_k (callX_det _) 1 _ _ _ _ (show rtW q252 M0 (PI P) (some (vI r15)) M14 from ⟨⟨_, rfl⟩, hM.1, hM.2, _, rfl, h⟩)
def w252 (l0 : Nat) (l1 : Int32) (l2 : Int32) (l3 : Int32) (l4 : Int32) (l5 : Int32) (l6 : Int32) (M : MM) (P : Int32 → MM → Prop) : Prop := ((-1 : Int32) ≤ l5 → (kd M l0 10 ∧ w237 l0 l1 l2 l3 l4 M (fun r2 M1 => w252_19  l0 l1 l2 l3 l4 l5 l6 r2 M1 P))) ∧ (¬ ((-1 : Int32) ≤ l5) → (w252_19  l0 l1 l2 l3 l4 l5 l6 (1 : Int32) M P))
theorem t252_E {sl : Nat} {sx : Nat → Int32} {d : Nat} {M0 : MM} {P : Int32 → MM → Prop} (l0 : Nat) (l1 : Int32) (l2 : Int32) (l3 : Int32) (l4 : Int32) (l5 : Int32) (l6 : Int32) (M : MM) (hM : lenO M0 M) (h : w252  l0 l1 l2 l3 l4 l5 l6 M P) : R252 sl sx d M0 P 0 [some (vR (some l0)), some (vI l1), some (vI l2), some (vI l3), some (vI l4), some (vI l5), some (vI l6), none] [] M := by
  refine RN_k (callX_det _) 3 _ _ _ _ (show ((-1 : Int32) ≤ l5 → R252 sl sx d M0 P 10 [some (vR (some l0)), some (vI l1), some (vI l2), some (vI l3), some (vI l4), some (vI l5), some (vI l6), none] [] M) ∧ (¬ ((-1 : Int32) ≤ l5) → R252 sl sx d M0 P 6 [some (vR (some l0)), some (vI l1), some (vI l2), some (vI l3), some (vI l4), some (vI l5), some (vI l6), none] [] M) from ⟨fun hc => ?_, fun hc => ?_⟩)
  · replace h := h.1 hc
    refine RN_k (callX_det _) 6 _ _ _ _ (show kd M l0 10 ∧ callX TBg sl sx (d + 9) 237 [vR (some l0), vI l1, vI l2, vI l3, vI l4] M (fun v M9 => R252 sl sx d M0 P 19 [some (vR (some l0)), some (vI l1), some (vI l2), some (vI l3), some (vI l4), some (vI l5), some (vI l6), none] (pushO v []) M9) from ⟨h.1, ?_⟩)
    replace h := h.2
    refine callX_mono (callX_len (d := (d + 9)) rfl rfl rfl (c237 (d := d + 5) h)) ?_
    clear h
    rintro v9 M1 ⟨hl, r2, rfl, h⟩
    replace hM := lenT hM hl
    show R252 sl sx d M0 P 19 [some (vR (some l0)), some (vI l1), some (vI l2), some (vI l3), some (vI l4), some (vI l5), some (vI l6), none] [vI r2] M1
    exact RN_weak (K := [some (vR (some l0)), some (vI l1), some (vI l2), some (vI l3), some (vI l4), some (vI l5), some (vI l6), none]) (callX_det _) (show _ ∧ _ ∧ _ ∧ _ ∧ _ ∧ _ ∧ _ ∧ True from ⟨rfl, rfl, rfl, rfl, rfl, rfl, rfl, trivial⟩) (t252_19  l0 l1 l2 l3 l4 l5 l6 r2 _ hM h)
  · replace h := h.2 hc
    refine RN_k (callX_det _) 2 _ _ _ _ (show R252 sl sx d M0 P 19 [some (vR (some l0)), some (vI l1), some (vI l2), some (vI l3), some (vI l4), some (vI l5), some (vI l6), none] [vI (1 : Int32)] M from ?_)
    exact RN_weak (K := [some (vR (some l0)), some (vI l1), some (vI l2), some (vI l3), some (vI l4), some (vI l5), some (vI l6), none]) (callX_det _) (show _ ∧ _ ∧ _ ∧ _ ∧ _ ∧ _ ∧ _ ∧ True from ⟨rfl, rfl, rfl, rfl, rfl, rfl, rfl, trivial⟩) (t252_19  l0 l1 l2 l3 l4 l5 l6 (1 : Int32) _ hM h)
theorem c252 {sl : Nat} {sx : Nat → Int32} {d : Nat} {l0 : Nat} {l1 : Int32} {l2 : Int32} {l3 : Int32} {l4 : Int32} {l5 : Int32} {l6 : Int32} {M : MM} {P : Int32 → MM → Prop} (h : w252 l0 l1 l2 l3 l4 l5 l6 M P) : callX TBg sl sx (d + 10) 252 [vR (some l0), vI l1, vI l2, vI l3, vI l4, vI l5, vI l6] M (PI P) :=
  cX (d := d + 9) q252 (false, tb252) rfl rfl rfl (t252_E l0 l1 l2 l3 l4 l5 l6 M lenR h)
-- TwoLeashModel.laysHops()V
abbrev q256 : MQ7 := (1, 1, 6, 10, 0, 0, 0)
abbrev R256 (sl : Nat) (sx : Nat → Int32) (d : Nat) (M0 : MM) (P : MM → Prop) : Nat → LL → List VV → MM → Prop := RN 10 false (mS M0).length (mT M0) 0 0 sl sx (callX TBg sl sx (d + 3)) (rtW q256 M0 (PV P)) (as2 tb256)
def w256_143 (k20 : Nat → Int32 → Int32 → Int32 → MM → Prop) (l0 : Nat) (l1 : Int32) (l2 : Int32) (l3 : Int32) (M : MM) (P : MM → Prop) : Prop := kd M l0 10 ∧ w254 l0 l2 l3 M (fun M1 => k20 l0 l1 l2 l3 M1)
theorem t256_143 {sl : Nat} {sx : Nat → Int32} {d : Nat} {M0 : MM} {P : MM → Prop} {k20 : Nat → Int32 → Int32 → Int32 → MM → Prop} (hk20 : ∀ (l0 : Nat) (l1 : Int32) (l2 : Int32) (l3 : Int32) (M : MM), lenO M0 M → k20 l0 l1 l2 l3 M → R256 sl sx d M0 P 20 [some (vR (some l0)), some (vI l1), some (vI l2), some (vI l3), none, none] [] M) (l0 : Nat) (l1 : Int32) (l2 : Int32) (l3 : Int32) (M : MM) (hM : lenO M0 M) (h : w256_143 k20 l0 l1 l2 l3 M P) : R256 sl sx d M0 P 143 [some (vR (some l0)), some (vI l1), some (vI l2), some (vI l3), none, none] [] M := by
  refine RN_k (callX_det _) 4 _ _ _ _ (show kd M l0 10 ∧ callX TBg sl sx (d + 3) 254 [vR (some l0), vI l2, vI l3] M (fun v M9 => R256 sl sx d M0 P 149 [some (vR (some l0)), some (vI l1), some (vI l2), some (vI l3), none, none] (pushO v []) M9) from ⟨h.1, ?_⟩)
  replace h := h.2
  refine callX_mono (callX_len (d := (d + 3)) rfl rfl rfl (c254 (d := d + 2) h)) ?_
  clear h
  rintro v9 M1 ⟨hl, rfl, h⟩
  replace hM := lenT hM hl
  show R256 sl sx d M0 P 149 [some (vR (some l0)), some (vI l1), some (vI l2), some (vI l3), none, none] [] M1
  refine RN_k (callX_det _) 1 _ _ _ _ (show R256 sl sx d M0 P 20 [some (vR (some l0)), some (vI l1), some (vI l2), some (vI l3), none, none] [] M1 from ?_)
  exact RN_weak (K := [some (vR (some l0)), some (vI l1), some (vI l2), some (vI l3), none, none]) (callX_det _) (show _ ∧ _ ∧ _ ∧ _ ∧ True from ⟨rfl, rfl, rfl, rfl, trivial⟩) (hk20 l0 l1 l2 l3 _ hM h)
def w256_140 (k20 : Nat → Int32 → Int32 → Int32 → MM → Prop) (l0 : Nat) (l1 : Int32) (l2 : Int32) (l3 : Int32) (M : MM) (P : MM → Prop) : Prop := w256_143 k20 l0 l1 l2 (l3 + (1 : Int32)) M P
theorem t256_140 {sl : Nat} {sx : Nat → Int32} {d : Nat} {M0 : MM} {P : MM → Prop} {k20 : Nat → Int32 → Int32 → Int32 → MM → Prop} (hk20 : ∀ (l0 : Nat) (l1 : Int32) (l2 : Int32) (l3 : Int32) (M : MM), lenO M0 M → k20 l0 l1 l2 l3 M → R256 sl sx d M0 P 20 [some (vR (some l0)), some (vI l1), some (vI l2), some (vI l3), none, none] [] M) (l0 : Nat) (l1 : Int32) (l2 : Int32) (l3 : Int32) (M : MM) (hM : lenO M0 M) (h : w256_140 k20 l0 l1 l2 l3 M P) : R256 sl sx d M0 P 140 [some (vR (some l0)), some (vI l1), some (vI l2), some (vI l3), none, none] [] M := by
  refine RN_k (callX_det _) 1 _ _ _ _ (show R256 sl sx d M0 P 143 [some (vR (some l0)), some (vI l1), some (vI l2), some (vI (l3 + (1 : Int32))), none, none] [] M from ?_)
  exact RN_weak (K := [some (vR (some l0)), some (vI l1), some (vI l2), some (vI (l3 + (1 : Int32))), none, none]) (callX_det _) (show _ ∧ _ ∧ _ ∧ _ ∧ True from ⟨rfl, rfl, rfl, rfl, trivial⟩) (t256_143 hk20 l0 l1 l2 (l3 + (1 : Int32)) _ hM h)
def w256_111 (k20 : Nat → Int32 → Int32 → Int32 → MM → Prop) (l0 : Nat) (l1 : Int32) (l2 : Int32) (l3 : Int32) (l4 : Int32) (M : MM) (P : MM → Prop) : Prop := (l4 = 0 → (w256_140 k20 l0 l1 l2 l3 M P)) ∧ (¬ (l4 = 0) → (kd M l0 10 ∧ (∃ a1, mR M l0 46 = some a1 ∧ (inb M a1 11 ((((8 : Int32) * l2) + (8 : Int32)) + l3) ∧ ((l1 < (mI M a1 ((((8 : Int32) * l2) + (8 : Int32)) + l3).toNatClampNeg) → (w256_140 k20 l0 l1 l2 l3 M P)) ∧ (¬ (l1 < (mI M a1 ((((8 : Int32) * l2) + (8 : Int32)) + l3).toNatClampNeg)) → (w256_143 k20 l0 l1 (l2 + (1 : Int32)) l3 M P)))))))
theorem t256_111 {sl : Nat} {sx : Nat → Int32} {d : Nat} {M0 : MM} {P : MM → Prop} {k20 : Nat → Int32 → Int32 → Int32 → MM → Prop} (hk20 : ∀ (l0 : Nat) (l1 : Int32) (l2 : Int32) (l3 : Int32) (M : MM), lenO M0 M → k20 l0 l1 l2 l3 M → R256 sl sx d M0 P 20 [some (vR (some l0)), some (vI l1), some (vI l2), some (vI l3), none, none] [] M) (l0 : Nat) (l1 : Int32) (l2 : Int32) (l3 : Int32) (l4 : Int32) (M : MM) (hM : lenO M0 M) (h : w256_111 k20 l0 l1 l2 l3 l4 M P) : R256 sl sx d M0 P 111 [some (vR (some l0)), some (vI l1), some (vI l2), some (vI l3), some (vI l4), none] [] M := by
  refine RN_k (callX_det _) 2 _ _ _ _ (show (l4 = 0 → R256 sl sx d M0 P 140 [some (vR (some l0)), some (vI l1), some (vI l2), some (vI l3), some (vI l4), none] [] M) ∧ (¬ (l4 = 0) → R256 sl sx d M0 P 116 [some (vR (some l0)), some (vI l1), some (vI l2), some (vI l3), some (vI l4), none] [] M) from ⟨fun hc => ?_, fun hc => ?_⟩)
  · replace h := h.1 hc
    exact RN_weak (K := [some (vR (some l0)), some (vI l1), some (vI l2), some (vI l3), none, none]) (callX_det _) (show _ ∧ _ ∧ _ ∧ _ ∧ True from ⟨rfl, rfl, rfl, rfl, trivial⟩) (t256_140 hk20 l0 l1 l2 l3 _ hM h)
  · replace h := h.2 hc
    refine RN_k (callX_det _) 2 _ _ _ _ (show kd M l0 10 ∧ R256 sl sx d M0 P 120 [some (vR (some l0)), some (vI l1), some (vI l2), some (vI l3), some (vI l4), none] [vR (mR M l0 46)] M from ⟨h.1, ?_⟩)
    replace h := h.2
    obtain ⟨a1, he, h⟩ := h
    refine RN_k (callX_det _) 7 _ _ _ _ (show R256 sl sx d M0 P 129 [some (vR (some l0)), some (vI l1), some (vI l2), some (vI l3), some (vI l4), none] [vI ((((8 : Int32) * l2) + (8 : Int32)) + l3), vR (mR M l0 46)] M from ?_)
    rw [he]
    refine RN_k (callX_det _) 1 _ _ _ _ (show inb M a1 11 ((((8 : Int32) * l2) + (8 : Int32)) + l3) ∧ R256 sl sx d M0 P 130 [some (vR (some l0)), some (vI l1), some (vI l2), some (vI l3), some (vI l4), none] [vI (mI M a1 ((((8 : Int32) * l2) + (8 : Int32)) + l3).toNatClampNeg)] M from ⟨h.1, ?_⟩)
    replace h := h.2
    refine RN_k (callX_det _) 2 _ _ _ _ (show (l1 < (mI M a1 ((((8 : Int32) * l2) + (8 : Int32)) + l3).toNatClampNeg) → R256 sl sx d M0 P 140 [some (vR (some l0)), some (vI l1), some (vI l2), some (vI l3), some (vI l4), none] [] M) ∧ (¬ (l1 < (mI M a1 ((((8 : Int32) * l2) + (8 : Int32)) + l3).toNatClampNeg)) → R256 sl sx d M0 P 134 [some (vR (some l0)), some (vI l1), some (vI l2), some (vI l3), some (vI l4), none] [] M) from ⟨fun hc => ?_, fun hc => ?_⟩)
    · replace h := h.1 hc
      exact RN_weak (K := [some (vR (some l0)), some (vI l1), some (vI l2), some (vI l3), none, none]) (callX_det _) (show _ ∧ _ ∧ _ ∧ _ ∧ True from ⟨rfl, rfl, rfl, rfl, trivial⟩) (t256_140 hk20 l0 l1 l2 l3 _ hM h)
    · replace h := h.2 hc
      refine RN_k (callX_det _) 2 _ _ _ _ (show R256 sl sx d M0 P 143 [some (vR (some l0)), some (vI l1), some (vI (l2 + (1 : Int32))), some (vI l3), some (vI l4), none] [] M from ?_)
      exact RN_weak (K := [some (vR (some l0)), some (vI l1), some (vI (l2 + (1 : Int32))), some (vI l3), none, none]) (callX_det _) (show _ ∧ _ ∧ _ ∧ _ ∧ True from ⟨rfl, rfl, rfl, rfl, trivial⟩) (t256_143 hk20 l0 l1 (l2 + (1 : Int32)) l3 _ hM h)
def w256_72 (k20 : Nat → Int32 → Int32 → Int32 → MM → Prop) (l0 : Nat) (l1 : Int32) (l2 : Int32) (l3 : Int32) (l4 : Int32) (s0 : Int32) (M : MM) (P : MM → Prop) : Prop := (l4 = 0 → (w256_111 k20 l0 l1 l2 l3 l4 M P)) ∧ (¬ (l4 = 0) → ((s0 = 0 → (w256_111 k20 l0 l1 l2 l3 l4 M P)) ∧ (¬ (s0 = 0) → (kd M l0 10 ∧ (∃ a1, mR M l0 46 = some a1 ∧ (inb M a1 11 ((((8 : Int32) * l2) + (9 : Int32)) + l3) ∧ ((l1 < (mI M a1 ((((8 : Int32) * l2) + (9 : Int32)) + l3).toNatClampNeg) → (w256_111 k20 l0 l1 l2 l3 l4 M P)) ∧ (¬ (l1 < (mI M a1 ((((8 : Int32) * l2) + (9 : Int32)) + l3).toNatClampNeg)) → (w256_143 k20 l0 l1 (l2 + (1 : Int32)) (l3 + (1 : Int32)) M P)))))))))
theorem t256_72 {sl : Nat} {sx : Nat → Int32} {d : Nat} {M0 : MM} {P : MM → Prop} {k20 : Nat → Int32 → Int32 → Int32 → MM → Prop} (hk20 : ∀ (l0 : Nat) (l1 : Int32) (l2 : Int32) (l3 : Int32) (M : MM), lenO M0 M → k20 l0 l1 l2 l3 M → R256 sl sx d M0 P 20 [some (vR (some l0)), some (vI l1), some (vI l2), some (vI l3), none, none] [] M) (l0 : Nat) (l1 : Int32) (l2 : Int32) (l3 : Int32) (l4 : Int32) (s0 : Int32) (M : MM) (hM : lenO M0 M) (h : w256_72 k20 l0 l1 l2 l3 l4 s0 M P) : R256 sl sx d M0 P 72 [some (vR (some l0)), some (vI l1), some (vI l2), some (vI l3), some (vI l4), none] [vI s0] M := by
  refine RN_k (callX_det _) 3 _ _ _ _ (show (l4 = 0 → R256 sl sx d M0 P 111 [some (vR (some l0)), some (vI l1), some (vI l2), some (vI l3), some (vI l4), some (vI s0)] [] M) ∧ (¬ (l4 = 0) → R256 sl sx d M0 P 79 [some (vR (some l0)), some (vI l1), some (vI l2), some (vI l3), some (vI l4), some (vI s0)] [] M) from ⟨fun hc => ?_, fun hc => ?_⟩)
  · replace h := h.1 hc
    exact RN_weak (K := [some (vR (some l0)), some (vI l1), some (vI l2), some (vI l3), some (vI l4), none]) (callX_det _) (show _ ∧ _ ∧ _ ∧ _ ∧ _ ∧ True from ⟨rfl, rfl, rfl, rfl, rfl, trivial⟩) (t256_111 hk20 l0 l1 l2 l3 l4 _ hM h)
  · replace h := h.2 hc
    refine RN_k (callX_det _) 2 _ _ _ _ (show (s0 = 0 → R256 sl sx d M0 P 111 [some (vR (some l0)), some (vI l1), some (vI l2), some (vI l3), some (vI l4), some (vI s0)] [] M) ∧ (¬ (s0 = 0) → R256 sl sx d M0 P 84 [some (vR (some l0)), some (vI l1), some (vI l2), some (vI l3), some (vI l4), some (vI s0)] [] M) from ⟨fun hc => ?_, fun hc => ?_⟩)
    · replace h := h.1 hc
      exact RN_weak (K := [some (vR (some l0)), some (vI l1), some (vI l2), some (vI l3), some (vI l4), none]) (callX_det _) (show _ ∧ _ ∧ _ ∧ _ ∧ _ ∧ True from ⟨rfl, rfl, rfl, rfl, rfl, trivial⟩) (t256_111 hk20 l0 l1 l2 l3 l4 _ hM h)
    · replace h := h.2 hc
      refine RN_k (callX_det _) 2 _ _ _ _ (show kd M l0 10 ∧ R256 sl sx d M0 P 88 [some (vR (some l0)), some (vI l1), some (vI l2), some (vI l3), some (vI l4), some (vI s0)] [vR (mR M l0 46)] M from ⟨h.1, ?_⟩)
      replace h := h.2
      obtain ⟨a1, he, h⟩ := h
      refine RN_k (callX_det _) 7 _ _ _ _ (show R256 sl sx d M0 P 97 [some (vR (some l0)), some (vI l1), some (vI l2), some (vI l3), some (vI l4), some (vI s0)] [vI ((((8 : Int32) * l2) + (9 : Int32)) + l3), vR (mR M l0 46)] M from ?_)
      rw [he]
      refine RN_k (callX_det _) 1 _ _ _ _ (show inb M a1 11 ((((8 : Int32) * l2) + (9 : Int32)) + l3) ∧ R256 sl sx d M0 P 98 [some (vR (some l0)), some (vI l1), some (vI l2), some (vI l3), some (vI l4), some (vI s0)] [vI (mI M a1 ((((8 : Int32) * l2) + (9 : Int32)) + l3).toNatClampNeg)] M from ⟨h.1, ?_⟩)
      replace h := h.2
      refine RN_k (callX_det _) 2 _ _ _ _ (show (l1 < (mI M a1 ((((8 : Int32) * l2) + (9 : Int32)) + l3).toNatClampNeg) → R256 sl sx d M0 P 111 [some (vR (some l0)), some (vI l1), some (vI l2), some (vI l3), some (vI l4), some (vI s0)] [] M) ∧ (¬ (l1 < (mI M a1 ((((8 : Int32) * l2) + (9 : Int32)) + l3).toNatClampNeg)) → R256 sl sx d M0 P 102 [some (vR (some l0)), some (vI l1), some (vI l2), some (vI l3), some (vI l4), some (vI s0)] [] M) from ⟨fun hc => ?_, fun hc => ?_⟩)
      · replace h := h.1 hc
        exact RN_weak (K := [some (vR (some l0)), some (vI l1), some (vI l2), some (vI l3), some (vI l4), none]) (callX_det _) (show _ ∧ _ ∧ _ ∧ _ ∧ _ ∧ True from ⟨rfl, rfl, rfl, rfl, rfl, trivial⟩) (t256_111 hk20 l0 l1 l2 l3 l4 _ hM h)
      · replace h := h.2 hc
        refine RN_k (callX_det _) 3 _ _ _ _ (show R256 sl sx d M0 P 143 [some (vR (some l0)), some (vI l1), some (vI (l2 + (1 : Int32))), some (vI (l3 + (1 : Int32))), some (vI l4), some (vI s0)] [] M from ?_)
        exact RN_weak (K := [some (vR (some l0)), some (vI l1), some (vI (l2 + (1 : Int32))), some (vI (l3 + (1 : Int32))), none, none]) (callX_det _) (show _ ∧ _ ∧ _ ∧ _ ∧ True from ⟨rfl, rfl, rfl, rfl, trivial⟩) (t256_143 hk20 l0 l1 (l2 + (1 : Int32)) (l3 + (1 : Int32)) _ hM h)
def w256_55 (k20 : Nat → Int32 → Int32 → Int32 → MM → Prop) (l0 : Nat) (l1 : Int32) (l2 : Int32) (l3 : Int32) (s0 : Int32) (M : MM) (P : MM → Prop) : Prop := kd M l0 10 ∧ (((mI M l0 28) ≤ (l3 + (1 : Int32)) → (w256_72 k20 l0 l1 l2 l3 s0 (0 : Int32) M P)) ∧ (¬ ((mI M l0 28) ≤ (l3 + (1 : Int32))) → (w256_72 k20 l0 l1 l2 l3 s0 (1 : Int32) M P)))
theorem t256_55 {sl : Nat} {sx : Nat → Int32} {d : Nat} {M0 : MM} {P : MM → Prop} {k20 : Nat → Int32 → Int32 → Int32 → MM → Prop} (hk20 : ∀ (l0 : Nat) (l1 : Int32) (l2 : Int32) (l3 : Int32) (M : MM), lenO M0 M → k20 l0 l1 l2 l3 M → R256 sl sx d M0 P 20 [some (vR (some l0)), some (vI l1), some (vI l2), some (vI l3), none, none] [] M) (l0 : Nat) (l1 : Int32) (l2 : Int32) (l3 : Int32) (s0 : Int32) (M : MM) (hM : lenO M0 M) (h : w256_55 k20 l0 l1 l2 l3 s0 M P) : R256 sl sx d M0 P 55 [some (vR (some l0)), some (vI l1), some (vI l2), some (vI l3), none, none] [vI s0] M := by
  refine RN_k (callX_det _) 6 _ _ _ _ (show kd M l0 10 ∧ R256 sl sx d M0 P 64 [some (vR (some l0)), some (vI l1), some (vI l2), some (vI l3), some (vI s0), none] [vI (mI M l0 28), vI (l3 + (1 : Int32))] M from ⟨h.1, ?_⟩)
  replace h := h.2
  refine RN_k (callX_det _) 1 _ _ _ _ (show ((mI M l0 28) ≤ (l3 + (1 : Int32)) → R256 sl sx d M0 P 71 [some (vR (some l0)), some (vI l1), some (vI l2), some (vI l3), some (vI s0), none] [] M) ∧ (¬ ((mI M l0 28) ≤ (l3 + (1 : Int32))) → R256 sl sx d M0 P 67 [some (vR (some l0)), some (vI l1), some (vI l2), some (vI l3), some (vI s0), none] [] M) from ⟨fun hc => ?_, fun hc => ?_⟩)
  · replace h := h.1 hc
    refine RN_k (callX_det _) 1 _ _ _ _ (show R256 sl sx d M0 P 72 [some (vR (some l0)), some (vI l1), some (vI l2), some (vI l3), some (vI s0), none] [vI (0 : Int32)] M from ?_)
    exact RN_weak (K := [some (vR (some l0)), some (vI l1), some (vI l2), some (vI l3), some (vI s0), none]) (callX_det _) (show _ ∧ _ ∧ _ ∧ _ ∧ _ ∧ True from ⟨rfl, rfl, rfl, rfl, rfl, trivial⟩) (t256_72 hk20 l0 l1 l2 l3 s0 (0 : Int32) _ hM h)
  · replace h := h.2 hc
    refine RN_k (callX_det _) 2 _ _ _ _ (show R256 sl sx d M0 P 72 [some (vR (some l0)), some (vI l1), some (vI l2), some (vI l3), some (vI s0), none] [vI (1 : Int32)] M from ?_)
    exact RN_weak (K := [some (vR (some l0)), some (vI l1), some (vI l2), some (vI l3), some (vI s0), none]) (callX_det _) (show _ ∧ _ ∧ _ ∧ _ ∧ _ ∧ True from ⟨rfl, rfl, rfl, rfl, rfl, trivial⟩) (t256_72 hk20 l0 l1 l2 l3 s0 (1 : Int32) _ hM h)
def w256_40 (k20 : Nat → Int32 → Int32 → Int32 → MM → Prop) (l0 : Nat) (l1 : Int32) (l2 : Int32) (l3 : Int32) (M : MM) (P : MM → Prop) : Prop := kd M l0 10 ∧ (((mI M l0 27) ≤ (l2 + (1 : Int32)) → (w256_55 k20 l0 l1 l2 l3 (0 : Int32) M P)) ∧ (¬ ((mI M l0 27) ≤ (l2 + (1 : Int32))) → (w256_55 k20 l0 l1 l2 l3 (1 : Int32) M P)))
theorem t256_40 {sl : Nat} {sx : Nat → Int32} {d : Nat} {M0 : MM} {P : MM → Prop} {k20 : Nat → Int32 → Int32 → Int32 → MM → Prop} (hk20 : ∀ (l0 : Nat) (l1 : Int32) (l2 : Int32) (l3 : Int32) (M : MM), lenO M0 M → k20 l0 l1 l2 l3 M → R256 sl sx d M0 P 20 [some (vR (some l0)), some (vI l1), some (vI l2), some (vI l3), none, none] [] M) (l0 : Nat) (l1 : Int32) (l2 : Int32) (l3 : Int32) (M : MM) (hM : lenO M0 M) (h : w256_40 k20 l0 l1 l2 l3 M P) : R256 sl sx d M0 P 40 [some (vR (some l0)), some (vI l1), some (vI l2), some (vI l3), none, none] [] M := by
  refine RN_k (callX_det _) 5 _ _ _ _ (show kd M l0 10 ∧ R256 sl sx d M0 P 47 [some (vR (some l0)), some (vI l1), some (vI l2), some (vI l3), none, none] [vI (mI M l0 27), vI (l2 + (1 : Int32))] M from ⟨h.1, ?_⟩)
  replace h := h.2
  refine RN_k (callX_det _) 1 _ _ _ _ (show ((mI M l0 27) ≤ (l2 + (1 : Int32)) → R256 sl sx d M0 P 54 [some (vR (some l0)), some (vI l1), some (vI l2), some (vI l3), none, none] [] M) ∧ (¬ ((mI M l0 27) ≤ (l2 + (1 : Int32))) → R256 sl sx d M0 P 50 [some (vR (some l0)), some (vI l1), some (vI l2), some (vI l3), none, none] [] M) from ⟨fun hc => ?_, fun hc => ?_⟩)
  · replace h := h.1 hc
    refine RN_k (callX_det _) 1 _ _ _ _ (show R256 sl sx d M0 P 55 [some (vR (some l0)), some (vI l1), some (vI l2), some (vI l3), none, none] [vI (0 : Int32)] M from ?_)
    exact RN_weak (K := [some (vR (some l0)), some (vI l1), some (vI l2), some (vI l3), none, none]) (callX_det _) (show _ ∧ _ ∧ _ ∧ _ ∧ True from ⟨rfl, rfl, rfl, rfl, trivial⟩) (t256_55 hk20 l0 l1 l2 l3 (0 : Int32) _ hM h)
  · replace h := h.2 hc
    refine RN_k (callX_det _) 2 _ _ _ _ (show R256 sl sx d M0 P 55 [some (vR (some l0)), some (vI l1), some (vI l2), some (vI l3), none, none] [vI (1 : Int32)] M from ?_)
    exact RN_weak (K := [some (vR (some l0)), some (vI l1), some (vI l2), some (vI l3), none, none]) (callX_det _) (show _ ∧ _ ∧ _ ∧ _ ∧ True from ⟨rfl, rfl, rfl, rfl, trivial⟩) (t256_55 hk20 l0 l1 l2 l3 (1 : Int32) _ hM h)
def w256_20 : Nat → Nat → Int32 → Int32 → Int32 → MM → (MM → Prop) → Prop
  | 0 => fun _ _ _ _ _ _ => False
  | n + 1 => fun l0 l1 l2 l3 M P => kd M l0 10 ∧ (((l2 + (1 : Int32)) < (mI M l0 27) → (w256_40 (fun z0 z1 z2 z3 z4 => w256_20  n z0 z1 z2 z3 z4 P) l0 l1 l2 l3 M P)) ∧ (¬ ((l2 + (1 : Int32)) < (mI M l0 27)) → (kd M l0 10 ∧ (((mI M l0 28) ≤ (l3 + (1 : Int32)) → (P M)) ∧ (¬ ((mI M l0 28) ≤ (l3 + (1 : Int32))) → (w256_40 (fun z0 z1 z2 z3 z4 => w256_20  n z0 z1 z2 z3 z4 P) l0 l1 l2 l3 M P))))))
theorem t256_20 {sl : Nat} {sx : Nat → Int32} {d : Nat} {M0 : MM} {P : MM → Prop} (n : Nat) : ∀ (l0 : Nat) (l1 : Int32) (l2 : Int32) (l3 : Int32) (M : MM) (_ : lenO M0 M) (_ : w256_20  n l0 l1 l2 l3 M P), R256 sl sx d M0 P 20 [some (vR (some l0)), some (vI l1), some (vI l2), some (vI l3), none, none] [] M := by
  induction n with
  | zero => intro l0 l1 l2 l3 M hM h; cases h
  | succ n ih =>
    intro l0 l1 l2 l3 M hM h
    refine RN_k (callX_det _) 5 _ _ _ _ (show kd M l0 10 ∧ R256 sl sx d M0 P 27 [some (vR (some l0)), some (vI l1), some (vI l2), some (vI l3), none, none] [vI (mI M l0 27), vI (l2 + (1 : Int32))] M from ⟨h.1, ?_⟩)
    replace h := h.2
    refine RN_k (callX_det _) 1 _ _ _ _ (show ((l2 + (1 : Int32)) < (mI M l0 27) → R256 sl sx d M0 P 40 [some (vR (some l0)), some (vI l1), some (vI l2), some (vI l3), none, none] [] M) ∧ (¬ ((l2 + (1 : Int32)) < (mI M l0 27)) → R256 sl sx d M0 P 30 [some (vR (some l0)), some (vI l1), some (vI l2), some (vI l3), none, none] [] M) from ⟨fun hc => ?_, fun hc => ?_⟩)
    · replace h := h.1 hc
      exact RN_weak (K := [some (vR (some l0)), some (vI l1), some (vI l2), some (vI l3), none, none]) (callX_det _) (show _ ∧ _ ∧ _ ∧ _ ∧ True from ⟨rfl, rfl, rfl, rfl, trivial⟩) (t256_40 ih l0 l1 l2 l3 _ hM h)
    · replace h := h.2 hc
      refine RN_k (callX_det _) 5 _ _ _ _ (show kd M l0 10 ∧ R256 sl sx d M0 P 37 [some (vR (some l0)), some (vI l1), some (vI l2), some (vI l3), none, none] [vI (mI M l0 28), vI (l3 + (1 : Int32))] M from ⟨h.1, ?_⟩)
      replace h := h.2
      refine RN_k (callX_det _) 1 _ _ _ _ (show ((mI M l0 28) ≤ (l3 + (1 : Int32)) → R256 sl sx d M0 P 152 [some (vR (some l0)), some (vI l1), some (vI l2), some (vI l3), none, none] [] M) ∧ (¬ ((mI M l0 28) ≤ (l3 + (1 : Int32))) → R256 sl sx d M0 P 40 [some (vR (some l0)), some (vI l1), some (vI l2), some (vI l3), none, none] [] M) from ⟨fun hc => ?_, fun hc => ?_⟩)
      · replace h := h.1 hc
        exact RN_k (callX_det _) 1 _ _ _ _ (show rtW q256 M0 (PV P) none M from ⟨rfl, hM.1, hM.2, rfl, h⟩)
      · replace h := h.2 hc
        exact RN_weak (K := [some (vR (some l0)), some (vI l1), some (vI l2), some (vI l3), none, none]) (callX_det _) (show _ ∧ _ ∧ _ ∧ _ ∧ True from ⟨rfl, rfl, rfl, rfl, trivial⟩) (t256_40 ih l0 l1 l2 l3 _ hM h)
def w256 (l0 : Nat) (M : MM) (P : MM → Prop) : Prop := kd M l0 10 ∧ w241 l0 M (fun r2 M1 => kd M1 l0 10 ∧ (kd (sI M1 l0 59 (0 : Int32)) l0 10 ∧ w254 l0 (0 : Int32) (0 : Int32) (sI M1 l0 59 (0 : Int32)) (fun M3 => ∃ n2, w256_20  n2 l0 r2 (0 : Int32) (0 : Int32) M3 P)))
theorem t256_E {sl : Nat} {sx : Nat → Int32} {d : Nat} {M0 : MM} {P : MM → Prop} (l0 : Nat) (M : MM) (hM : lenO M0 M) (h : w256  l0 M P) : R256 sl sx d M0 P 0 [some (vR (some l0)), none, none, none, none, none] [] M := by
  refine RN_k (callX_det _) 2 _ _ _ _ (show kd M l0 10 ∧ callX TBg sl sx (d + 3) 241 [vR (some l0)] M (fun v M9 => R256 sl sx d M0 P 4 [some (vR (some l0)), none, none, none, none, none] (pushO v []) M9) from ⟨h.1, ?_⟩)
  replace h := h.2
  refine callX_mono (callX_len (d := (d + 3)) rfl rfl rfl (c241 (d := d) h)) ?_
  clear h
  rintro v9 M1 ⟨hl, r2, rfl, h⟩
  replace hM := lenT hM hl
  show R256 sl sx d M0 P 4 [some (vR (some l0)), none, none, none, none, none] [vI r2] M1
  refine RN_k (callX_det _) 4 _ _ _ _ (show kd M1 l0 10 ∧ R256 sl sx d M0 P 10 [some (vR (some l0)), some (vI r2), none, none, none, none] [] (sI M1 l0 59 (0 : Int32)) from ⟨h.1, ?_⟩)
  replace h := h.2
  refine RN_k (callX_det _) 8 _ _ _ _ (show kd (sI M1 l0 59 (0 : Int32)) l0 10 ∧ callX TBg sl sx (d + 3) 254 [vR (some l0), vI (0 : Int32), vI (0 : Int32)] (sI M1 l0 59 (0 : Int32)) (fun v M9 => R256 sl sx d M0 P 20 [some (vR (some l0)), some (vI r2), some (vI (0 : Int32)), some (vI (0 : Int32)), none, none] (pushO v []) M9) from ⟨h.1, ?_⟩)
  replace h := h.2
  refine callX_mono (callX_len (d := (d + 3)) rfl rfl rfl (c254 (d := d + 2) h)) ?_
  clear h
  rintro v9 M3 ⟨hl, rfl, h⟩
  replace hM := lenT hM hl
  show R256 sl sx d M0 P 20 [some (vR (some l0)), some (vI r2), some (vI (0 : Int32)), some (vI (0 : Int32)), none, none] [] M3
  obtain ⟨n2, h⟩ := h
  exact RN_weak (K := [some (vR (some l0)), some (vI r2), some (vI (0 : Int32)), some (vI (0 : Int32)), none, none]) (callX_det _) (show _ ∧ _ ∧ _ ∧ _ ∧ True from ⟨rfl, rfl, rfl, rfl, trivial⟩) (t256_20  n2 l0 r2 (0 : Int32) (0 : Int32) _ hM h)
theorem c256 {sl : Nat} {sx : Nat → Int32} {d : Nat} {l0 : Nat} {M : MM} {P : MM → Prop} (h : w256 l0 M P) : callX TBg sl sx (d + 4) 256 [vR (some l0)] M (PV P) :=
  cX (d := d + 3) q256 (false, tb256) rfl rfl rfl (t256_E l0 M lenR h)
-- TwoLeashModel.hops(IIIZ)I
abbrev q255 : MQ7 := (5, 1, 6, 10, 0, 0, 1)
abbrev R255 (sl : Nat) (sx : Nat → Int32) (d : Nat) (M0 : MM) (P : Int32 → MM → Prop) : Nat → LL → List VV → MM → Prop := RN 10 false (mS M0).length (mT M0) 0 0 sl sx (callX TBg sl sx (d + 5)) (rtW q255 M0 (PI P)) (as2 tb255)
def w255_95 (s0 : Int32) (M : MM) (P : Int32 → MM → Prop) : Prop := P s0 M
theorem t255_95 {sl : Nat} {sx : Nat → Int32} {d : Nat} {M0 : MM} {P : Int32 → MM → Prop} (s0 : Int32) (M : MM) (hM : lenO M0 M) (h : w255_95  s0 M P) : R255 sl sx d M0 P 95 [none, none, none, none, none, none] [vI s0] M := by
  exact RN_k (callX_det _) 1 _ _ _ _ (show rtW q255 M0 (PI P) (some (vI s0)) M from ⟨⟨_, rfl⟩, hM.1, hM.2, _, rfl, h⟩)
def w255_84 (s0 : Option Nat) (s1 : Int32) (M : MM) (P : Int32 → MM → Prop) : Prop := ∃ a1, s0 = some a1 ∧ (kd M a1 10 ∧ w177 a1 s1 M (fun r3 M2 => w255_95  r3 M2 P))
theorem t255_84 {sl : Nat} {sx : Nat → Int32} {d : Nat} {M0 : MM} {P : Int32 → MM → Prop} (s0 : Option Nat) (s1 : Int32) (M : MM) (hM : lenO M0 M) (h : w255_84  s0 s1 M P) : R255 sl sx d M0 P 84 [none, none, none, none, none, none] [vI s1, vR s0] M := by
  obtain ⟨a1, he, h⟩ := h
  subst he
  refine RN_k (callX_det _) 1 _ _ _ _ (show kd M a1 10 ∧ callX TBg sl sx (d + 5) 177 [vR (some a1), vI s1] M (fun v M9 => R255 sl sx d M0 P 87 [none, none, none, none, none, none] (pushO v []) M9) from ⟨h.1, ?_⟩)
  replace h := h.2
  refine callX_mono (callX_len (d := (d + 5)) rfl rfl rfl (c177 (d := d + 4) h)) ?_
  clear h
  rintro v9 M2 ⟨hl, r3, rfl, h⟩
  replace hM := lenT hM hl
  show R255 sl sx d M0 P 87 [none, none, none, none, none, none] [vI r3] M2
  refine RN_k (callX_det _) 1 _ _ _ _ (show R255 sl sx d M0 P 95 [none, none, none, none, none, none] [vI r3] M2 from ?_)
  exact RN_weak (K := [none, none, none, none, none, none]) (callX_det _) (show True from trivial) (t255_95  r3 _ hM h)
def w255_15 (l0 : Nat) (l1 : Int32) (l2 : Int32) (l3 : Int32) (l4 : Int32) (s0 : Int32) (M : MM) (P : Int32 → MM → Prop) : Prop := (s0 ≤ 0 → (kd M l0 10 ∧ w211 l0 l1 l2 M (fun M1 => kd M1 l0 10 ∧ w256 l0 M1 (fun M2 => (l3 ≠ (-1 : Int32) → (kd M2 l0 10 ∧ (((mI M2 l0 59) ≤ l3 → (kd M2 l0 10 ∧ w167 l0 (5 : Int32) M2 (fun r4 M3 => w255_95  r4 M3 P))) ∧ (¬ ((mI M2 l0 59) ≤ l3) → ((l4 = 0 → (kd M2 l0 10 ∧ (∃ a5, mR M2 l0 57 = some a5 ∧ (inb M2 a5 11 l3 ∧ (w255_84  (some l0) (mI M2 a5 l3.toNatClampNeg) M2 P))))) ∧ (¬ (l4 = 0) → (kd M2 l0 10 ∧ (∃ a6, mR M2 l0 58 = some a6 ∧ (inb M2 a6 11 l3 ∧ (w255_84  (some l0) (mI M2 a6 l3.toNatClampNeg) M2 P)))))))))) ∧ (¬ (l3 ≠ (-1 : Int32)) → (kd M2 l0 10 ∧ (kd M2 l0 10 ∧ w177 l0 ((mI M2 l0 59) - (1 : Int32)) M2 (fun r8 M7 => P r8 M7)))))))) ∧ (¬ (s0 ≤ 0) → (kd M l0 10 ∧ w167 l0 s0 M (fun r10 M9 => P r10 M9)))
theorem t255_15 {sl : Nat} {sx : Nat → Int32} {d : Nat} {M0 : MM} {P : Int32 → MM → Prop} (l0 : Nat) (l1 : Int32) (l2 : Int32) (l3 : Int32) (l4 : Int32) (s0 : Int32) (M : MM) (hM : lenO M0 M) (h : w255_15  l0 l1 l2 l3 l4 s0 M P) : R255 sl sx d M0 P 15 [some (vR (some l0)), some (vI l1), some (vI l2), some (vI l3), some (vI l4), none] [vI s0] M := by
  refine RN_k (callX_det _) 3 _ _ _ _ (show (s0 ≤ 0 → R255 sl sx d M0 P 29 [some (vR (some l0)), some (vI l1), some (vI l2), some (vI l3), some (vI l4), some (vI s0)] [] M) ∧ (¬ (s0 ≤ 0) → R255 sl sx d M0 P 22 [some (vR (some l0)), some (vI l1), some (vI l2), some (vI l3), some (vI l4), some (vI s0)] [] M) from ⟨fun hc => ?_, fun hc => ?_⟩)
  · replace h := h.1 hc
    refine RN_k (callX_det _) 4 _ _ _ _ (show kd M l0 10 ∧ callX TBg sl sx (d + 5) 211 [vR (some l0), vI l1, vI l2] M (fun v M9 => R255 sl sx d M0 P 35 [some (vR (some l0)), some (vI l1), some (vI l2), some (vI l3), some (vI l4), some (vI s0)] (pushO v []) M9) from ⟨h.1, ?_⟩)
    replace h := h.2
    refine callX_mono (callX_len (d := (d + 5)) rfl rfl rfl (c211 (d := d) h)) ?_
    clear h
    rintro v9 M1 ⟨hl, rfl, h⟩
    replace hM := lenT hM hl
    show R255 sl sx d M0 P 35 [some (vR (some l0)), some (vI l1), some (vI l2), some (vI l3), some (vI l4), some (vI s0)] [] M1
    refine RN_k (callX_det _) 2 _ _ _ _ (show kd M1 l0 10 ∧ callX TBg sl sx (d + 5) 256 [vR (some l0)] M1 (fun v M9 => R255 sl sx d M0 P 39 [some (vR (some l0)), some (vI l1), some (vI l2), some (vI l3), some (vI l4), some (vI s0)] (pushO v []) M9) from ⟨h.1, ?_⟩)
    replace h := h.2
    refine callX_mono (callX_len (d := (d + 5)) rfl rfl rfl (c256 (d := d + 1) h)) ?_
    clear h
    rintro v9 M2 ⟨hl, rfl, h⟩
    replace hM := lenT hM hl
    show R255 sl sx d M0 P 39 [some (vR (some l0)), some (vI l1), some (vI l2), some (vI l3), some (vI l4), some (vI s0)] [] M2
    refine RN_k (callX_det _) 3 _ _ _ _ (show (l3 ≠ (-1 : Int32) → R255 sl sx d M0 P 55 [some (vR (some l0)), some (vI l1), some (vI l2), some (vI l3), some (vI l4), some (vI s0)] [] M2) ∧ (¬ (l3 ≠ (-1 : Int32)) → R255 sl sx d M0 P 44 [some (vR (some l0)), some (vI l1), some (vI l2), some (vI l3), some (vI l4), some (vI s0)] [] M2) from ⟨fun hc => ?_, fun hc => ?_⟩)
    · replace h := h.1 hc
      refine RN_k (callX_det _) 3 _ _ _ _ (show kd M2 l0 10 ∧ R255 sl sx d M0 P 60 [some (vR (some l0)), some (vI l1), some (vI l2), some (vI l3), some (vI l4), some (vI s0)] [vI (mI M2 l0 59), vI l3] M2 from ⟨h.1, ?_⟩)
      replace h := h.2
      refine RN_k (callX_det _) 1 _ _ _ _ (show ((mI M2 l0 59) ≤ l3 → R255 sl sx d M0 P 90 [some (vR (some l0)), some (vI l1), some (vI l2), some (vI l3), some (vI l4), some (vI s0)] [] M2) ∧ (¬ ((mI M2 l0 59) ≤ l3) → R255 sl sx d M0 P 63 [some (vR (some l0)), some (vI l1), some (vI l2), some (vI l3), some (vI l4), some (vI s0)] [] M2) from ⟨fun hc => ?_, fun hc => ?_⟩)
      · replace h := h.1 hc
        refine RN_k (callX_det _) 3 _ _ _ _ (show kd M2 l0 10 ∧ callX TBg sl sx (d + 5) 167 [vR (some l0), vI (5 : Int32)] M2 (fun v M9 => R255 sl sx d M0 P 95 [some (vR (some l0)), some (vI l1), some (vI l2), some (vI l3), some (vI l4), some (vI s0)] (pushO v []) M9) from ⟨h.1, ?_⟩)
        replace h := h.2
        refine callX_mono (callX_len (d := (d + 5)) rfl rfl rfl (c167 (d := d + 4) h)) ?_
        clear h
        rintro v9 M3 ⟨hl, r4, rfl, h⟩
        replace hM := lenT hM hl
        show R255 sl sx d M0 P 95 [some (vR (some l0)), some (vI l1), some (vI l2), some (vI l3), some (vI l4), some (vI s0)] [vI r4] M3
        exact RN_weak (K := [none, none, none, none, none, none]) (callX_det _) (show True from trivial) (t255_95  r4 _ hM h)
      · replace h := h.2 hc
        refine RN_k (callX_det _) 3 _ _ _ _ (show (l4 = 0 → R255 sl sx d M0 P 78 [some (vR (some l0)), some (vI l1), some (vI l2), some (vI l3), some (vI l4), some (vI s0)] [vR (some l0)] M2) ∧ (¬ (l4 = 0) → R255 sl sx d M0 P 69 [some (vR (some l0)), some (vI l1), some (vI l2), some (vI l3), some (vI l4), some (vI s0)] [vR (some l0)] M2) from ⟨fun hc => ?_, fun hc => ?_⟩)
        · replace h := h.1 hc
          refine RN_k (callX_det _) 2 _ _ _ _ (show kd M2 l0 10 ∧ R255 sl sx d M0 P 82 [some (vR (some l0)), some (vI l1), some (vI l2), some (vI l3), some (vI l4), some (vI s0)] [vR (mR M2 l0 57), vR (some l0)] M2 from ⟨h.1, ?_⟩)
          replace h := h.2
          obtain ⟨a5, he, h⟩ := h
          refine RN_k (callX_det _) 1 _ _ _ _ (show R255 sl sx d M0 P 83 [some (vR (some l0)), some (vI l1), some (vI l2), some (vI l3), some (vI l4), some (vI s0)] [vI l3, vR (mR M2 l0 57), vR (some l0)] M2 from ?_)
          rw [he]
          refine RN_k (callX_det _) 1 _ _ _ _ (show inb M2 a5 11 l3 ∧ R255 sl sx d M0 P 84 [some (vR (some l0)), some (vI l1), some (vI l2), some (vI l3), some (vI l4), some (vI s0)] [vI (mI M2 a5 l3.toNatClampNeg), vR (some l0)] M2 from ⟨h.1, ?_⟩)
          replace h := h.2
          exact RN_weak (K := [none, none, none, none, none, none]) (callX_det _) (show True from trivial) (t255_84  (some l0) (mI M2 a5 l3.toNatClampNeg) _ hM h)
        · replace h := h.2 hc
          refine RN_k (callX_det _) 2 _ _ _ _ (show kd M2 l0 10 ∧ R255 sl sx d M0 P 73 [some (vR (some l0)), some (vI l1), some (vI l2), some (vI l3), some (vI l4), some (vI s0)] [vR (mR M2 l0 58), vR (some l0)] M2 from ⟨h.1, ?_⟩)
          replace h := h.2
          obtain ⟨a6, he, h⟩ := h
          refine RN_k (callX_det _) 1 _ _ _ _ (show R255 sl sx d M0 P 74 [some (vR (some l0)), some (vI l1), some (vI l2), some (vI l3), some (vI l4), some (vI s0)] [vI l3, vR (mR M2 l0 58), vR (some l0)] M2 from ?_)
          rw [he]
          refine RN_k (callX_det _) 1 _ _ _ _ (show inb M2 a6 11 l3 ∧ R255 sl sx d M0 P 75 [some (vR (some l0)), some (vI l1), some (vI l2), some (vI l3), some (vI l4), some (vI s0)] [vI (mI M2 a6 l3.toNatClampNeg), vR (some l0)] M2 from ⟨h.1, ?_⟩)
          replace h := h.2
          refine RN_k (callX_det _) 1 _ _ _ _ (show R255 sl sx d M0 P 84 [some (vR (some l0)), some (vI l1), some (vI l2), some (vI l3), some (vI l4), some (vI s0)] [vI (mI M2 a6 l3.toNatClampNeg), vR (some l0)] M2 from ?_)
          exact RN_weak (K := [none, none, none, none, none, none]) (callX_det _) (show True from trivial) (t255_84  (some l0) (mI M2 a6 l3.toNatClampNeg) _ hM h)
    · replace h := h.2 hc
      refine RN_k (callX_det _) 3 _ _ _ _ (show kd M2 l0 10 ∧ R255 sl sx d M0 P 49 [some (vR (some l0)), some (vI l1), some (vI l2), some (vI l3), some (vI l4), some (vI s0)] [vI (mI M2 l0 59), vR (some l0)] M2 from ⟨h.1, ?_⟩)
      replace h := h.2
      refine RN_k (callX_det _) 3 _ _ _ _ (show kd M2 l0 10 ∧ callX TBg sl sx (d + 5) 177 [vR (some l0), vI ((mI M2 l0 59) - (1 : Int32))] M2 (fun v M9 => R255 sl sx d M0 P 54 [some (vR (some l0)), some (vI l1), some (vI l2), some (vI l3), some (vI l4), some (vI s0)] (pushO v []) M9) from ⟨h.1, ?_⟩)
      replace h := h.2
      refine callX_mono (callX_len (d := (d + 5)) rfl rfl rfl (c177 (d := d + 4) h)) ?_
      clear h
      rintro v9 M7 ⟨hl, r8, rfl, h⟩
      replace hM := lenT hM hl
      show R255 sl sx d M0 P 54 [some (vR (some l0)), some (vI l1), some (vI l2), some (vI l3), some (vI l4), some (vI s0)] [vI r8] M7
      exact RN_k (callX_det _) 1 _ _ _ _ (show rtW q255 M0 (PI P) (some (vI r8)) M7 from ⟨⟨_, rfl⟩, hM.1, hM.2, _, rfl, h⟩)
  · replace h := h.2 hc
    refine RN_k (callX_det _) 3 _ _ _ _ (show kd M l0 10 ∧ callX TBg sl sx (d + 5) 167 [vR (some l0), vI s0] M (fun v M9 => R255 sl sx d M0 P 28 [some (vR (some l0)), some (vI l1), some (vI l2), some (vI l3), some (vI l4), some (vI s0)] (pushO v []) M9) from ⟨h.1, ?_⟩)
    replace h := h.2
    refine callX_mono (callX_len (d := (d + 5)) rfl rfl rfl (c167 (d := d + 4) h)) ?_
    clear h
    rintro v9 M9 ⟨hl, r10, rfl, h⟩
    replace hM := lenT hM hl
    show R255 sl sx d M0 P 28 [some (vR (some l0)), some (vI l1), some (vI l2), some (vI l3), some (vI l4), some (vI s0)] [vI r10] M9
    exact RN_k (callX_det _) 1 _ _ _ _ (show rtW q255 M0 (PI P) (some (vI r10)) M9 from ⟨⟨_, rfl⟩, hM.1, hM.2, _, rfl, h⟩)
def w255 (l0 : Nat) (l1 : Int32) (l2 : Int32) (l3 : Int32) (l4 : Int32) (M : MM) (P : Int32 → MM → Prop) : Prop := ((-1 : Int32) ≤ l3 → (kd M l0 10 ∧ w202 l0 l1 l2 M (fun r2 M1 => w255_15  l0 l1 l2 l3 l4 r2 M1 P))) ∧ (¬ ((-1 : Int32) ≤ l3) → (w255_15  l0 l1 l2 l3 l4 (1 : Int32) M P))
theorem t255_E {sl : Nat} {sx : Nat → Int32} {d : Nat} {M0 : MM} {P : Int32 → MM → Prop} (l0 : Nat) (l1 : Int32) (l2 : Int32) (l3 : Int32) (l4 : Int32) (M : MM) (hM : lenO M0 M) (h : w255  l0 l1 l2 l3 l4 M P) : R255 sl sx d M0 P 0 [some (vR (some l0)), some (vI l1), some (vI l2), some (vI l3), some (vI l4), none] [] M := by
  refine RN_k (callX_det _) 3 _ _ _ _ (show ((-1 : Int32) ≤ l3 → R255 sl sx d M0 P 9 [some (vR (some l0)), some (vI l1), some (vI l2), some (vI l3), some (vI l4), none] [] M) ∧ (¬ ((-1 : Int32) ≤ l3) → R255 sl sx d M0 P 5 [some (vR (some l0)), some (vI l1), some (vI l2), some (vI l3), some (vI l4), none] [] M) from ⟨fun hc => ?_, fun hc => ?_⟩)
  · replace h := h.1 hc
    refine RN_k (callX_det _) 4 _ _ _ _ (show kd M l0 10 ∧ callX TBg sl sx (d + 5) 202 [vR (some l0), vI l1, vI l2] M (fun v M9 => R255 sl sx d M0 P 15 [some (vR (some l0)), some (vI l1), some (vI l2), some (vI l3), some (vI l4), none] (pushO v []) M9) from ⟨h.1, ?_⟩)
    replace h := h.2
    refine callX_mono (callX_len (d := (d + 5)) rfl rfl rfl (c202 (d := d + 2) h)) ?_
    clear h
    rintro v9 M1 ⟨hl, r2, rfl, h⟩
    replace hM := lenT hM hl
    show R255 sl sx d M0 P 15 [some (vR (some l0)), some (vI l1), some (vI l2), some (vI l3), some (vI l4), none] [vI r2] M1
    exact RN_weak (K := [some (vR (some l0)), some (vI l1), some (vI l2), some (vI l3), some (vI l4), none]) (callX_det _) (show _ ∧ _ ∧ _ ∧ _ ∧ _ ∧ True from ⟨rfl, rfl, rfl, rfl, rfl, trivial⟩) (t255_15  l0 l1 l2 l3 l4 r2 _ hM h)
  · replace h := h.2 hc
    refine RN_k (callX_det _) 2 _ _ _ _ (show R255 sl sx d M0 P 15 [some (vR (some l0)), some (vI l1), some (vI l2), some (vI l3), some (vI l4), none] [vI (1 : Int32)] M from ?_)
    exact RN_weak (K := [some (vR (some l0)), some (vI l1), some (vI l2), some (vI l3), some (vI l4), none]) (callX_det _) (show _ ∧ _ ∧ _ ∧ _ ∧ _ ∧ True from ⟨rfl, rfl, rfl, rfl, rfl, trivial⟩) (t255_15  l0 l1 l2 l3 l4 (1 : Int32) _ hM h)
theorem c255 {sl : Nat} {sx : Nat → Int32} {d : Nat} {l0 : Nat} {l1 : Int32} {l2 : Int32} {l3 : Int32} {l4 : Int32} {M : MM} {P : Int32 → MM → Prop} (h : w255 l0 l1 l2 l3 l4 M P) : callX TBg sl sx (d + 6) 255 [vR (some l0), vI l1, vI l2, vI l3, vI l4] M (PI P) :=
  cX (d := d + 5) q255 (false, tb255) rfl rfl rfl (t255_E l0 l1 l2 l3 l4 M lenR h)
-- TwoLeashModel.adds(II)V
abbrev q258 : MQ7 := (3, 1, 3, 10, 0, 0, 0)
abbrev R258 (sl : Nat) (sx : Nat → Int32) (d : Nat) (M0 : MM) (P : MM → Prop) : Nat → LL → List VV → MM → Prop := RN 10 false (mS M0).length (mT M0) 0 0 sl sx (callX TBg sl sx (d + 1)) (rtW q258 M0 (PV P)) (as2 tb258)
def w258_89 (l0 : Nat) (l1 : Int32) (l2 : Int32) (s0 : Option Nat) (s1 : Int32) (s2 : Int64) (M : MM) (P : MM → Prop) : Prop := ∃ a1, s0 = some a1 ∧ (inb M a1 12 s1 ∧ (kd (sL M a1 s1.toNatClampNeg s2) l0 10 ∧ (kd (sL M a1 s1.toNatClampNeg s2) l0 10 ∧ (∃ a2, mR (sL M a1 s1.toNatClampNeg s2) l0 60 = some a2 ∧ (inb (sL M a1 s1.toNatClampNeg s2) a2 11 l2 ∧ (inb (sL M a1 s1.toNatClampNeg s2) a2 11 l1 ∧ (P (sI (sL M a1 s1.toNatClampNeg s2) a2 l1.toNatClampNeg (mI (sL M a1 s1.toNatClampNeg s2) a2 l2.toNatClampNeg)))))))))
theorem t258_89 {sl : Nat} {sx : Nat → Int32} {d : Nat} {M0 : MM} {P : MM → Prop} (l0 : Nat) (l1 : Int32) (l2 : Int32) (s0 : Option Nat) (s1 : Int32) (s2 : Int64) (M : MM) (hM : lenO M0 M) (h : w258_89  l0 l1 l2 s0 s1 s2 M P) : R258 sl sx d M0 P 89 [some (vR (some l0)), some (vI l1), some (vI l2)] [vL s2, vI s1, vR s0] M := by
  obtain ⟨a1, he, h⟩ := h
  subst he
  refine RN_k (callX_det _) 1 _ _ _ _ (show inb M a1 12 s1 ∧ R258 sl sx d M0 P 90 [some (vR (some l0)), some (vI l1), some (vI l2)] [] (sL M a1 s1.toNatClampNeg s2) from ⟨h.1, ?_⟩)
  replace h := h.2
  refine RN_k (callX_det _) 2 _ _ _ _ (show kd (sL M a1 s1.toNatClampNeg s2) l0 10 ∧ R258 sl sx d M0 P 94 [some (vR (some l0)), some (vI l1), some (vI l2)] [vR (mR (sL M a1 s1.toNatClampNeg s2) l0 60)] (sL M a1 s1.toNatClampNeg s2) from ⟨h.1, ?_⟩)
  replace h := h.2
  refine RN_k (callX_det _) 3 _ _ _ _ (show kd (sL M a1 s1.toNatClampNeg s2) l0 10 ∧ R258 sl sx d M0 P 99 [some (vR (some l0)), some (vI l1), some (vI l2)] [vR (mR (sL M a1 s1.toNatClampNeg s2) l0 60), vI l1, vR (mR (sL M a1 s1.toNatClampNeg s2) l0 60)] (sL M a1 s1.toNatClampNeg s2) from ⟨h.1, ?_⟩)
  replace h := h.2
  obtain ⟨a2, he, h⟩ := h
  refine RN_k (callX_det _) 1 _ _ _ _ (show R258 sl sx d M0 P 100 [some (vR (some l0)), some (vI l1), some (vI l2)] [vI l2, vR (mR (sL M a1 s1.toNatClampNeg s2) l0 60), vI l1, vR (mR (sL M a1 s1.toNatClampNeg s2) l0 60)] (sL M a1 s1.toNatClampNeg s2) from ?_)
  rw [he]
  refine RN_k (callX_det _) 1 _ _ _ _ (show inb (sL M a1 s1.toNatClampNeg s2) a2 11 l2 ∧ R258 sl sx d M0 P 101 [some (vR (some l0)), some (vI l1), some (vI l2)] [vI (mI (sL M a1 s1.toNatClampNeg s2) a2 l2.toNatClampNeg), vI l1, vR (some a2)] (sL M a1 s1.toNatClampNeg s2) from ⟨h.1, ?_⟩)
  replace h := h.2
  refine RN_k (callX_det _) 1 _ _ _ _ (show inb (sL M a1 s1.toNatClampNeg s2) a2 11 l1 ∧ R258 sl sx d M0 P 102 [some (vR (some l0)), some (vI l1), some (vI l2)] [] (sI (sL M a1 s1.toNatClampNeg s2) a2 l1.toNatClampNeg (mI (sL M a1 s1.toNatClampNeg s2) a2 l2.toNatClampNeg)) from ⟨h.1, ?_⟩)
  replace h := h.2
  exact RN_k (callX_det _) 1 _ _ _ _ (show rtW q258 M0 (PV P) none (sI (sL M a1 s1.toNatClampNeg s2) a2 l1.toNatClampNeg (mI (sL M a1 s1.toNatClampNeg s2) a2 l2.toNatClampNeg)) from ⟨rfl, hM.1, hM.2, rfl, h⟩)
def w258 (l0 : Nat) (l1 : Int32) (l2 : Int32) (M : MM) (P : MM → Prop) : Prop := kd M l0 10 ∧ (kd M l0 10 ∧ (∃ a1, mR M l0 62 = some a1 ∧ (inb M a1 12 l1 ∧ (kd M l0 10 ∧ (∃ a2, mR M l0 62 = some a2 ∧ (inb M a2 12 l2 ∧ (w52 (1000000000 : Int64) ((mL M a1 l1.toNatClampNeg) + (mL M a2 l2.toNatClampNeg)) M (fun r4 M3 => inb M3 a1 12 l1 ∧ (kd (sL M3 a1 l1.toNatClampNeg r4) l0 10 ∧ (∃ a5, mR (sL M3 a1 l1.toNatClampNeg r4) l0 60 = some a5 ∧ (inb (sL M3 a1 l1.toNatClampNeg r4) a5 11 l2 ∧ (kd (sL M3 a1 l1.toNatClampNeg r4) l0 10 ∧ (∃ a6, mR (sL M3 a1 l1.toNatClampNeg r4) l0 60 = some a6 ∧ (inb (sL M3 a1 l1.toNatClampNeg r4) a6 11 l1 ∧ (((mI (sL M3 a1 l1.toNatClampNeg r4) a5 l2.toNatClampNeg) ≤ (mI (sL M3 a1 l1.toNatClampNeg r4) a6 l1.toNatClampNeg) → (kd (sL M3 a1 l1.toNatClampNeg r4) l0 10 ∧ (kd (sL M3 a1 l1.toNatClampNeg r4) l0 10 ∧ (∃ a7, mR (sL M3 a1 l1.toNatClampNeg r4) l0 60 = some a7 ∧ (inb (sL M3 a1 l1.toNatClampNeg r4) a7 11 l2 ∧ (kd (sL M3 a1 l1.toNatClampNeg r4) l0 10 ∧ (∃ a8, mR (sL M3 a1 l1.toNatClampNeg r4) l0 60 = some a8 ∧ (inb (sL M3 a1 l1.toNatClampNeg r4) a8 11 l1 ∧ (((mI (sL M3 a1 l1.toNatClampNeg r4) a8 l1.toNatClampNeg) ≤ (mI (sL M3 a1 l1.toNatClampNeg r4) a7 l2.toNatClampNeg) → (kd (sL M3 a1 l1.toNatClampNeg r4) l0 10 ∧ (∃ a9, mR (sL M3 a1 l1.toNatClampNeg r4) l0 61 = some a9 ∧ (inb (sL M3 a1 l1.toNatClampNeg r4) a9 12 l1 ∧ (kd (sL M3 a1 l1.toNatClampNeg r4) l0 10 ∧ (∃ a10, mR (sL M3 a1 l1.toNatClampNeg r4) l0 61 = some a10 ∧ (inb (sL M3 a1 l1.toNatClampNeg r4) a10 12 l2 ∧ (w52 (1000000000 : Int64) ((mL (sL M3 a1 l1.toNatClampNeg r4) a9 l1.toNatClampNeg) + (mL (sL M3 a1 l1.toNatClampNeg r4) a10 l2.toNatClampNeg)) (sL M3 a1 l1.toNatClampNeg r4) (fun r12 M11 => w258_89  l0 l1 l2 (some a9) l1 r12 M11 P))))))))) ∧ (¬ ((mI (sL M3 a1 l1.toNatClampNeg r4) a8 l1.toNatClampNeg) ≤ (mI (sL M3 a1 l1.toNatClampNeg r4) a7 l2.toNatClampNeg)) → (kd (sL M3 a1 l1.toNatClampNeg r4) l0 10 ∧ (∃ a13, mR (sL M3 a1 l1.toNatClampNeg r4) l0 61 = some a13 ∧ (inb (sL M3 a1 l1.toNatClampNeg r4) a13 12 l2 ∧ (w258_89  l0 l1 l2 (some a13) l1 (mL (sL M3 a1 l1.toNatClampNeg r4) a13 l2.toNatClampNeg) (sL M3 a1 l1.toNatClampNeg r4) P)))))))))))))) ∧ (¬ ((mI (sL M3 a1 l1.toNatClampNeg r4) a5 l2.toNatClampNeg) ≤ (mI (sL M3 a1 l1.toNatClampNeg r4) a6 l1.toNatClampNeg)) → (P (sL M3 a1 l1.toNatClampNeg r4))))))))))))))))))
theorem t258_E {sl : Nat} {sx : Nat → Int32} {d : Nat} {M0 : MM} {P : MM → Prop} (l0 : Nat) (l1 : Int32) (l2 : Int32) (M : MM) (hM : lenO M0 M) (h : w258  l0 l1 l2 M P) : R258 sl sx d M0 P 0 [some (vR (some l0)), some (vI l1), some (vI l2)] [] M := by
  refine RN_k (callX_det _) 2 _ _ _ _ (show kd M l0 10 ∧ R258 sl sx d M0 P 4 [some (vR (some l0)), some (vI l1), some (vI l2)] [vR (mR M l0 62)] M from ⟨h.1, ?_⟩)
  replace h := h.2
  refine RN_k (callX_det _) 4 _ _ _ _ (show kd M l0 10 ∧ R258 sl sx d M0 P 12 [some (vR (some l0)), some (vI l1), some (vI l2)] [vR (mR M l0 62), vL (1000000000 : Int64), vI l1, vR (mR M l0 62)] M from ⟨h.1, ?_⟩)
  replace h := h.2
  obtain ⟨a1, he, h⟩ := h
  refine RN_k (callX_det _) 1 _ _ _ _ (show R258 sl sx d M0 P 13 [some (vR (some l0)), some (vI l1), some (vI l2)] [vI l1, vR (mR M l0 62), vL (1000000000 : Int64), vI l1, vR (mR M l0 62)] M from ?_)
  rw [he]
  refine RN_k (callX_det _) 1 _ _ _ _ (show inb M a1 12 l1 ∧ R258 sl sx d M0 P 14 [some (vR (some l0)), some (vI l1), some (vI l2)] [vL (mL M a1 l1.toNatClampNeg), vL (1000000000 : Int64), vI l1, vR (some a1)] M from ⟨h.1, ?_⟩)
  replace h := h.2
  refine RN_k (callX_det _) 2 _ _ _ _ (show kd M l0 10 ∧ R258 sl sx d M0 P 18 [some (vR (some l0)), some (vI l1), some (vI l2)] [vR (mR M l0 62), vL (mL M a1 l1.toNatClampNeg), vL (1000000000 : Int64), vI l1, vR (some a1)] M from ⟨h.1, ?_⟩)
  replace h := h.2
  obtain ⟨a2, he, h⟩ := h
  refine RN_k (callX_det _) 1 _ _ _ _ (show R258 sl sx d M0 P 19 [some (vR (some l0)), some (vI l1), some (vI l2)] [vI l2, vR (mR M l0 62), vL (mL M a1 l1.toNatClampNeg), vL (1000000000 : Int64), vI l1, vR (some a1)] M from ?_)
  rw [he]
  refine RN_k (callX_det _) 1 _ _ _ _ (show inb M a2 12 l2 ∧ R258 sl sx d M0 P 20 [some (vR (some l0)), some (vI l1), some (vI l2)] [vL (mL M a2 l2.toNatClampNeg), vL (mL M a1 l1.toNatClampNeg), vL (1000000000 : Int64), vI l1, vR (some a1)] M from ⟨h.1, ?_⟩)
  replace h := h.2
  refine RN_k (callX_det _) 2 _ _ _ _ (show callX TBg sl sx (d + 1) 52 [vL (1000000000 : Int64), vL ((mL M a1 l1.toNatClampNeg) + (mL M a2 l2.toNatClampNeg))] M (fun v M9 => R258 sl sx d M0 P 24 [some (vR (some l0)), some (vI l1), some (vI l2)] (pushO v [vI l1, vR (some a1)]) M9) from ?_)
  refine callX_mono (callX_len (d := (d + 1)) rfl rfl rfl (c52 (d := d) h)) ?_
  clear h
  rintro v9 M3 ⟨hl, r4, rfl, h⟩
  replace hM := lenT hM hl
  show R258 sl sx d M0 P 24 [some (vR (some l0)), some (vI l1), some (vI l2)] [vL r4, vI l1, vR (some a1)] M3
  refine RN_k (callX_det _) 1 _ _ _ _ (show inb M3 a1 12 l1 ∧ R258 sl sx d M0 P 25 [some (vR (some l0)), some (vI l1), some (vI l2)] [] (sL M3 a1 l1.toNatClampNeg r4) from ⟨h.1, ?_⟩)
  replace h := h.2
  refine RN_k (callX_det _) 2 _ _ _ _ (show kd (sL M3 a1 l1.toNatClampNeg r4) l0 10 ∧ R258 sl sx d M0 P 29 [some (vR (some l0)), some (vI l1), some (vI l2)] [vR (mR (sL M3 a1 l1.toNatClampNeg r4) l0 60)] (sL M3 a1 l1.toNatClampNeg r4) from ⟨h.1, ?_⟩)
  replace h := h.2
  obtain ⟨a5, he, h⟩ := h
  refine RN_k (callX_det _) 1 _ _ _ _ (show R258 sl sx d M0 P 30 [some (vR (some l0)), some (vI l1), some (vI l2)] [vI l2, vR (mR (sL M3 a1 l1.toNatClampNeg r4) l0 60)] (sL M3 a1 l1.toNatClampNeg r4) from ?_)
  rw [he]
  refine RN_k (callX_det _) 1 _ _ _ _ (show inb (sL M3 a1 l1.toNatClampNeg r4) a5 11 l2 ∧ R258 sl sx d M0 P 31 [some (vR (some l0)), some (vI l1), some (vI l2)] [vI (mI (sL M3 a1 l1.toNatClampNeg r4) a5 l2.toNatClampNeg)] (sL M3 a1 l1.toNatClampNeg r4) from ⟨h.1, ?_⟩)
  replace h := h.2
  refine RN_k (callX_det _) 2 _ _ _ _ (show kd (sL M3 a1 l1.toNatClampNeg r4) l0 10 ∧ R258 sl sx d M0 P 35 [some (vR (some l0)), some (vI l1), some (vI l2)] [vR (mR (sL M3 a1 l1.toNatClampNeg r4) l0 60), vI (mI (sL M3 a1 l1.toNatClampNeg r4) a5 l2.toNatClampNeg)] (sL M3 a1 l1.toNatClampNeg r4) from ⟨h.1, ?_⟩)
  replace h := h.2
  obtain ⟨a6, he, h⟩ := h
  refine RN_k (callX_det _) 1 _ _ _ _ (show R258 sl sx d M0 P 36 [some (vR (some l0)), some (vI l1), some (vI l2)] [vI l1, vR (mR (sL M3 a1 l1.toNatClampNeg r4) l0 60), vI (mI (sL M3 a1 l1.toNatClampNeg r4) a5 l2.toNatClampNeg)] (sL M3 a1 l1.toNatClampNeg r4) from ?_)
  rw [he]
  refine RN_k (callX_det _) 1 _ _ _ _ (show inb (sL M3 a1 l1.toNatClampNeg r4) a6 11 l1 ∧ R258 sl sx d M0 P 37 [some (vR (some l0)), some (vI l1), some (vI l2)] [vI (mI (sL M3 a1 l1.toNatClampNeg r4) a6 l1.toNatClampNeg), vI (mI (sL M3 a1 l1.toNatClampNeg r4) a5 l2.toNatClampNeg)] (sL M3 a1 l1.toNatClampNeg r4) from ⟨h.1, ?_⟩)
  replace h := h.2
  refine RN_k (callX_det _) 1 _ _ _ _ (show ((mI (sL M3 a1 l1.toNatClampNeg r4) a5 l2.toNatClampNeg) ≤ (mI (sL M3 a1 l1.toNatClampNeg r4) a6 l1.toNatClampNeg) → R258 sl sx d M0 P 41 [some (vR (some l0)), some (vI l1), some (vI l2)] [] (sL M3 a1 l1.toNatClampNeg r4)) ∧ (¬ ((mI (sL M3 a1 l1.toNatClampNeg r4) a5 l2.toNatClampNeg) ≤ (mI (sL M3 a1 l1.toNatClampNeg r4) a6 l1.toNatClampNeg)) → R258 sl sx d M0 P 40 [some (vR (some l0)), some (vI l1), some (vI l2)] [] (sL M3 a1 l1.toNatClampNeg r4)) from ⟨fun hc => ?_, fun hc => ?_⟩)
  · replace h := h.1 hc
    refine RN_k (callX_det _) 2 _ _ _ _ (show kd (sL M3 a1 l1.toNatClampNeg r4) l0 10 ∧ R258 sl sx d M0 P 45 [some (vR (some l0)), some (vI l1), some (vI l2)] [vR (mR (sL M3 a1 l1.toNatClampNeg r4) l0 61)] (sL M3 a1 l1.toNatClampNeg r4) from ⟨h.1, ?_⟩)
    replace h := h.2
    refine RN_k (callX_det _) 3 _ _ _ _ (show kd (sL M3 a1 l1.toNatClampNeg r4) l0 10 ∧ R258 sl sx d M0 P 50 [some (vR (some l0)), some (vI l1), some (vI l2)] [vR (mR (sL M3 a1 l1.toNatClampNeg r4) l0 60), vI l1, vR (mR (sL M3 a1 l1.toNatClampNeg r4) l0 61)] (sL M3 a1 l1.toNatClampNeg r4) from ⟨h.1, ?_⟩)
    replace h := h.2
    obtain ⟨a7, he, h⟩ := h
    refine RN_k (callX_det _) 1 _ _ _ _ (show R258 sl sx d M0 P 51 [some (vR (some l0)), some (vI l1), some (vI l2)] [vI l2, vR (mR (sL M3 a1 l1.toNatClampNeg r4) l0 60), vI l1, vR (mR (sL M3 a1 l1.toNatClampNeg r4) l0 61)] (sL M3 a1 l1.toNatClampNeg r4) from ?_)
    rw [he]
    refine RN_k (callX_det _) 1 _ _ _ _ (show inb (sL M3 a1 l1.toNatClampNeg r4) a7 11 l2 ∧ R258 sl sx d M0 P 52 [some (vR (some l0)), some (vI l1), some (vI l2)] [vI (mI (sL M3 a1 l1.toNatClampNeg r4) a7 l2.toNatClampNeg), vI l1, vR (mR (sL M3 a1 l1.toNatClampNeg r4) l0 61)] (sL M3 a1 l1.toNatClampNeg r4) from ⟨h.1, ?_⟩)
    replace h := h.2
    refine RN_k (callX_det _) 2 _ _ _ _ (show kd (sL M3 a1 l1.toNatClampNeg r4) l0 10 ∧ R258 sl sx d M0 P 56 [some (vR (some l0)), some (vI l1), some (vI l2)] [vR (mR (sL M3 a1 l1.toNatClampNeg r4) l0 60), vI (mI (sL M3 a1 l1.toNatClampNeg r4) a7 l2.toNatClampNeg), vI l1, vR (mR (sL M3 a1 l1.toNatClampNeg r4) l0 61)] (sL M3 a1 l1.toNatClampNeg r4) from ⟨h.1, ?_⟩)
    replace h := h.2
    obtain ⟨a8, he, h⟩ := h
    refine RN_k (callX_det _) 1 _ _ _ _ (show R258 sl sx d M0 P 57 [some (vR (some l0)), some (vI l1), some (vI l2)] [vI l1, vR (mR (sL M3 a1 l1.toNatClampNeg r4) l0 60), vI (mI (sL M3 a1 l1.toNatClampNeg r4) a7 l2.toNatClampNeg), vI l1, vR (mR (sL M3 a1 l1.toNatClampNeg r4) l0 61)] (sL M3 a1 l1.toNatClampNeg r4) from ?_)
    rw [he]
    refine RN_k (callX_det _) 1 _ _ _ _ (show inb (sL M3 a1 l1.toNatClampNeg r4) a8 11 l1 ∧ R258 sl sx d M0 P 58 [some (vR (some l0)), some (vI l1), some (vI l2)] [vI (mI (sL M3 a1 l1.toNatClampNeg r4) a8 l1.toNatClampNeg), vI (mI (sL M3 a1 l1.toNatClampNeg r4) a7 l2.toNatClampNeg), vI l1, vR (mR (sL M3 a1 l1.toNatClampNeg r4) l0 61)] (sL M3 a1 l1.toNatClampNeg r4) from ⟨h.1, ?_⟩)
    replace h := h.2
    refine RN_k (callX_det _) 1 _ _ _ _ (show ((mI (sL M3 a1 l1.toNatClampNeg r4) a8 l1.toNatClampNeg) ≤ (mI (sL M3 a1 l1.toNatClampNeg r4) a7 l2.toNatClampNeg) → R258 sl sx d M0 P 70 [some (vR (some l0)), some (vI l1), some (vI l2)] [vI l1, vR (mR (sL M3 a1 l1.toNatClampNeg r4) l0 61)] (sL M3 a1 l1.toNatClampNeg r4)) ∧ (¬ ((mI (sL M3 a1 l1.toNatClampNeg r4) a8 l1.toNatClampNeg) ≤ (mI (sL M3 a1 l1.toNatClampNeg r4) a7 l2.toNatClampNeg)) → R258 sl sx d M0 P 61 [some (vR (some l0)), some (vI l1), some (vI l2)] [vI l1, vR (mR (sL M3 a1 l1.toNatClampNeg r4) l0 61)] (sL M3 a1 l1.toNatClampNeg r4)) from ⟨fun hc => ?_, fun hc => ?_⟩)
    · replace h := h.1 hc
      refine RN_k (callX_det _) 3 _ _ _ _ (show kd (sL M3 a1 l1.toNatClampNeg r4) l0 10 ∧ R258 sl sx d M0 P 77 [some (vR (some l0)), some (vI l1), some (vI l2)] [vR (mR (sL M3 a1 l1.toNatClampNeg r4) l0 61), vL (1000000000 : Int64), vI l1, vR (mR (sL M3 a1 l1.toNatClampNeg r4) l0 61)] (sL M3 a1 l1.toNatClampNeg r4) from ⟨h.1, ?_⟩)
      replace h := h.2
      obtain ⟨a9, he, h⟩ := h
      refine RN_k (callX_det _) 1 _ _ _ _ (show R258 sl sx d M0 P 78 [some (vR (some l0)), some (vI l1), some (vI l2)] [vI l1, vR (mR (sL M3 a1 l1.toNatClampNeg r4) l0 61), vL (1000000000 : Int64), vI l1, vR (mR (sL M3 a1 l1.toNatClampNeg r4) l0 61)] (sL M3 a1 l1.toNatClampNeg r4) from ?_)
      rw [he]
      refine RN_k (callX_det _) 1 _ _ _ _ (show inb (sL M3 a1 l1.toNatClampNeg r4) a9 12 l1 ∧ R258 sl sx d M0 P 79 [some (vR (some l0)), some (vI l1), some (vI l2)] [vL (mL (sL M3 a1 l1.toNatClampNeg r4) a9 l1.toNatClampNeg), vL (1000000000 : Int64), vI l1, vR (some a9)] (sL M3 a1 l1.toNatClampNeg r4) from ⟨h.1, ?_⟩)
      replace h := h.2
      refine RN_k (callX_det _) 2 _ _ _ _ (show kd (sL M3 a1 l1.toNatClampNeg r4) l0 10 ∧ R258 sl sx d M0 P 83 [some (vR (some l0)), some (vI l1), some (vI l2)] [vR (mR (sL M3 a1 l1.toNatClampNeg r4) l0 61), vL (mL (sL M3 a1 l1.toNatClampNeg r4) a9 l1.toNatClampNeg), vL (1000000000 : Int64), vI l1, vR (some a9)] (sL M3 a1 l1.toNatClampNeg r4) from ⟨h.1, ?_⟩)
      replace h := h.2
      obtain ⟨a10, he, h⟩ := h
      refine RN_k (callX_det _) 1 _ _ _ _ (show R258 sl sx d M0 P 84 [some (vR (some l0)), some (vI l1), some (vI l2)] [vI l2, vR (mR (sL M3 a1 l1.toNatClampNeg r4) l0 61), vL (mL (sL M3 a1 l1.toNatClampNeg r4) a9 l1.toNatClampNeg), vL (1000000000 : Int64), vI l1, vR (some a9)] (sL M3 a1 l1.toNatClampNeg r4) from ?_)
      rw [he]
      refine RN_k (callX_det _) 1 _ _ _ _ (show inb (sL M3 a1 l1.toNatClampNeg r4) a10 12 l2 ∧ R258 sl sx d M0 P 85 [some (vR (some l0)), some (vI l1), some (vI l2)] [vL (mL (sL M3 a1 l1.toNatClampNeg r4) a10 l2.toNatClampNeg), vL (mL (sL M3 a1 l1.toNatClampNeg r4) a9 l1.toNatClampNeg), vL (1000000000 : Int64), vI l1, vR (some a9)] (sL M3 a1 l1.toNatClampNeg r4) from ⟨h.1, ?_⟩)
      replace h := h.2
      refine RN_k (callX_det _) 2 _ _ _ _ (show callX TBg sl sx (d + 1) 52 [vL (1000000000 : Int64), vL ((mL (sL M3 a1 l1.toNatClampNeg r4) a9 l1.toNatClampNeg) + (mL (sL M3 a1 l1.toNatClampNeg r4) a10 l2.toNatClampNeg))] (sL M3 a1 l1.toNatClampNeg r4) (fun v M9 => R258 sl sx d M0 P 89 [some (vR (some l0)), some (vI l1), some (vI l2)] (pushO v [vI l1, vR (some a9)]) M9) from ?_)
      refine callX_mono (callX_len (d := (d + 1)) rfl rfl rfl (c52 (d := d) h)) ?_
      clear h
      rintro v9 M11 ⟨hl, r12, rfl, h⟩
      replace hM := lenT hM hl
      show R258 sl sx d M0 P 89 [some (vR (some l0)), some (vI l1), some (vI l2)] [vL r12, vI l1, vR (some a9)] M11
      exact RN_weak (K := [some (vR (some l0)), some (vI l1), some (vI l2)]) (callX_det _) (show _ ∧ _ ∧ _ ∧ True from ⟨rfl, rfl, rfl, trivial⟩) (t258_89  l0 l1 l2 (some a9) l1 r12 _ hM h)
    · replace h := h.2 hc
      refine RN_k (callX_det _) 2 _ _ _ _ (show kd (sL M3 a1 l1.toNatClampNeg r4) l0 10 ∧ R258 sl sx d M0 P 65 [some (vR (some l0)), some (vI l1), some (vI l2)] [vR (mR (sL M3 a1 l1.toNatClampNeg r4) l0 61), vI l1, vR (mR (sL M3 a1 l1.toNatClampNeg r4) l0 61)] (sL M3 a1 l1.toNatClampNeg r4) from ⟨h.1, ?_⟩)
      replace h := h.2
      obtain ⟨a13, he, h⟩ := h
      refine RN_k (callX_det _) 1 _ _ _ _ (show R258 sl sx d M0 P 66 [some (vR (some l0)), some (vI l1), some (vI l2)] [vI l2, vR (mR (sL M3 a1 l1.toNatClampNeg r4) l0 61), vI l1, vR (mR (sL M3 a1 l1.toNatClampNeg r4) l0 61)] (sL M3 a1 l1.toNatClampNeg r4) from ?_)
      rw [he]
      refine RN_k (callX_det _) 1 _ _ _ _ (show inb (sL M3 a1 l1.toNatClampNeg r4) a13 12 l2 ∧ R258 sl sx d M0 P 67 [some (vR (some l0)), some (vI l1), some (vI l2)] [vL (mL (sL M3 a1 l1.toNatClampNeg r4) a13 l2.toNatClampNeg), vI l1, vR (some a13)] (sL M3 a1 l1.toNatClampNeg r4) from ⟨h.1, ?_⟩)
      replace h := h.2
      refine RN_k (callX_det _) 1 _ _ _ _ (show R258 sl sx d M0 P 89 [some (vR (some l0)), some (vI l1), some (vI l2)] [vL (mL (sL M3 a1 l1.toNatClampNeg r4) a13 l2.toNatClampNeg), vI l1, vR (some a13)] (sL M3 a1 l1.toNatClampNeg r4) from ?_)
      exact RN_weak (K := [some (vR (some l0)), some (vI l1), some (vI l2)]) (callX_det _) (show _ ∧ _ ∧ _ ∧ True from ⟨rfl, rfl, rfl, trivial⟩) (t258_89  l0 l1 l2 (some a13) l1 (mL (sL M3 a1 l1.toNatClampNeg r4) a13 l2.toNatClampNeg) _ hM h)
  · replace h := h.2 hc
    exact RN_k (callX_det _) 1 _ _ _ _ (show rtW q258 M0 (PV P) none (sL M3 a1 l1.toNatClampNeg r4) from ⟨rfl, hM.1, hM.2, rfl, h⟩)
theorem c258 {sl : Nat} {sx : Nat → Int32} {d : Nat} {l0 : Nat} {l1 : Int32} {l2 : Int32} {M : MM} {P : MM → Prop} (h : w258 l0 l1 l2 M P) : callX TBg sl sx (d + 2) 258 [vR (some l0), vI l1, vI l2] M (PV P) :=
  cX (d := d + 1) q258 (false, tb258) rfl rfl rfl (t258_E l0 l1 l2 M lenR h)
-- TwoLeashModel.sums(III)I
abbrev q257 : MQ7 := (4, 1, 9, 10, 0, 0, 1)
abbrev R257 (sl : Nat) (sx : Nat → Int32) (d : Nat) (M0 : MM) (P : Int32 → MM → Prop) : Nat → LL → List VV → MM → Prop := RN 10 false (mS M0).length (mT M0) 0 0 sl sx (callX TBg sl sx (d + 5)) (rtW q257 M0 (PI P)) (as2 tb257)
def w257_276 (s0 : Option Nat) (s1 : Int32) (M : MM) (P : Int32 → MM → Prop) : Prop := ∃ a1, s0 = some a1 ∧ (kd M a1 10 ∧ w177 a1 s1 M (fun r3 M2 => P r3 M2))
theorem t257_276 {sl : Nat} {sx : Nat → Int32} {d : Nat} {M0 : MM} {P : Int32 → MM → Prop} (s0 : Option Nat) (s1 : Int32) (M : MM) (hM : lenO M0 M) (h : w257_276  s0 s1 M P) : R257 sl sx d M0 P 276 [none, none, none, none, none, none, none, none, none] [vI s1, vR s0] M := by
  obtain ⟨a1, he, h⟩ := h
  subst he
  refine RN_k (callX_det _) 1 _ _ _ _ (show kd M a1 10 ∧ callX TBg sl sx (d + 5) 177 [vR (some a1), vI s1] M (fun v M9 => R257 sl sx d M0 P 279 [none, none, none, none, none, none, none, none, none] (pushO v []) M9) from ⟨h.1, ?_⟩)
  replace h := h.2
  refine callX_mono (callX_len (d := (d + 5)) rfl rfl rfl (c177 (d := d + 4) h)) ?_
  clear h
  rintro v9 M2 ⟨hl, r3, rfl, h⟩
  replace hM := lenT hM hl
  show R257 sl sx d M0 P 279 [none, none, none, none, none, none, none, none, none] [vI r3] M2
  exact RN_k (callX_det _) 1 _ _ _ _ (show rtW q257 M0 (PI P) (some (vI r3)) M2 from ⟨⟨_, rfl⟩, hM.1, hM.2, _, rfl, h⟩)
def w257_275 (s0 : Option Nat) (s1 : Int64) (M : MM) (P : Int32 → MM → Prop) : Prop := w257_276  s0 s1.toInt32 M P
theorem t257_275 {sl : Nat} {sx : Nat → Int32} {d : Nat} {M0 : MM} {P : Int32 → MM → Prop} (s0 : Option Nat) (s1 : Int64) (M : MM) (hM : lenO M0 M) (h : w257_275  s0 s1 M P) : R257 sl sx d M0 P 275 [none, none, none, none, none, none, none, none, none] [vL s1, vR s0] M := by
  refine RN_k (callX_det _) 1 _ _ _ _ (show R257 sl sx d M0 P 276 [none, none, none, none, none, none, none, none, none] [vI s1.toInt32, vR s0] M from ?_)
  exact RN_weak (K := [none, none, none, none, none, none, none, none, none]) (callX_det _) (show True from trivial) (t257_276  s0 s1.toInt32 _ hM h)
def w257_190 (k42 : Nat → Int32 → Int32 → MM → Prop) (k54 : Nat → Int32 → Int32 → Int32 → MM → Prop) (l0 : Nat) (l3 : Int32) (l5 : Int32) (l6 : Int32) (l7 : Int32) (M : MM) (P : Int32 → MM → Prop) : Prop := kd M l0 10 ∧ (∃ a1, mR M l0 60 = some a1 ∧ (inb M a1 11 l7 ∧ (kd M l0 10 ∧ w231 l0 l5 l6 M (fun r3 M2 => inb M2 a1 11 l7 ∧ (k54 l0 l3 l5 (l6 + (1 : Int32)) (sI M2 a1 l7.toNatClampNeg ((mI M a1 l7.toNatClampNeg) + r3)))))))
theorem t257_190 {sl : Nat} {sx : Nat → Int32} {d : Nat} {M0 : MM} {P : Int32 → MM → Prop} {k42 : Nat → Int32 → Int32 → MM → Prop} {k54 : Nat → Int32 → Int32 → Int32 → MM → Prop} (hk42 : ∀ (l0 : Nat) (l3 : Int32) (l5 : Int32) (M : MM), lenO M0 M → k42 l0 l3 l5 M → R257 sl sx d M0 P 42 [some (vR (some l0)), none, none, some (vI l3), none, some (vI l5), none, none, none] [] M) (hk54 : ∀ (l0 : Nat) (l3 : Int32) (l5 : Int32) (l6 : Int32) (M : MM), lenO M0 M → k54 l0 l3 l5 l6 M → R257 sl sx d M0 P 54 [some (vR (some l0)), none, none, some (vI l3), none, some (vI l5), some (vI l6), none, none] [] M) (l0 : Nat) (l3 : Int32) (l5 : Int32) (l6 : Int32) (l7 : Int32) (M : MM) (hM : lenO M0 M) (h : w257_190 k42 k54 l0 l3 l5 l6 l7 M P) : R257 sl sx d M0 P 190 [some (vR (some l0)), none, none, some (vI l3), none, some (vI l5), some (vI l6), some (vI l7), none] [] M := by
  refine RN_k (callX_det _) 2 _ _ _ _ (show kd M l0 10 ∧ R257 sl sx d M0 P 194 [some (vR (some l0)), none, none, some (vI l3), none, some (vI l5), some (vI l6), some (vI l7), none] [vR (mR M l0 60)] M from ⟨h.1, ?_⟩)
  replace h := h.2
  obtain ⟨a1, he, h⟩ := h
  refine RN_k (callX_det _) 2 _ _ _ _ (show R257 sl sx d M0 P 197 [some (vR (some l0)), none, none, some (vI l3), none, some (vI l5), some (vI l6), some (vI l7), none] [vI l7, vR (mR M l0 60), vI l7, vR (mR M l0 60)] M from ?_)
  rw [he]
  refine RN_k (callX_det _) 1 _ _ _ _ (show inb M a1 11 l7 ∧ R257 sl sx d M0 P 198 [some (vR (some l0)), none, none, some (vI l3), none, some (vI l5), some (vI l6), some (vI l7), none] [vI (mI M a1 l7.toNatClampNeg), vI l7, vR (some a1)] M from ⟨h.1, ?_⟩)
  replace h := h.2
  refine RN_k (callX_det _) 4 _ _ _ _ (show kd M l0 10 ∧ callX TBg sl sx (d + 5) 231 [vR (some l0), vI l5, vI l6] M (fun v M9 => R257 sl sx d M0 P 206 [some (vR (some l0)), none, none, some (vI l3), none, some (vI l5), some (vI l6), some (vI l7), none] (pushO v [vI (mI M a1 l7.toNatClampNeg), vI l7, vR (some a1)]) M9) from ⟨h.1, ?_⟩)
  replace h := h.2
  refine callX_mono (callX_len (d := (d + 5)) rfl rfl rfl (c231 (d := d + 3) h)) ?_
  clear h
  rintro v9 M2 ⟨hl, r3, rfl, h⟩
  replace hM := lenT hM hl
  show R257 sl sx d M0 P 206 [some (vR (some l0)), none, none, some (vI l3), none, some (vI l5), some (vI l6), some (vI l7), none] [vI r3, vI (mI M a1 l7.toNatClampNeg), vI l7, vR (some a1)] M2
  refine RN_k (callX_det _) 2 _ _ _ _ (show inb M2 a1 11 l7 ∧ R257 sl sx d M0 P 208 [some (vR (some l0)), none, none, some (vI l3), none, some (vI l5), some (vI l6), some (vI l7), none] [] (sI M2 a1 l7.toNatClampNeg ((mI M a1 l7.toNatClampNeg) + r3)) from ⟨h.1, ?_⟩)
  replace h := h.2
  refine RN_k (callX_det _) 2 _ _ _ _ (show R257 sl sx d M0 P 54 [some (vR (some l0)), none, none, some (vI l3), none, some (vI l5), some (vI (l6 + (1 : Int32))), some (vI l7), none] [] (sI M2 a1 l7.toNatClampNeg ((mI M a1 l7.toNatClampNeg) + r3)) from ?_)
  exact RN_weak (K := [some (vR (some l0)), none, none, some (vI l3), none, some (vI l5), some (vI (l6 + (1 : Int32))), none, none]) (callX_det _) (show _ ∧ _ ∧ _ ∧ _ ∧ True from ⟨rfl, rfl, rfl, rfl, trivial⟩) (hk54 l0 l3 l5 (l6 + (1 : Int32)) _ hM h)
def w257_175 (k42 : Nat → Int32 → Int32 → MM → Prop) (k54 : Nat → Int32 → Int32 → Int32 → MM → Prop) (l0 : Nat) (l3 : Int32) (l5 : Int32) (l6 : Int32) (l7 : Int32) (M : MM) (P : Int32 → MM → Prop) : Prop := (l6 ≤ 0 → (w257_190 k42 k54 l0 l3 l5 l6 l7 M P)) ∧ (¬ (l6 ≤ 0) → (kd M l0 10 ∧ w258 l0 l7 (l7 - (1 : Int32)) M (fun M1 => w257_190 k42 k54 l0 l3 l5 l6 l7 M1 P)))
theorem t257_175 {sl : Nat} {sx : Nat → Int32} {d : Nat} {M0 : MM} {P : Int32 → MM → Prop} {k42 : Nat → Int32 → Int32 → MM → Prop} {k54 : Nat → Int32 → Int32 → Int32 → MM → Prop} (hk42 : ∀ (l0 : Nat) (l3 : Int32) (l5 : Int32) (M : MM), lenO M0 M → k42 l0 l3 l5 M → R257 sl sx d M0 P 42 [some (vR (some l0)), none, none, some (vI l3), none, some (vI l5), none, none, none] [] M) (hk54 : ∀ (l0 : Nat) (l3 : Int32) (l5 : Int32) (l6 : Int32) (M : MM), lenO M0 M → k54 l0 l3 l5 l6 M → R257 sl sx d M0 P 54 [some (vR (some l0)), none, none, some (vI l3), none, some (vI l5), some (vI l6), none, none] [] M) (l0 : Nat) (l3 : Int32) (l5 : Int32) (l6 : Int32) (l7 : Int32) (M : MM) (hM : lenO M0 M) (h : w257_175 k42 k54 l0 l3 l5 l6 l7 M P) : R257 sl sx d M0 P 175 [some (vR (some l0)), none, none, some (vI l3), none, some (vI l5), some (vI l6), some (vI l7), none] [] M := by
  refine RN_k (callX_det _) 2 _ _ _ _ (show (l6 ≤ 0 → R257 sl sx d M0 P 190 [some (vR (some l0)), none, none, some (vI l3), none, some (vI l5), some (vI l6), some (vI l7), none] [] M) ∧ (¬ (l6 ≤ 0) → R257 sl sx d M0 P 180 [some (vR (some l0)), none, none, some (vI l3), none, some (vI l5), some (vI l6), some (vI l7), none] [] M) from ⟨fun hc => ?_, fun hc => ?_⟩)
  · replace h := h.1 hc
    exact RN_weak (K := [some (vR (some l0)), none, none, some (vI l3), none, some (vI l5), some (vI l6), some (vI l7), none]) (callX_det _) (show _ ∧ _ ∧ _ ∧ _ ∧ _ ∧ True from ⟨rfl, rfl, rfl, rfl, rfl, trivial⟩) (t257_190 hk42 hk54 l0 l3 l5 l6 l7 _ hM h)
  · replace h := h.2 hc
    refine RN_k (callX_det _) 6 _ _ _ _ (show kd M l0 10 ∧ callX TBg sl sx (d + 5) 258 [vR (some l0), vI l7, vI (l7 - (1 : Int32))] M (fun v M9 => R257 sl sx d M0 P 190 [some (vR (some l0)), none, none, some (vI l3), none, some (vI l5), some (vI l6), some (vI l7), none] (pushO v []) M9) from ⟨h.1, ?_⟩)
    replace h := h.2
    refine callX_mono (callX_len (d := (d + 5)) rfl rfl rfl (c258 (d := d + 3) h)) ?_
    clear h
    rintro v9 M1 ⟨hl, rfl, h⟩
    replace hM := lenT hM hl
    show R257 sl sx d M0 P 190 [some (vR (some l0)), none, none, some (vI l3), none, some (vI l5), some (vI l6), some (vI l7), none] [] M1
    exact RN_weak (K := [some (vR (some l0)), none, none, some (vI l3), none, some (vI l5), some (vI l6), some (vI l7), none]) (callX_det _) (show _ ∧ _ ∧ _ ∧ _ ∧ _ ∧ True from ⟨rfl, rfl, rfl, rfl, rfl, trivial⟩) (t257_190 hk42 hk54 l0 l3 l5 l6 l7 _ hM h)
def w257_159 (k42 : Nat → Int32 → Int32 → MM → Prop) (k54 : Nat → Int32 → Int32 → Int32 → MM → Prop) (l0 : Nat) (l3 : Int32) (l5 : Int32) (l6 : Int32) (l7 : Int32) (M : MM) (P : Int32 → MM → Prop) : Prop := (l5 ≤ 0 → (w257_175 k42 k54 l0 l3 l5 l6 l7 M P)) ∧ (¬ (l5 ≤ 0) → (kd M l0 10 ∧ w258 l0 l7 (l7 - (8 : Int32)) M (fun M1 => w257_175 k42 k54 l0 l3 l5 l6 l7 M1 P)))
theorem t257_159 {sl : Nat} {sx : Nat → Int32} {d : Nat} {M0 : MM} {P : Int32 → MM → Prop} {k42 : Nat → Int32 → Int32 → MM → Prop} {k54 : Nat → Int32 → Int32 → Int32 → MM → Prop} (hk42 : ∀ (l0 : Nat) (l3 : Int32) (l5 : Int32) (M : MM), lenO M0 M → k42 l0 l3 l5 M → R257 sl sx d M0 P 42 [some (vR (some l0)), none, none, some (vI l3), none, some (vI l5), none, none, none] [] M) (hk54 : ∀ (l0 : Nat) (l3 : Int32) (l5 : Int32) (l6 : Int32) (M : MM), lenO M0 M → k54 l0 l3 l5 l6 M → R257 sl sx d M0 P 54 [some (vR (some l0)), none, none, some (vI l3), none, some (vI l5), some (vI l6), none, none] [] M) (l0 : Nat) (l3 : Int32) (l5 : Int32) (l6 : Int32) (l7 : Int32) (M : MM) (hM : lenO M0 M) (h : w257_159 k42 k54 l0 l3 l5 l6 l7 M P) : R257 sl sx d M0 P 159 [some (vR (some l0)), none, none, some (vI l3), none, some (vI l5), some (vI l6), some (vI l7), none] [] M := by
  refine RN_k (callX_det _) 2 _ _ _ _ (show (l5 ≤ 0 → R257 sl sx d M0 P 175 [some (vR (some l0)), none, none, some (vI l3), none, some (vI l5), some (vI l6), some (vI l7), none] [] M) ∧ (¬ (l5 ≤ 0) → R257 sl sx d M0 P 164 [some (vR (some l0)), none, none, some (vI l3), none, some (vI l5), some (vI l6), some (vI l7), none] [] M) from ⟨fun hc => ?_, fun hc => ?_⟩)
  · replace h := h.1 hc
    exact RN_weak (K := [some (vR (some l0)), none, none, some (vI l3), none, some (vI l5), some (vI l6), some (vI l7), none]) (callX_det _) (show _ ∧ _ ∧ _ ∧ _ ∧ _ ∧ True from ⟨rfl, rfl, rfl, rfl, rfl, trivial⟩) (t257_175 hk42 hk54 l0 l3 l5 l6 l7 _ hM h)
  · replace h := h.2 hc
    refine RN_k (callX_det _) 6 _ _ _ _ (show kd M l0 10 ∧ callX TBg sl sx (d + 5) 258 [vR (some l0), vI l7, vI (l7 - (8 : Int32))] M (fun v M9 => R257 sl sx d M0 P 175 [some (vR (some l0)), none, none, some (vI l3), none, some (vI l5), some (vI l6), some (vI l7), none] (pushO v []) M9) from ⟨h.1, ?_⟩)
    replace h := h.2
    refine callX_mono (callX_len (d := (d + 5)) rfl rfl rfl (c258 (d := d + 3) h)) ?_
    clear h
    rintro v9 M1 ⟨hl, rfl, h⟩
    replace hM := lenT hM hl
    show R257 sl sx d M0 P 175 [some (vR (some l0)), none, none, some (vI l3), none, some (vI l5), some (vI l6), some (vI l7), none] [] M1
    exact RN_weak (K := [some (vR (some l0)), none, none, some (vI l3), none, some (vI l5), some (vI l6), some (vI l7), none]) (callX_det _) (show _ ∧ _ ∧ _ ∧ _ ∧ _ ∧ True from ⟨rfl, rfl, rfl, rfl, rfl, trivial⟩) (t257_175 hk42 hk54 l0 l3 l5 l6 l7 _ hM h)
def w257_137 (k42 : Nat → Int32 → Int32 → MM → Prop) (k54 : Nat → Int32 → Int32 → Int32 → MM → Prop) (l0 : Nat) (l3 : Int32) (l5 : Int32) (l6 : Int32) (l7 : Int32) (s0 : Option Nat) (s1 : Int32) (s2 : Int64) (M : MM) (P : Int32 → MM → Prop) : Prop := ∃ a1, s0 = some a1 ∧ (inb M a1 12 s1 ∧ ((l5 ≤ 0 → (w257_159 k42 k54 l0 l3 l5 l6 l7 (sL M a1 s1.toNatClampNeg s2) P)) ∧ (¬ (l5 ≤ 0) → ((l6 ≤ 0 → (w257_159 k42 k54 l0 l3 l5 l6 l7 (sL M a1 s1.toNatClampNeg s2) P)) ∧ (¬ (l6 ≤ 0) → (kd (sL M a1 s1.toNatClampNeg s2) l0 10 ∧ w258 l0 l7 (l7 - (9 : Int32)) (sL M a1 s1.toNatClampNeg s2) (fun M2 => w257_159 k42 k54 l0 l3 l5 l6 l7 M2 P)))))))
theorem t257_137 {sl : Nat} {sx : Nat → Int32} {d : Nat} {M0 : MM} {P : Int32 → MM → Prop} {k42 : Nat → Int32 → Int32 → MM → Prop} {k54 : Nat → Int32 → Int32 → Int32 → MM → Prop} (hk42 : ∀ (l0 : Nat) (l3 : Int32) (l5 : Int32) (M : MM), lenO M0 M → k42 l0 l3 l5 M → R257 sl sx d M0 P 42 [some (vR (some l0)), none, none, some (vI l3), none, some (vI l5), none, none, none] [] M) (hk54 : ∀ (l0 : Nat) (l3 : Int32) (l5 : Int32) (l6 : Int32) (M : MM), lenO M0 M → k54 l0 l3 l5 l6 M → R257 sl sx d M0 P 54 [some (vR (some l0)), none, none, some (vI l3), none, some (vI l5), some (vI l6), none, none] [] M) (l0 : Nat) (l3 : Int32) (l5 : Int32) (l6 : Int32) (l7 : Int32) (s0 : Option Nat) (s1 : Int32) (s2 : Int64) (M : MM) (hM : lenO M0 M) (h : w257_137 k42 k54 l0 l3 l5 l6 l7 s0 s1 s2 M P) : R257 sl sx d M0 P 137 [some (vR (some l0)), none, none, some (vI l3), none, some (vI l5), some (vI l6), some (vI l7), none] [vL s2, vI s1, vR s0] M := by
  obtain ⟨a1, he, h⟩ := h
  subst he
  refine RN_k (callX_det _) 1 _ _ _ _ (show inb M a1 12 s1 ∧ R257 sl sx d M0 P 138 [some (vR (some l0)), none, none, some (vI l3), none, some (vI l5), some (vI l6), some (vI l7), none] [] (sL M a1 s1.toNatClampNeg s2) from ⟨h.1, ?_⟩)
  replace h := h.2
  refine RN_k (callX_det _) 2 _ _ _ _ (show (l5 ≤ 0 → R257 sl sx d M0 P 159 [some (vR (some l0)), none, none, some (vI l3), none, some (vI l5), some (vI l6), some (vI l7), none] [] (sL M a1 s1.toNatClampNeg s2)) ∧ (¬ (l5 ≤ 0) → R257 sl sx d M0 P 143 [some (vR (some l0)), none, none, some (vI l3), none, some (vI l5), some (vI l6), some (vI l7), none] [] (sL M a1 s1.toNatClampNeg s2)) from ⟨fun hc => ?_, fun hc => ?_⟩)
  · replace h := h.1 hc
    exact RN_weak (K := [some (vR (some l0)), none, none, some (vI l3), none, some (vI l5), some (vI l6), some (vI l7), none]) (callX_det _) (show _ ∧ _ ∧ _ ∧ _ ∧ _ ∧ True from ⟨rfl, rfl, rfl, rfl, rfl, trivial⟩) (t257_159 hk42 hk54 l0 l3 l5 l6 l7 _ hM h)
  · replace h := h.2 hc
    refine RN_k (callX_det _) 2 _ _ _ _ (show (l6 ≤ 0 → R257 sl sx d M0 P 159 [some (vR (some l0)), none, none, some (vI l3), none, some (vI l5), some (vI l6), some (vI l7), none] [] (sL M a1 s1.toNatClampNeg s2)) ∧ (¬ (l6 ≤ 0) → R257 sl sx d M0 P 148 [some (vR (some l0)), none, none, some (vI l3), none, some (vI l5), some (vI l6), some (vI l7), none] [] (sL M a1 s1.toNatClampNeg s2)) from ⟨fun hc => ?_, fun hc => ?_⟩)
    · replace h := h.1 hc
      exact RN_weak (K := [some (vR (some l0)), none, none, some (vI l3), none, some (vI l5), some (vI l6), some (vI l7), none]) (callX_det _) (show _ ∧ _ ∧ _ ∧ _ ∧ _ ∧ True from ⟨rfl, rfl, rfl, rfl, rfl, trivial⟩) (t257_159 hk42 hk54 l0 l3 l5 l6 l7 _ hM h)
    · replace h := h.2 hc
      refine RN_k (callX_det _) 6 _ _ _ _ (show kd (sL M a1 s1.toNatClampNeg s2) l0 10 ∧ callX TBg sl sx (d + 5) 258 [vR (some l0), vI l7, vI (l7 - (9 : Int32))] (sL M a1 s1.toNatClampNeg s2) (fun v M9 => R257 sl sx d M0 P 159 [some (vR (some l0)), none, none, some (vI l3), none, some (vI l5), some (vI l6), some (vI l7), none] (pushO v []) M9) from ⟨h.1, ?_⟩)
      replace h := h.2
      refine callX_mono (callX_len (d := (d + 5)) rfl rfl rfl (c258 (d := d + 3) h)) ?_
      clear h
      rintro v9 M2 ⟨hl, rfl, h⟩
      replace hM := lenT hM hl
      show R257 sl sx d M0 P 159 [some (vR (some l0)), none, none, some (vI l3), none, some (vI l5), some (vI l6), some (vI l7), none] [] M2
      exact RN_weak (K := [some (vR (some l0)), none, none, some (vI l3), none, some (vI l5), some (vI l6), some (vI l7), none]) (callX_det _) (show _ ∧ _ ∧ _ ∧ _ ∧ _ ∧ True from ⟨rfl, rfl, rfl, rfl, rfl, trivial⟩) (t257_159 hk42 hk54 l0 l3 l5 l6 l7 _ hM h)
def w257_120 (k42 : Nat → Int32 → Int32 → MM → Prop) (k54 : Nat → Int32 → Int32 → Int32 → MM → Prop) (l0 : Nat) (l3 : Int32) (l5 : Int32) (l6 : Int32) (l7 : Int32) (l8 : Int32) (s0 : Option Nat) (s1 : Int32) (s2 : Int64) (M : MM) (P : Int32 → MM → Prop) : Prop := ∃ a1, s0 = some a1 ∧ (inb M a1 12 s1 ∧ (kd (sL M a1 s1.toNatClampNeg s2) l0 10 ∧ ((l8 = 0 → (w257_137 k42 k54 l0 l3 l5 l6 l7 (mR (sL M a1 s1.toNatClampNeg s2) l0 62) l7 (0 : Int64) (sL M a1 s1.toNatClampNeg s2) P)) ∧ (¬ (l8 = 0) → (w257_137 k42 k54 l0 l3 l5 l6 l7 (mR (sL M a1 s1.toNatClampNeg s2) l0 62) l7 (1 : Int64) (sL M a1 s1.toNatClampNeg s2) P)))))
theorem t257_120 {sl : Nat} {sx : Nat → Int32} {d : Nat} {M0 : MM} {P : Int32 → MM → Prop} {k42 : Nat → Int32 → Int32 → MM → Prop} {k54 : Nat → Int32 → Int32 → Int32 → MM → Prop} (hk42 : ∀ (l0 : Nat) (l3 : Int32) (l5 : Int32) (M : MM), lenO M0 M → k42 l0 l3 l5 M → R257 sl sx d M0 P 42 [some (vR (some l0)), none, none, some (vI l3), none, some (vI l5), none, none, none] [] M) (hk54 : ∀ (l0 : Nat) (l3 : Int32) (l5 : Int32) (l6 : Int32) (M : MM), lenO M0 M → k54 l0 l3 l5 l6 M → R257 sl sx d M0 P 54 [some (vR (some l0)), none, none, some (vI l3), none, some (vI l5), some (vI l6), none, none] [] M) (l0 : Nat) (l3 : Int32) (l5 : Int32) (l6 : Int32) (l7 : Int32) (l8 : Int32) (s0 : Option Nat) (s1 : Int32) (s2 : Int64) (M : MM) (hM : lenO M0 M) (h : w257_120 k42 k54 l0 l3 l5 l6 l7 l8 s0 s1 s2 M P) : R257 sl sx d M0 P 120 [some (vR (some l0)), none, none, some (vI l3), none, some (vI l5), some (vI l6), some (vI l7), some (vI l8)] [vL s2, vI s1, vR s0] M := by
  obtain ⟨a1, he, h⟩ := h
  subst he
  refine RN_k (callX_det _) 1 _ _ _ _ (show inb M a1 12 s1 ∧ R257 sl sx d M0 P 121 [some (vR (some l0)), none, none, some (vI l3), none, some (vI l5), some (vI l6), some (vI l7), some (vI l8)] [] (sL M a1 s1.toNatClampNeg s2) from ⟨h.1, ?_⟩)
  replace h := h.2
  refine RN_k (callX_det _) 2 _ _ _ _ (show kd (sL M a1 s1.toNatClampNeg s2) l0 10 ∧ R257 sl sx d M0 P 125 [some (vR (some l0)), none, none, some (vI l3), none, some (vI l5), some (vI l6), some (vI l7), some (vI l8)] [vR (mR (sL M a1 s1.toNatClampNeg s2) l0 62)] (sL M a1 s1.toNatClampNeg s2) from ⟨h.1, ?_⟩)
  replace h := h.2
  refine RN_k (callX_det _) 3 _ _ _ _ (show (l8 = 0 → R257 sl sx d M0 P 136 [some (vR (some l0)), none, none, some (vI l3), none, some (vI l5), some (vI l6), some (vI l7), some (vI l8)] [vI l7, vR (mR (sL M a1 s1.toNatClampNeg s2) l0 62)] (sL M a1 s1.toNatClampNeg s2)) ∧ (¬ (l8 = 0) → R257 sl sx d M0 P 132 [some (vR (some l0)), none, none, some (vI l3), none, some (vI l5), some (vI l6), some (vI l7), some (vI l8)] [vI l7, vR (mR (sL M a1 s1.toNatClampNeg s2) l0 62)] (sL M a1 s1.toNatClampNeg s2)) from ⟨fun hc => ?_, fun hc => ?_⟩)
  · replace h := h.1 hc
    refine RN_k (callX_det _) 1 _ _ _ _ (show R257 sl sx d M0 P 137 [some (vR (some l0)), none, none, some (vI l3), none, some (vI l5), some (vI l6), some (vI l7), some (vI l8)] [vL (0 : Int64), vI l7, vR (mR (sL M a1 s1.toNatClampNeg s2) l0 62)] (sL M a1 s1.toNatClampNeg s2) from ?_)
    exact RN_weak (K := [some (vR (some l0)), none, none, some (vI l3), none, some (vI l5), some (vI l6), some (vI l7), none]) (callX_det _) (show _ ∧ _ ∧ _ ∧ _ ∧ _ ∧ True from ⟨rfl, rfl, rfl, rfl, rfl, trivial⟩) (t257_137 hk42 hk54 l0 l3 l5 l6 l7 (mR (sL M a1 s1.toNatClampNeg s2) l0 62) l7 (0 : Int64) _ hM h)
  · replace h := h.2 hc
    refine RN_k (callX_det _) 2 _ _ _ _ (show R257 sl sx d M0 P 137 [some (vR (some l0)), none, none, some (vI l3), none, some (vI l5), some (vI l6), some (vI l7), some (vI l8)] [vL (1 : Int64), vI l7, vR (mR (sL M a1 s1.toNatClampNeg s2) l0 62)] (sL M a1 s1.toNatClampNeg s2) from ?_)
    exact RN_weak (K := [some (vR (some l0)), none, none, some (vI l3), none, some (vI l5), some (vI l6), some (vI l7), none]) (callX_det _) (show _ ∧ _ ∧ _ ∧ _ ∧ _ ∧ True from ⟨rfl, rfl, rfl, rfl, rfl, trivial⟩) (t257_137 hk42 hk54 l0 l3 l5 l6 l7 (mR (sL M a1 s1.toNatClampNeg s2) l0 62) l7 (1 : Int64) _ hM h)
def w257_103 (k42 : Nat → Int32 → Int32 → MM → Prop) (k54 : Nat → Int32 → Int32 → Int32 → MM → Prop) (l0 : Nat) (l3 : Int32) (l5 : Int32) (l6 : Int32) (l7 : Int32) (l8 : Int32) (s0 : Option Nat) (s1 : Int32) (s2 : Int32) (M : MM) (P : Int32 → MM → Prop) : Prop := ∃ a1, s0 = some a1 ∧ (inb M a1 11 s1 ∧ (kd (sI M a1 s1.toNatClampNeg s2) l0 10 ∧ ((l8 = 0 → (w257_120 k42 k54 l0 l3 l5 l6 l7 l8 (mR (sI M a1 s1.toNatClampNeg s2) l0 61) l7 (0 : Int64) (sI M a1 s1.toNatClampNeg s2) P)) ∧ (¬ (l8 = 0) → (w257_120 k42 k54 l0 l3 l5 l6 l7 l8 (mR (sI M a1 s1.toNatClampNeg s2) l0 61) l7 (1 : Int64) (sI M a1 s1.toNatClampNeg s2) P)))))
theorem t257_103 {sl : Nat} {sx : Nat → Int32} {d : Nat} {M0 : MM} {P : Int32 → MM → Prop} {k42 : Nat → Int32 → Int32 → MM → Prop} {k54 : Nat → Int32 → Int32 → Int32 → MM → Prop} (hk42 : ∀ (l0 : Nat) (l3 : Int32) (l5 : Int32) (M : MM), lenO M0 M → k42 l0 l3 l5 M → R257 sl sx d M0 P 42 [some (vR (some l0)), none, none, some (vI l3), none, some (vI l5), none, none, none] [] M) (hk54 : ∀ (l0 : Nat) (l3 : Int32) (l5 : Int32) (l6 : Int32) (M : MM), lenO M0 M → k54 l0 l3 l5 l6 M → R257 sl sx d M0 P 54 [some (vR (some l0)), none, none, some (vI l3), none, some (vI l5), some (vI l6), none, none] [] M) (l0 : Nat) (l3 : Int32) (l5 : Int32) (l6 : Int32) (l7 : Int32) (l8 : Int32) (s0 : Option Nat) (s1 : Int32) (s2 : Int32) (M : MM) (hM : lenO M0 M) (h : w257_103 k42 k54 l0 l3 l5 l6 l7 l8 s0 s1 s2 M P) : R257 sl sx d M0 P 103 [some (vR (some l0)), none, none, some (vI l3), none, some (vI l5), some (vI l6), some (vI l7), some (vI l8)] [vI s2, vI s1, vR s0] M := by
  obtain ⟨a1, he, h⟩ := h
  subst he
  refine RN_k (callX_det _) 1 _ _ _ _ (show inb M a1 11 s1 ∧ R257 sl sx d M0 P 104 [some (vR (some l0)), none, none, some (vI l3), none, some (vI l5), some (vI l6), some (vI l7), some (vI l8)] [] (sI M a1 s1.toNatClampNeg s2) from ⟨h.1, ?_⟩)
  replace h := h.2
  refine RN_k (callX_det _) 2 _ _ _ _ (show kd (sI M a1 s1.toNatClampNeg s2) l0 10 ∧ R257 sl sx d M0 P 108 [some (vR (some l0)), none, none, some (vI l3), none, some (vI l5), some (vI l6), some (vI l7), some (vI l8)] [vR (mR (sI M a1 s1.toNatClampNeg s2) l0 61)] (sI M a1 s1.toNatClampNeg s2) from ⟨h.1, ?_⟩)
  replace h := h.2
  refine RN_k (callX_det _) 3 _ _ _ _ (show (l8 = 0 → R257 sl sx d M0 P 119 [some (vR (some l0)), none, none, some (vI l3), none, some (vI l5), some (vI l6), some (vI l7), some (vI l8)] [vI l7, vR (mR (sI M a1 s1.toNatClampNeg s2) l0 61)] (sI M a1 s1.toNatClampNeg s2)) ∧ (¬ (l8 = 0) → R257 sl sx d M0 P 115 [some (vR (some l0)), none, none, some (vI l3), none, some (vI l5), some (vI l6), some (vI l7), some (vI l8)] [vI l7, vR (mR (sI M a1 s1.toNatClampNeg s2) l0 61)] (sI M a1 s1.toNatClampNeg s2)) from ⟨fun hc => ?_, fun hc => ?_⟩)
  · replace h := h.1 hc
    refine RN_k (callX_det _) 1 _ _ _ _ (show R257 sl sx d M0 P 120 [some (vR (some l0)), none, none, some (vI l3), none, some (vI l5), some (vI l6), some (vI l7), some (vI l8)] [vL (0 : Int64), vI l7, vR (mR (sI M a1 s1.toNatClampNeg s2) l0 61)] (sI M a1 s1.toNatClampNeg s2) from ?_)
    exact RN_weak (K := [some (vR (some l0)), none, none, some (vI l3), none, some (vI l5), some (vI l6), some (vI l7), some (vI l8)]) (callX_det _) (show _ ∧ _ ∧ _ ∧ _ ∧ _ ∧ _ ∧ True from ⟨rfl, rfl, rfl, rfl, rfl, rfl, trivial⟩) (t257_120 hk42 hk54 l0 l3 l5 l6 l7 l8 (mR (sI M a1 s1.toNatClampNeg s2) l0 61) l7 (0 : Int64) _ hM h)
  · replace h := h.2 hc
    refine RN_k (callX_det _) 2 _ _ _ _ (show R257 sl sx d M0 P 120 [some (vR (some l0)), none, none, some (vI l3), none, some (vI l5), some (vI l6), some (vI l7), some (vI l8)] [vL (1 : Int64), vI l7, vR (mR (sI M a1 s1.toNatClampNeg s2) l0 61)] (sI M a1 s1.toNatClampNeg s2) from ?_)
    exact RN_weak (K := [some (vR (some l0)), none, none, some (vI l3), none, some (vI l5), some (vI l6), some (vI l7), some (vI l8)]) (callX_det _) (show _ ∧ _ ∧ _ ∧ _ ∧ _ ∧ _ ∧ True from ⟨rfl, rfl, rfl, rfl, rfl, rfl, trivial⟩) (t257_120 hk42 hk54 l0 l3 l5 l6 l7 l8 (mR (sI M a1 s1.toNatClampNeg s2) l0 61) l7 (1 : Int64) _ hM h)
def w257_83 (k42 : Nat → Int32 → Int32 → MM → Prop) (k54 : Nat → Int32 → Int32 → Int32 → MM → Prop) (l0 : Nat) (l3 : Int32) (l5 : Int32) (l6 : Int32) (l7 : Int32) (s0 : Int32) (M : MM) (P : Int32 → MM → Prop) : Prop := kd M l0 10 ∧ ((s0 = 0 → (w257_103 k42 k54 l0 l3 l5 l6 l7 s0 (mR M l0 60) l7 (1000000000 : Int32) M P)) ∧ (¬ (s0 = 0) → (w257_103 k42 k54 l0 l3 l5 l6 l7 s0 (mR M l0 60) l7 (0 : Int32) M P)))
theorem t257_83 {sl : Nat} {sx : Nat → Int32} {d : Nat} {M0 : MM} {P : Int32 → MM → Prop} {k42 : Nat → Int32 → Int32 → MM → Prop} {k54 : Nat → Int32 → Int32 → Int32 → MM → Prop} (hk42 : ∀ (l0 : Nat) (l3 : Int32) (l5 : Int32) (M : MM), lenO M0 M → k42 l0 l3 l5 M → R257 sl sx d M0 P 42 [some (vR (some l0)), none, none, some (vI l3), none, some (vI l5), none, none, none] [] M) (hk54 : ∀ (l0 : Nat) (l3 : Int32) (l5 : Int32) (l6 : Int32) (M : MM), lenO M0 M → k54 l0 l3 l5 l6 M → R257 sl sx d M0 P 54 [some (vR (some l0)), none, none, some (vI l3), none, some (vI l5), some (vI l6), none, none] [] M) (l0 : Nat) (l3 : Int32) (l5 : Int32) (l6 : Int32) (l7 : Int32) (s0 : Int32) (M : MM) (hM : lenO M0 M) (h : w257_83 k42 k54 l0 l3 l5 l6 l7 s0 M P) : R257 sl sx d M0 P 83 [some (vR (some l0)), none, none, some (vI l3), none, some (vI l5), some (vI l6), some (vI l7), none] [vI s0] M := by
  refine RN_k (callX_det _) 3 _ _ _ _ (show kd M l0 10 ∧ R257 sl sx d M0 P 89 [some (vR (some l0)), none, none, some (vI l3), none, some (vI l5), some (vI l6), some (vI l7), some (vI s0)] [vR (mR M l0 60)] M from ⟨h.1, ?_⟩)
  replace h := h.2
  refine RN_k (callX_det _) 3 _ _ _ _ (show (s0 = 0 → R257 sl sx d M0 P 100 [some (vR (some l0)), none, none, some (vI l3), none, some (vI l5), some (vI l6), some (vI l7), some (vI s0)] [vI l7, vR (mR M l0 60)] M) ∧ (¬ (s0 = 0) → R257 sl sx d M0 P 96 [some (vR (some l0)), none, none, some (vI l3), none, some (vI l5), some (vI l6), some (vI l7), some (vI s0)] [vI l7, vR (mR M l0 60)] M) from ⟨fun hc => ?_, fun hc => ?_⟩)
  · replace h := h.1 hc
    refine RN_k (callX_det _) 1 _ _ _ _ (show R257 sl sx d M0 P 103 [some (vR (some l0)), none, none, some (vI l3), none, some (vI l5), some (vI l6), some (vI l7), some (vI s0)] [vI (1000000000 : Int32), vI l7, vR (mR M l0 60)] M from ?_)
    exact RN_weak (K := [some (vR (some l0)), none, none, some (vI l3), none, some (vI l5), some (vI l6), some (vI l7), some (vI s0)]) (callX_det _) (show _ ∧ _ ∧ _ ∧ _ ∧ _ ∧ _ ∧ True from ⟨rfl, rfl, rfl, rfl, rfl, rfl, trivial⟩) (t257_103 hk42 hk54 l0 l3 l5 l6 l7 s0 (mR M l0 60) l7 (1000000000 : Int32) _ hM h)
  · replace h := h.2 hc
    refine RN_k (callX_det _) 2 _ _ _ _ (show R257 sl sx d M0 P 103 [some (vR (some l0)), none, none, some (vI l3), none, some (vI l5), some (vI l6), some (vI l7), some (vI s0)] [vI (0 : Int32), vI l7, vR (mR M l0 60)] M from ?_)
    exact RN_weak (K := [some (vR (some l0)), none, none, some (vI l3), none, some (vI l5), some (vI l6), some (vI l7), some (vI s0)]) (callX_det _) (show _ ∧ _ ∧ _ ∧ _ ∧ _ ∧ _ ∧ True from ⟨rfl, rfl, rfl, rfl, rfl, rfl, trivial⟩) (t257_103 hk42 hk54 l0 l3 l5 l6 l7 s0 (mR M l0 60) l7 (0 : Int32) _ hM h)
def w257_54 (k42 : Nat → Int32 → Int32 → MM → Prop) : Nat → Nat → Int32 → Int32 → Int32 → MM → (Int32 → MM → Prop) → Prop
  | 0 => fun _ _ _ _ _ _ => False
  | n + 1 => fun l0 l3 l5 l6 M P => kd M l0 10 ∧ (((mI M l0 28) ≤ l6 → (k42 l0 l3 (l5 + (1 : Int32)) M)) ∧ (¬ ((mI M l0 28) ≤ l6) → (((((8 : Int32) * l5) + l6) ≠ 0 → (w257_83 k42 (fun z0 z1 z2 z3 z4 => w257_54 k42 n z0 z1 z2 z3 z4 P) l0 l3 l5 l6 (((8 : Int32) * l5) + l6) (0 : Int32) M P)) ∧ (¬ ((((8 : Int32) * l5) + l6) ≠ 0) → (w257_83 k42 (fun z0 z1 z2 z3 z4 => w257_54 k42 n z0 z1 z2 z3 z4 P) l0 l3 l5 l6 (((8 : Int32) * l5) + l6) (1 : Int32) M P)))))
theorem t257_54 {sl : Nat} {sx : Nat → Int32} {d : Nat} {M0 : MM} {P : Int32 → MM → Prop} {k42 : Nat → Int32 → Int32 → MM → Prop} (hk42 : ∀ (l0 : Nat) (l3 : Int32) (l5 : Int32) (M : MM), lenO M0 M → k42 l0 l3 l5 M → R257 sl sx d M0 P 42 [some (vR (some l0)), none, none, some (vI l3), none, some (vI l5), none, none, none] [] M) (n : Nat) : ∀ (l0 : Nat) (l3 : Int32) (l5 : Int32) (l6 : Int32) (M : MM) (_ : lenO M0 M) (_ : w257_54 k42 n l0 l3 l5 l6 M P), R257 sl sx d M0 P 54 [some (vR (some l0)), none, none, some (vI l3), none, some (vI l5), some (vI l6), none, none] [] M := by
  induction n with
  | zero => intro l0 l3 l5 l6 M hM h; cases h
  | succ n ih =>
    intro l0 l3 l5 l6 M hM h
    refine RN_k (callX_det _) 3 _ _ _ _ (show kd M l0 10 ∧ R257 sl sx d M0 P 60 [some (vR (some l0)), none, none, some (vI l3), none, some (vI l5), some (vI l6), none, none] [vI (mI M l0 28), vI l6] M from ⟨h.1, ?_⟩)
    replace h := h.2
    refine RN_k (callX_det _) 1 _ _ _ _ (show ((mI M l0 28) ≤ l6 → R257 sl sx d M0 P 214 [some (vR (some l0)), none, none, some (vI l3), none, some (vI l5), some (vI l6), none, none] [] M) ∧ (¬ ((mI M l0 28) ≤ l6) → R257 sl sx d M0 P 63 [some (vR (some l0)), none, none, some (vI l3), none, some (vI l5), some (vI l6), none, none] [] M) from ⟨fun hc => ?_, fun hc => ?_⟩)
    · replace h := h.1 hc
      refine RN_k (callX_det _) 2 _ _ _ _ (show R257 sl sx d M0 P 42 [some (vR (some l0)), none, none, some (vI l3), none, some (vI (l5 + (1 : Int32))), some (vI l6), none, none] [] M from ?_)
      exact RN_weak (K := [some (vR (some l0)), none, none, some (vI l3), none, some (vI (l5 + (1 : Int32))), none, none, none]) (callX_det _) (show _ ∧ _ ∧ _ ∧ True from ⟨rfl, rfl, rfl, trivial⟩) (hk42 l0 l3 (l5 + (1 : Int32)) _ hM h)
    · replace h := h.2 hc
      refine RN_k (callX_det _) 8 _ _ _ _ (show ((((8 : Int32) * l5) + l6) ≠ 0 → R257 sl sx d M0 P 82 [some (vR (some l0)), none, none, some (vI l3), none, some (vI l5), some (vI l6), some (vI (((8 : Int32) * l5) + l6)), none] [] M) ∧ (¬ ((((8 : Int32) * l5) + l6) ≠ 0) → R257 sl sx d M0 P 78 [some (vR (some l0)), none, none, some (vI l3), none, some (vI l5), some (vI l6), some (vI (((8 : Int32) * l5) + l6)), none] [] M) from ⟨fun hc => ?_, fun hc => ?_⟩)
      · replace h := h.1 hc
        refine RN_k (callX_det _) 1 _ _ _ _ (show R257 sl sx d M0 P 83 [some (vR (some l0)), none, none, some (vI l3), none, some (vI l5), some (vI l6), some (vI (((8 : Int32) * l5) + l6)), none] [vI (0 : Int32)] M from ?_)
        exact RN_weak (K := [some (vR (some l0)), none, none, some (vI l3), none, some (vI l5), some (vI l6), some (vI (((8 : Int32) * l5) + l6)), none]) (callX_det _) (show _ ∧ _ ∧ _ ∧ _ ∧ _ ∧ True from ⟨rfl, rfl, rfl, rfl, rfl, trivial⟩) (t257_83 hk42 ih l0 l3 l5 l6 (((8 : Int32) * l5) + l6) (0 : Int32) _ hM h)
      · replace h := h.2 hc
        refine RN_k (callX_det _) 2 _ _ _ _ (show R257 sl sx d M0 P 83 [some (vR (some l0)), none, none, some (vI l3), none, some (vI l5), some (vI l6), some (vI (((8 : Int32) * l5) + l6)), none] [vI (1 : Int32)] M from ?_)
        exact RN_weak (K := [some (vR (some l0)), none, none, some (vI l3), none, some (vI l5), some (vI l6), some (vI (((8 : Int32) * l5) + l6)), none]) (callX_det _) (show _ ∧ _ ∧ _ ∧ _ ∧ _ ∧ True from ⟨rfl, rfl, rfl, rfl, rfl, trivial⟩) (t257_83 hk42 ih l0 l3 l5 l6 (((8 : Int32) * l5) + l6) (1 : Int32) _ hM h)
def w257_42 : Nat → Nat → Int32 → Int32 → MM → (Int32 → MM → Prop) → Prop
  | 0 => fun _ _ _ _ _ => False
  | n + 1 => fun l0 l3 l5 M P => kd M l0 10 ∧ (((mI M l0 27) ≤ l5 → (kd M l0 10 ∧ (kd M l0 10 ∧ ((l3 ≠ 0 → ((l3 ≠ (1 : Int32) → (kd M l0 10 ∧ (∃ a1, mR M l0 62 = some a1 ∧ (inb M a1 12 ((((8 : Int32) * ((mI M l0 27) - (1 : Int32))) + (mI M l0 28)) - (1 : Int32)) ∧ (w257_275  (some l0) (mL M a1 ((((8 : Int32) * ((mI M l0 27) - (1 : Int32))) + (mI M l0 28)) - (1 : Int32)).toNatClampNeg) M P))))) ∧ (¬ (l3 ≠ (1 : Int32)) → (kd M l0 10 ∧ (∃ a2, mR M l0 61 = some a2 ∧ (inb M a2 12 ((((8 : Int32) * ((mI M l0 27) - (1 : Int32))) + (mI M l0 28)) - (1 : Int32)) ∧ (w257_275  (some l0) (mL M a2 ((((8 : Int32) * ((mI M l0 27) - (1 : Int32))) + (mI M l0 28)) - (1 : Int32)).toNatClampNeg) M P))))))) ∧ (¬ (l3 ≠ 0) → (kd M l0 10 ∧ (∃ a3, mR M l0 60 = some a3 ∧ (inb M a3 11 ((((8 : Int32) * ((mI M l0 27) - (1 : Int32))) + (mI M l0 28)) - (1 : Int32)) ∧ (w257_276  (some l0) (mI M a3 ((((8 : Int32) * ((mI M l0 27) - (1 : Int32))) + (mI M l0 28)) - (1 : Int32)).toNatClampNeg) M P))))))))) ∧ (¬ ((mI M l0 27) ≤ l5) → (∃ n2, w257_54 (fun z0 z1 z2 z3 => w257_42  n z0 z1 z2 z3 P) n2 l0 l3 l5 (0 : Int32) M P)))
theorem t257_42 {sl : Nat} {sx : Nat → Int32} {d : Nat} {M0 : MM} {P : Int32 → MM → Prop} (n : Nat) : ∀ (l0 : Nat) (l3 : Int32) (l5 : Int32) (M : MM) (_ : lenO M0 M) (_ : w257_42  n l0 l3 l5 M P), R257 sl sx d M0 P 42 [some (vR (some l0)), none, none, some (vI l3), none, some (vI l5), none, none, none] [] M := by
  induction n with
  | zero => intro l0 l3 l5 M hM h; cases h
  | succ n ih =>
    intro l0 l3 l5 M hM h
    refine RN_k (callX_det _) 3 _ _ _ _ (show kd M l0 10 ∧ R257 sl sx d M0 P 48 [some (vR (some l0)), none, none, some (vI l3), none, some (vI l5), none, none, none] [vI (mI M l0 27), vI l5] M from ⟨h.1, ?_⟩)
    replace h := h.2
    refine RN_k (callX_det _) 1 _ _ _ _ (show ((mI M l0 27) ≤ l5 → R257 sl sx d M0 P 220 [some (vR (some l0)), none, none, some (vI l3), none, some (vI l5), none, none, none] [] M) ∧ (¬ ((mI M l0 27) ≤ l5) → R257 sl sx d M0 P 51 [some (vR (some l0)), none, none, some (vI l3), none, some (vI l5), none, none, none] [] M) from ⟨fun hc => ?_, fun hc => ?_⟩)
    · replace h := h.1 hc
      refine RN_k (callX_det _) 3 _ _ _ _ (show kd M l0 10 ∧ R257 sl sx d M0 P 226 [some (vR (some l0)), none, none, some (vI l3), none, some (vI l5), none, none, none] [vI (mI M l0 27), vI (8 : Int32)] M from ⟨h.1, ?_⟩)
      replace h := h.2
      refine RN_k (callX_det _) 5 _ _ _ _ (show kd M l0 10 ∧ R257 sl sx d M0 P 233 [some (vR (some l0)), none, none, some (vI l3), none, some (vI l5), none, none, none] [vI (mI M l0 28), vI ((8 : Int32) * ((mI M l0 27) - (1 : Int32)))] M from ⟨h.1, ?_⟩)
      replace h := h.2
      refine RN_k (callX_det _) 7 _ _ _ _ (show (l3 ≠ 0 → R257 sl sx d M0 P 253 [some (vR (some l0)), none, none, some (vI l3), none, some (vI ((((8 : Int32) * ((mI M l0 27) - (1 : Int32))) + (mI M l0 28)) - (1 : Int32))), none, none, none] [vR (some l0)] M) ∧ (¬ (l3 ≠ 0) → R257 sl sx d M0 P 243 [some (vR (some l0)), none, none, some (vI l3), none, some (vI ((((8 : Int32) * ((mI M l0 27) - (1 : Int32))) + (mI M l0 28)) - (1 : Int32))), none, none, none] [vR (some l0)] M) from ⟨fun hc => ?_, fun hc => ?_⟩)
      · replace h := h.1 hc
        refine RN_k (callX_det _) 3 _ _ _ _ (show (l3 ≠ (1 : Int32) → R257 sl sx d M0 P 268 [some (vR (some l0)), none, none, some (vI l3), none, some (vI ((((8 : Int32) * ((mI M l0 27) - (1 : Int32))) + (mI M l0 28)) - (1 : Int32))), none, none, none] [vR (some l0)] M) ∧ (¬ (l3 ≠ (1 : Int32)) → R257 sl sx d M0 P 258 [some (vR (some l0)), none, none, some (vI l3), none, some (vI ((((8 : Int32) * ((mI M l0 27) - (1 : Int32))) + (mI M l0 28)) - (1 : Int32))), none, none, none] [vR (some l0)] M) from ⟨fun hc => ?_, fun hc => ?_⟩)
        · replace h := h.1 hc
          refine RN_k (callX_det _) 2 _ _ _ _ (show kd M l0 10 ∧ R257 sl sx d M0 P 272 [some (vR (some l0)), none, none, some (vI l3), none, some (vI ((((8 : Int32) * ((mI M l0 27) - (1 : Int32))) + (mI M l0 28)) - (1 : Int32))), none, none, none] [vR (mR M l0 62), vR (some l0)] M from ⟨h.1, ?_⟩)
          replace h := h.2
          obtain ⟨a1, he, h⟩ := h
          refine RN_k (callX_det _) 1 _ _ _ _ (show R257 sl sx d M0 P 274 [some (vR (some l0)), none, none, some (vI l3), none, some (vI ((((8 : Int32) * ((mI M l0 27) - (1 : Int32))) + (mI M l0 28)) - (1 : Int32))), none, none, none] [vI ((((8 : Int32) * ((mI M l0 27) - (1 : Int32))) + (mI M l0 28)) - (1 : Int32)), vR (mR M l0 62), vR (some l0)] M from ?_)
          rw [he]
          refine RN_k (callX_det _) 1 _ _ _ _ (show inb M a1 12 ((((8 : Int32) * ((mI M l0 27) - (1 : Int32))) + (mI M l0 28)) - (1 : Int32)) ∧ R257 sl sx d M0 P 275 [some (vR (some l0)), none, none, some (vI l3), none, some (vI ((((8 : Int32) * ((mI M l0 27) - (1 : Int32))) + (mI M l0 28)) - (1 : Int32))), none, none, none] [vL (mL M a1 ((((8 : Int32) * ((mI M l0 27) - (1 : Int32))) + (mI M l0 28)) - (1 : Int32)).toNatClampNeg), vR (some l0)] M from ⟨h.1, ?_⟩)
          replace h := h.2
          exact RN_weak (K := [none, none, none, none, none, none, none, none, none]) (callX_det _) (show True from trivial) (t257_275  (some l0) (mL M a1 ((((8 : Int32) * ((mI M l0 27) - (1 : Int32))) + (mI M l0 28)) - (1 : Int32)).toNatClampNeg) _ hM h)
        · replace h := h.2 hc
          refine RN_k (callX_det _) 2 _ _ _ _ (show kd M l0 10 ∧ R257 sl sx d M0 P 262 [some (vR (some l0)), none, none, some (vI l3), none, some (vI ((((8 : Int32) * ((mI M l0 27) - (1 : Int32))) + (mI M l0 28)) - (1 : Int32))), none, none, none] [vR (mR M l0 61), vR (some l0)] M from ⟨h.1, ?_⟩)
          replace h := h.2
          obtain ⟨a2, he, h⟩ := h
          refine RN_k (callX_det _) 1 _ _ _ _ (show R257 sl sx d M0 P 264 [some (vR (some l0)), none, none, some (vI l3), none, some (vI ((((8 : Int32) * ((mI M l0 27) - (1 : Int32))) + (mI M l0 28)) - (1 : Int32))), none, none, none] [vI ((((8 : Int32) * ((mI M l0 27) - (1 : Int32))) + (mI M l0 28)) - (1 : Int32)), vR (mR M l0 61), vR (some l0)] M from ?_)
          rw [he]
          refine RN_k (callX_det _) 1 _ _ _ _ (show inb M a2 12 ((((8 : Int32) * ((mI M l0 27) - (1 : Int32))) + (mI M l0 28)) - (1 : Int32)) ∧ R257 sl sx d M0 P 265 [some (vR (some l0)), none, none, some (vI l3), none, some (vI ((((8 : Int32) * ((mI M l0 27) - (1 : Int32))) + (mI M l0 28)) - (1 : Int32))), none, none, none] [vL (mL M a2 ((((8 : Int32) * ((mI M l0 27) - (1 : Int32))) + (mI M l0 28)) - (1 : Int32)).toNatClampNeg), vR (some l0)] M from ⟨h.1, ?_⟩)
          replace h := h.2
          refine RN_k (callX_det _) 1 _ _ _ _ (show R257 sl sx d M0 P 275 [some (vR (some l0)), none, none, some (vI l3), none, some (vI ((((8 : Int32) * ((mI M l0 27) - (1 : Int32))) + (mI M l0 28)) - (1 : Int32))), none, none, none] [vL (mL M a2 ((((8 : Int32) * ((mI M l0 27) - (1 : Int32))) + (mI M l0 28)) - (1 : Int32)).toNatClampNeg), vR (some l0)] M from ?_)
          exact RN_weak (K := [none, none, none, none, none, none, none, none, none]) (callX_det _) (show True from trivial) (t257_275  (some l0) (mL M a2 ((((8 : Int32) * ((mI M l0 27) - (1 : Int32))) + (mI M l0 28)) - (1 : Int32)).toNatClampNeg) _ hM h)
      · replace h := h.2 hc
        refine RN_k (callX_det _) 2 _ _ _ _ (show kd M l0 10 ∧ R257 sl sx d M0 P 247 [some (vR (some l0)), none, none, some (vI l3), none, some (vI ((((8 : Int32) * ((mI M l0 27) - (1 : Int32))) + (mI M l0 28)) - (1 : Int32))), none, none, none] [vR (mR M l0 60), vR (some l0)] M from ⟨h.1, ?_⟩)
        replace h := h.2
        obtain ⟨a3, he, h⟩ := h
        refine RN_k (callX_det _) 1 _ _ _ _ (show R257 sl sx d M0 P 249 [some (vR (some l0)), none, none, some (vI l3), none, some (vI ((((8 : Int32) * ((mI M l0 27) - (1 : Int32))) + (mI M l0 28)) - (1 : Int32))), none, none, none] [vI ((((8 : Int32) * ((mI M l0 27) - (1 : Int32))) + (mI M l0 28)) - (1 : Int32)), vR (mR M l0 60), vR (some l0)] M from ?_)
        rw [he]
        refine RN_k (callX_det _) 1 _ _ _ _ (show inb M a3 11 ((((8 : Int32) * ((mI M l0 27) - (1 : Int32))) + (mI M l0 28)) - (1 : Int32)) ∧ R257 sl sx d M0 P 250 [some (vR (some l0)), none, none, some (vI l3), none, some (vI ((((8 : Int32) * ((mI M l0 27) - (1 : Int32))) + (mI M l0 28)) - (1 : Int32))), none, none, none] [vI (mI M a3 ((((8 : Int32) * ((mI M l0 27) - (1 : Int32))) + (mI M l0 28)) - (1 : Int32)).toNatClampNeg), vR (some l0)] M from ⟨h.1, ?_⟩)
        replace h := h.2
        refine RN_k (callX_det _) 1 _ _ _ _ (show R257 sl sx d M0 P 276 [some (vR (some l0)), none, none, some (vI l3), none, some (vI ((((8 : Int32) * ((mI M l0 27) - (1 : Int32))) + (mI M l0 28)) - (1 : Int32))), none, none, none] [vI (mI M a3 ((((8 : Int32) * ((mI M l0 27) - (1 : Int32))) + (mI M l0 28)) - (1 : Int32)).toNatClampNeg), vR (some l0)] M from ?_)
        exact RN_weak (K := [none, none, none, none, none, none, none, none, none]) (callX_det _) (show True from trivial) (t257_276  (some l0) (mI M a3 ((((8 : Int32) * ((mI M l0 27) - (1 : Int32))) + (mI M l0 28)) - (1 : Int32)).toNatClampNeg) _ hM h)
    · replace h := h.2 hc
      refine RN_k (callX_det _) 2 _ _ _ _ (show R257 sl sx d M0 P 54 [some (vR (some l0)), none, none, some (vI l3), none, some (vI l5), some (vI (0 : Int32)), none, none] [] M from ?_)
      obtain ⟨n2, h⟩ := h
      exact RN_weak (K := [some (vR (some l0)), none, none, some (vI l3), none, some (vI l5), some (vI (0 : Int32)), none, none]) (callX_det _) (show _ ∧ _ ∧ _ ∧ _ ∧ True from ⟨rfl, rfl, rfl, rfl, trivial⟩) (t257_54 ih n2 l0 l3 l5 (0 : Int32) _ hM h)
def w257_19 (l0 : Nat) (l1 : Int32) (l2 : Int32) (l3 : Int32) (s0 : Int32) (M : MM) (P : Int32 → MM → Prop) : Prop := (s0 ≤ 0 → (kd M l0 10 ∧ w211 l0 l1 l2 M (fun M1 => ∃ n2, w257_42  n2 l0 l3 (0 : Int32) M1 P))) ∧ (¬ (s0 ≤ 0) → (kd M l0 10 ∧ w167 l0 s0 M (fun r3 M2 => P r3 M2)))
theorem t257_19 {sl : Nat} {sx : Nat → Int32} {d : Nat} {M0 : MM} {P : Int32 → MM → Prop} (l0 : Nat) (l1 : Int32) (l2 : Int32) (l3 : Int32) (s0 : Int32) (M : MM) (hM : lenO M0 M) (h : w257_19  l0 l1 l2 l3 s0 M P) : R257 sl sx d M0 P 19 [some (vR (some l0)), some (vI l1), some (vI l2), some (vI l3), none, none, none, none, none] [vI s0] M := by
  refine RN_k (callX_det _) 3 _ _ _ _ (show (s0 ≤ 0 → R257 sl sx d M0 P 33 [some (vR (some l0)), some (vI l1), some (vI l2), some (vI l3), some (vI s0), none, none, none, none] [] M) ∧ (¬ (s0 ≤ 0) → R257 sl sx d M0 P 26 [some (vR (some l0)), some (vI l1), some (vI l2), some (vI l3), some (vI s0), none, none, none, none] [] M) from ⟨fun hc => ?_, fun hc => ?_⟩)
  · replace h := h.1 hc
    refine RN_k (callX_det _) 4 _ _ _ _ (show kd M l0 10 ∧ callX TBg sl sx (d + 5) 211 [vR (some l0), vI l1, vI l2] M (fun v M9 => R257 sl sx d M0 P 39 [some (vR (some l0)), some (vI l1), some (vI l2), some (vI l3), some (vI s0), none, none, none, none] (pushO v []) M9) from ⟨h.1, ?_⟩)
    replace h := h.2
    refine callX_mono (callX_len (d := (d + 5)) rfl rfl rfl (c211 (d := d) h)) ?_
    clear h
    rintro v9 M1 ⟨hl, rfl, h⟩
    replace hM := lenT hM hl
    show R257 sl sx d M0 P 39 [some (vR (some l0)), some (vI l1), some (vI l2), some (vI l3), some (vI s0), none, none, none, none] [] M1
    refine RN_k (callX_det _) 2 _ _ _ _ (show R257 sl sx d M0 P 42 [some (vR (some l0)), some (vI l1), some (vI l2), some (vI l3), some (vI s0), some (vI (0 : Int32)), none, none, none] [] M1 from ?_)
    obtain ⟨n2, h⟩ := h
    exact RN_weak (K := [some (vR (some l0)), none, none, some (vI l3), none, some (vI (0 : Int32)), none, none, none]) (callX_det _) (show _ ∧ _ ∧ _ ∧ True from ⟨rfl, rfl, rfl, trivial⟩) (t257_42  n2 l0 l3 (0 : Int32) _ hM h)
  · replace h := h.2 hc
    refine RN_k (callX_det _) 3 _ _ _ _ (show kd M l0 10 ∧ callX TBg sl sx (d + 5) 167 [vR (some l0), vI s0] M (fun v M9 => R257 sl sx d M0 P 32 [some (vR (some l0)), some (vI l1), some (vI l2), some (vI l3), some (vI s0), none, none, none, none] (pushO v []) M9) from ⟨h.1, ?_⟩)
    replace h := h.2
    refine callX_mono (callX_len (d := (d + 5)) rfl rfl rfl (c167 (d := d + 4) h)) ?_
    clear h
    rintro v9 M2 ⟨hl, r3, rfl, h⟩
    replace hM := lenT hM hl
    show R257 sl sx d M0 P 32 [some (vR (some l0)), some (vI l1), some (vI l2), some (vI l3), some (vI s0), none, none, none, none] [vI r3] M2
    exact RN_k (callX_det _) 1 _ _ _ _ (show rtW q257 M0 (PI P) (some (vI r3)) M2 from ⟨⟨_, rfl⟩, hM.1, hM.2, _, rfl, h⟩)
def w257 (l0 : Nat) (l1 : Int32) (l2 : Int32) (l3 : Int32) (M : MM) (P : Int32 → MM → Prop) : Prop := w166 l3 (0 : Int32) (2 : Int32) M (fun r2 M1 => (r2 ≠ 0 → (kd M1 l0 10 ∧ w202 l0 l1 l2 M1 (fun r4 M3 => w257_19  l0 l1 l2 l3 r4 M3 P))) ∧ (¬ (r2 ≠ 0) → (w257_19  l0 l1 l2 l3 (1 : Int32) M1 P)))
theorem t257_E {sl : Nat} {sx : Nat → Int32} {d : Nat} {M0 : MM} {P : Int32 → MM → Prop} (l0 : Nat) (l1 : Int32) (l2 : Int32) (l3 : Int32) (M : MM) (hM : lenO M0 M) (h : w257  l0 l1 l2 l3 M P) : R257 sl sx d M0 P 0 [some (vR (some l0)), some (vI l1), some (vI l2), some (vI l3), none, none, none, none, none] [] M := by
  refine RN_k (callX_det _) 4 _ _ _ _ (show callX TBg sl sx (d + 5) 166 [vI l3, vI (0 : Int32), vI (2 : Int32)] M (fun v M9 => R257 sl sx d M0 P 6 [some (vR (some l0)), some (vI l1), some (vI l2), some (vI l3), none, none, none, none, none] (pushO v []) M9) from ?_)
  refine callX_mono (callX_len (d := (d + 5)) rfl rfl rfl (c166 (d := d + 4) h)) ?_
  clear h
  rintro v9 M1 ⟨hl, r2, rfl, h⟩
  replace hM := lenT hM hl
  show R257 sl sx d M0 P 6 [some (vR (some l0)), some (vI l1), some (vI l2), some (vI l3), none, none, none, none, none] [vI r2] M1
  refine RN_k (callX_det _) 1 _ _ _ _ (show (r2 ≠ 0 → R257 sl sx d M0 P 13 [some (vR (some l0)), some (vI l1), some (vI l2), some (vI l3), none, none, none, none, none] [] M1) ∧ (¬ (r2 ≠ 0) → R257 sl sx d M0 P 9 [some (vR (some l0)), some (vI l1), some (vI l2), some (vI l3), none, none, none, none, none] [] M1) from ⟨fun hc => ?_, fun hc => ?_⟩)
  · replace h := h.1 hc
    refine RN_k (callX_det _) 4 _ _ _ _ (show kd M1 l0 10 ∧ callX TBg sl sx (d + 5) 202 [vR (some l0), vI l1, vI l2] M1 (fun v M9 => R257 sl sx d M0 P 19 [some (vR (some l0)), some (vI l1), some (vI l2), some (vI l3), none, none, none, none, none] (pushO v []) M9) from ⟨h.1, ?_⟩)
    replace h := h.2
    refine callX_mono (callX_len (d := (d + 5)) rfl rfl rfl (c202 (d := d + 2) h)) ?_
    clear h
    rintro v9 M3 ⟨hl, r4, rfl, h⟩
    replace hM := lenT hM hl
    show R257 sl sx d M0 P 19 [some (vR (some l0)), some (vI l1), some (vI l2), some (vI l3), none, none, none, none, none] [vI r4] M3
    exact RN_weak (K := [some (vR (some l0)), some (vI l1), some (vI l2), some (vI l3), none, none, none, none, none]) (callX_det _) (show _ ∧ _ ∧ _ ∧ _ ∧ True from ⟨rfl, rfl, rfl, rfl, trivial⟩) (t257_19  l0 l1 l2 l3 r4 _ hM h)
  · replace h := h.2 hc
    refine RN_k (callX_det _) 2 _ _ _ _ (show R257 sl sx d M0 P 19 [some (vR (some l0)), some (vI l1), some (vI l2), some (vI l3), none, none, none, none, none] [vI (1 : Int32)] M1 from ?_)
    exact RN_weak (K := [some (vR (some l0)), some (vI l1), some (vI l2), some (vI l3), none, none, none, none, none]) (callX_det _) (show _ ∧ _ ∧ _ ∧ _ ∧ True from ⟨rfl, rfl, rfl, rfl, trivial⟩) (t257_19  l0 l1 l2 l3 (1 : Int32) _ hM h)
theorem c257 {sl : Nat} {sx : Nat → Int32} {d : Nat} {l0 : Nat} {l1 : Int32} {l2 : Int32} {l3 : Int32} {M : MM} {P : Int32 → MM → Prop} (h : w257 l0 l1 l2 l3 M P) : callX TBg sl sx (d + 6) 257 [vR (some l0), vI l1, vI l2, vI l3] M (PI P) :=
  cX (d := d + 5) q257 (false, tb257) rfl rfl rfl (t257_E l0 l1 l2 l3 M lenR h)
-- TwoLeashModel.reach(IIIII)I
abbrev q259 : MQ7 := (6, 1, 13, 10, 0, 0, 1)
abbrev R259 (sl : Nat) (sx : Nat → Int32) (d : Nat) (M0 : MM) (P : Int32 → MM → Prop) : Nat → LL → List VV → MM → Prop := RN 10 false (mS M0).length (mT M0) 0 0 sl sx (callX TBg sl sx (d + 8)) (rtW q259 M0 (PI P)) (as2 tb259)
def w259_234 (s0 : Int32) (M : MM) (P : Int32 → MM → Prop) : Prop := P s0 M
theorem t259_234 {sl : Nat} {sx : Nat → Int32} {d : Nat} {M0 : MM} {P : Int32 → MM → Prop} (s0 : Int32) (M : MM) (hM : lenO M0 M) (h : w259_234  s0 M P) : R259 sl sx d M0 P 234 [none, none, none, none, none, none, none, none, none, none, none, none, none] [vI s0] M := by
  exact RN_k (callX_det _) 1 _ _ _ _ (show rtW q259 M0 (PI P) (some (vI s0)) M from ⟨⟨_, rfl⟩, hM.1, hM.2, _, rfl, h⟩)
def w259_231 (s0 : Option Nat) (s1 : Int32) (M : MM) (P : Int32 → MM → Prop) : Prop := ∃ a1, s0 = some a1 ∧ (kd M a1 10 ∧ w177 a1 s1 M (fun r3 M2 => w259_234  r3 M2 P))
theorem t259_231 {sl : Nat} {sx : Nat → Int32} {d : Nat} {M0 : MM} {P : Int32 → MM → Prop} (s0 : Option Nat) (s1 : Int32) (M : MM) (hM : lenO M0 M) (h : w259_231  s0 s1 M P) : R259 sl sx d M0 P 231 [none, none, none, none, none, none, none, none, none, none, none, none, none] [vI s1, vR s0] M := by
  obtain ⟨a1, he, h⟩ := h
  subst he
  refine RN_k (callX_det _) 1 _ _ _ _ (show kd M a1 10 ∧ callX TBg sl sx (d + 8) 177 [vR (some a1), vI s1] M (fun v M9 => R259 sl sx d M0 P 234 [none, none, none, none, none, none, none, none, none, none, none, none, none] (pushO v []) M9) from ⟨h.1, ?_⟩)
  replace h := h.2
  refine callX_mono (callX_len (d := (d + 8)) rfl rfl rfl (c177 (d := d + 7) h)) ?_
  clear h
  rintro v9 M2 ⟨hl, r3, rfl, h⟩
  replace hM := lenT hM hl
  show R259 sl sx d M0 P 234 [none, none, none, none, none, none, none, none, none, none, none, none, none] [vI r3] M2
  exact RN_weak (K := [none, none, none, none, none, none, none, none, none, none, none, none, none]) (callX_det _) (show True from trivial) (t259_234  r3 _ hM h)
def w259_180 (k66 : Nat → Int32 → Int32 → Int32 → Int32 → Int32 → MM → Prop) (k80 : Nat → Int32 → Int32 → Int32 → Int32 → Int32 → Int32 → MM → Prop) (l0 : Nat) (l5 : Int32) (l7 : Int32) (l8 : Int32) (l9 : Int32) (l10 : Int32) (l11 : Int32) (M : MM) (P : Int32 → MM → Prop) : Prop := k80 l0 l5 l7 l8 l9 l10 (l11 + (1 : Int32)) M
theorem t259_180 {sl : Nat} {sx : Nat → Int32} {d : Nat} {M0 : MM} {P : Int32 → MM → Prop} {k66 : Nat → Int32 → Int32 → Int32 → Int32 → Int32 → MM → Prop} {k80 : Nat → Int32 → Int32 → Int32 → Int32 → Int32 → Int32 → MM → Prop} (hk66 : ∀ (l0 : Nat) (l5 : Int32) (l7 : Int32) (l8 : Int32) (l9 : Int32) (l10 : Int32) (M : MM), lenO M0 M → k66 l0 l5 l7 l8 l9 l10 M → R259 sl sx d M0 P 66 [some (vR (some l0)), none, none, none, none, some (vI l5), none, some (vI l7), some (vI l8), some (vI l9), some (vI l10), none, none] [] M) (hk80 : ∀ (l0 : Nat) (l5 : Int32) (l7 : Int32) (l8 : Int32) (l9 : Int32) (l10 : Int32) (l11 : Int32) (M : MM), lenO M0 M → k80 l0 l5 l7 l8 l9 l10 l11 M → R259 sl sx d M0 P 80 [some (vR (some l0)), none, none, none, none, some (vI l5), none, some (vI l7), some (vI l8), some (vI l9), some (vI l10), some (vI l11), none] [] M) (l0 : Nat) (l5 : Int32) (l7 : Int32) (l8 : Int32) (l9 : Int32) (l10 : Int32) (l11 : Int32) (M : MM) (hM : lenO M0 M) (h : w259_180 k66 k80 l0 l5 l7 l8 l9 l10 l11 M P) : R259 sl sx d M0 P 180 [some (vR (some l0)), none, none, none, none, some (vI l5), none, some (vI l7), some (vI l8), some (vI l9), some (vI l10), some (vI l11), none] [] M := by
  refine RN_k (callX_det _) 2 _ _ _ _ (show R259 sl sx d M0 P 80 [some (vR (some l0)), none, none, none, none, some (vI l5), none, some (vI l7), some (vI l8), some (vI l9), some (vI l10), some (vI (l11 + (1 : Int32))), none] [] M from ?_)
  exact RN_weak (K := [some (vR (some l0)), none, none, none, none, some (vI l5), none, some (vI l7), some (vI l8), some (vI l9), some (vI l10), some (vI (l11 + (1 : Int32))), none]) (callX_det _) (show _ ∧ _ ∧ _ ∧ _ ∧ _ ∧ _ ∧ _ ∧ True from ⟨rfl, rfl, rfl, rfl, rfl, rfl, rfl, trivial⟩) (hk80 l0 l5 l7 l8 l9 l10 (l11 + (1 : Int32)) _ hM h)
def w259_149 (k66 : Nat → Int32 → Int32 → Int32 → Int32 → Int32 → MM → Prop) (k80 : Nat → Int32 → Int32 → Int32 → Int32 → Int32 → Int32 → MM → Prop) (l0 : Nat) (l5 : Int32) (l7 : Int32) (l8 : Int32) (l9 : Int32) (l10 : Int32) (l11 : Int32) (s0 : Int32) (M : MM) (P : Int32 → MM → Prop) : Prop := (s0 ≠ 0 → (w33 l8 l10 M (fun r2 M1 => w33 l9 l11 M1 (fun r4 M3 => w259_180 k66 k80 l0 l5 (l7 + (1 : Int32)) r2 r4 l10 l11 M3 P)))) ∧ (¬ (s0 ≠ 0) → (w259_180 k66 k80 l0 l5 l7 l8 l9 l10 l11 M P))
theorem t259_149 {sl : Nat} {sx : Nat → Int32} {d : Nat} {M0 : MM} {P : Int32 → MM → Prop} {k66 : Nat → Int32 → Int32 → Int32 → Int32 → Int32 → MM → Prop} {k80 : Nat → Int32 → Int32 → Int32 → Int32 → Int32 → Int32 → MM → Prop} (hk66 : ∀ (l0 : Nat) (l5 : Int32) (l7 : Int32) (l8 : Int32) (l9 : Int32) (l10 : Int32) (M : MM), lenO M0 M → k66 l0 l5 l7 l8 l9 l10 M → R259 sl sx d M0 P 66 [some (vR (some l0)), none, none, none, none, some (vI l5), none, some (vI l7), some (vI l8), some (vI l9), some (vI l10), none, none] [] M) (hk80 : ∀ (l0 : Nat) (l5 : Int32) (l7 : Int32) (l8 : Int32) (l9 : Int32) (l10 : Int32) (l11 : Int32) (M : MM), lenO M0 M → k80 l0 l5 l7 l8 l9 l10 l11 M → R259 sl sx d M0 P 80 [some (vR (some l0)), none, none, none, none, some (vI l5), none, some (vI l7), some (vI l8), some (vI l9), some (vI l10), some (vI l11), none] [] M) (l0 : Nat) (l5 : Int32) (l7 : Int32) (l8 : Int32) (l9 : Int32) (l10 : Int32) (l11 : Int32) (s0 : Int32) (M : MM) (hM : lenO M0 M) (h : w259_149 k66 k80 l0 l5 l7 l8 l9 l10 l11 s0 M P) : R259 sl sx d M0 P 149 [some (vR (some l0)), none, none, none, none, some (vI l5), none, some (vI l7), some (vI l8), some (vI l9), some (vI l10), some (vI l11), none] [vI s0] M := by
  refine RN_k (callX_det _) 3 _ _ _ _ (show (s0 ≠ 0 → R259 sl sx d M0 P 159 [some (vR (some l0)), none, none, none, none, some (vI l5), none, some (vI l7), some (vI l8), some (vI l9), some (vI l10), some (vI l11), some (vI s0)] [] M) ∧ (¬ (s0 ≠ 0) → R259 sl sx d M0 P 156 [some (vR (some l0)), none, none, none, none, some (vI l5), none, some (vI l7), some (vI l8), some (vI l9), some (vI l10), some (vI l11), some (vI s0)] [] M) from ⟨fun hc => ?_, fun hc => ?_⟩)
  · replace h := h.1 hc
    refine RN_k (callX_det _) 4 _ _ _ _ (show callX TBg sl sx (d + 8) 33 [vI l8, vI l10] M (fun v M9 => R259 sl sx d M0 P 169 [some (vR (some l0)), none, none, none, none, some (vI l5), none, some (vI (l7 + (1 : Int32))), some (vI l8), some (vI l9), some (vI l10), some (vI l11), some (vI s0)] (pushO v []) M9) from ?_)
    refine callX_mono (callX_len (d := (d + 8)) rfl rfl rfl (c33 (d := d + 7) h)) ?_
    clear h
    rintro v9 M1 ⟨hl, r2, rfl, h⟩
    replace hM := lenT hM hl
    show R259 sl sx d M0 P 169 [some (vR (some l0)), none, none, none, none, some (vI l5), none, some (vI (l7 + (1 : Int32))), some (vI l8), some (vI l9), some (vI l10), some (vI l11), some (vI s0)] [vI r2] M1
    refine RN_k (callX_det _) 4 _ _ _ _ (show callX TBg sl sx (d + 8) 33 [vI l9, vI l11] M1 (fun v M9 => R259 sl sx d M0 P 178 [some (vR (some l0)), none, none, none, none, some (vI l5), none, some (vI (l7 + (1 : Int32))), some (vI r2), some (vI l9), some (vI l10), some (vI l11), some (vI s0)] (pushO v []) M9) from ?_)
    refine callX_mono (callX_len (d := (d + 8)) rfl rfl rfl (c33 (d := d + 7) h)) ?_
    clear h
    rintro v9 M3 ⟨hl, r4, rfl, h⟩
    replace hM := lenT hM hl
    show R259 sl sx d M0 P 178 [some (vR (some l0)), none, none, none, none, some (vI l5), none, some (vI (l7 + (1 : Int32))), some (vI r2), some (vI l9), some (vI l10), some (vI l11), some (vI s0)] [vI r4] M3
    refine RN_k (callX_det _) 1 _ _ _ _ (show R259 sl sx d M0 P 180 [some (vR (some l0)), none, none, none, none, some (vI l5), none, some (vI (l7 + (1 : Int32))), some (vI r2), some (vI r4), some (vI l10), some (vI l11), some (vI s0)] [] M3 from ?_)
    exact RN_weak (K := [some (vR (some l0)), none, none, none, none, some (vI l5), none, some (vI (l7 + (1 : Int32))), some (vI r2), some (vI r4), some (vI l10), some (vI l11), none]) (callX_det _) (show _ ∧ _ ∧ _ ∧ _ ∧ _ ∧ _ ∧ _ ∧ True from ⟨rfl, rfl, rfl, rfl, rfl, rfl, rfl, trivial⟩) (t259_180 hk66 hk80 l0 l5 (l7 + (1 : Int32)) r2 r4 l10 l11 _ hM h)
  · replace h := h.2 hc
    refine RN_k (callX_det _) 1 _ _ _ _ (show R259 sl sx d M0 P 180 [some (vR (some l0)), none, none, none, none, some (vI l5), none, some (vI l7), some (vI l8), some (vI l9), some (vI l10), some (vI l11), some (vI s0)] [] M from ?_)
    exact RN_weak (K := [some (vR (some l0)), none, none, none, none, some (vI l5), none, some (vI l7), some (vI l8), some (vI l9), some (vI l10), some (vI l11), none]) (callX_det _) (show _ ∧ _ ∧ _ ∧ _ ∧ _ ∧ _ ∧ _ ∧ True from ⟨rfl, rfl, rfl, rfl, rfl, rfl, rfl, trivial⟩) (t259_180 hk66 hk80 l0 l5 l7 l8 l9 l10 l11 _ hM h)
def w259_144 (k66 : Nat → Int32 → Int32 → Int32 → Int32 → Int32 → MM → Prop) (k80 : Nat → Int32 → Int32 → Int32 → Int32 → Int32 → Int32 → MM → Prop) (l0 : Nat) (l5 : Int32) (l7 : Int32) (l8 : Int32) (l9 : Int32) (l10 : Int32) (l11 : Int32) (M : MM) (P : Int32 → MM → Prop) : Prop := w259_149 k66 k80 l0 l5 l7 l8 l9 l10 l11 (1 : Int32) M P
theorem t259_144 {sl : Nat} {sx : Nat → Int32} {d : Nat} {M0 : MM} {P : Int32 → MM → Prop} {k66 : Nat → Int32 → Int32 → Int32 → Int32 → Int32 → MM → Prop} {k80 : Nat → Int32 → Int32 → Int32 → Int32 → Int32 → Int32 → MM → Prop} (hk66 : ∀ (l0 : Nat) (l5 : Int32) (l7 : Int32) (l8 : Int32) (l9 : Int32) (l10 : Int32) (M : MM), lenO M0 M → k66 l0 l5 l7 l8 l9 l10 M → R259 sl sx d M0 P 66 [some (vR (some l0)), none, none, none, none, some (vI l5), none, some (vI l7), some (vI l8), some (vI l9), some (vI l10), none, none] [] M) (hk80 : ∀ (l0 : Nat) (l5 : Int32) (l7 : Int32) (l8 : Int32) (l9 : Int32) (l10 : Int32) (l11 : Int32) (M : MM), lenO M0 M → k80 l0 l5 l7 l8 l9 l10 l11 M → R259 sl sx d M0 P 80 [some (vR (some l0)), none, none, none, none, some (vI l5), none, some (vI l7), some (vI l8), some (vI l9), some (vI l10), some (vI l11), none] [] M) (l0 : Nat) (l5 : Int32) (l7 : Int32) (l8 : Int32) (l9 : Int32) (l10 : Int32) (l11 : Int32) (M : MM) (hM : lenO M0 M) (h : w259_144 k66 k80 l0 l5 l7 l8 l9 l10 l11 M P) : R259 sl sx d M0 P 144 [some (vR (some l0)), none, none, none, none, some (vI l5), none, some (vI l7), some (vI l8), some (vI l9), some (vI l10), some (vI l11), none] [] M := by
  refine RN_k (callX_det _) 2 _ _ _ _ (show R259 sl sx d M0 P 149 [some (vR (some l0)), none, none, none, none, some (vI l5), none, some (vI l7), some (vI l8), some (vI l9), some (vI l10), some (vI l11), none] [vI (1 : Int32)] M from ?_)
  exact RN_weak (K := [some (vR (some l0)), none, none, none, none, some (vI l5), none, some (vI l7), some (vI l8), some (vI l9), some (vI l10), some (vI l11), none]) (callX_det _) (show _ ∧ _ ∧ _ ∧ _ ∧ _ ∧ _ ∧ _ ∧ True from ⟨rfl, rfl, rfl, rfl, rfl, rfl, rfl, trivial⟩) (t259_149 hk66 hk80 l0 l5 l7 l8 l9 l10 l11 (1 : Int32) _ hM h)
def w259_80 (k66 : Nat → Int32 → Int32 → Int32 → Int32 → Int32 → MM → Prop) : Nat → Nat → Int32 → Int32 → Int32 → Int32 → Int32 → Int32 → MM → (Int32 → MM → Prop) → Prop
  | 0 => fun _ _ _ _ _ _ _ _ _ => False
  | n + 1 => fun l0 l5 l7 l8 l9 l10 l11 M P => kd M l0 10 ∧ ((((mI M l0 28) - (1 : Int32)) ≤ l11 → (k66 l0 l5 l7 l8 l9 (l10 + (1 : Int32)) M)) ∧ (¬ (((mI M l0 28) - (1 : Int32)) ≤ l11) → (((l10 + l11) ≠ 0 → (kd M l0 10 ∧ (w218 (1 : Int32) l10 l11 M (fun r2 M1 => ∃ a3, mR M l0 35 = some a3 ∧ (inb M1 a3 14 r2 ∧ (((mI M1 a3 r2.toNatClampNeg) ≠ 0 → (w259_144 k66 (fun z0 z1 z2 z3 z4 z5 z6 z7 => w259_80 k66 n z0 z1 z2 z3 z4 z5 z6 z7 P) l0 l5 l7 l8 l9 l10 l11 M1 P)) ∧ (¬ ((mI M1 a3 r2.toNatClampNeg) ≠ 0) → (kd M1 l0 10 ∧ (w218 (0 : Int32) l10 l11 M1 (fun r5 M4 => ∃ a6, mR M1 l0 35 = some a6 ∧ (inb M4 a6 14 r5 ∧ (((mI M4 a6 r5.toNatClampNeg) = 0 → (w259_149 k66 (fun z0 z1 z2 z3 z4 z5 z6 z7 => w259_80 k66 n z0 z1 z2 z3 z4 z5 z6 z7 P) l0 l5 l7 l8 l9 l10 l11 (0 : Int32) M4 P)) ∧ (¬ ((mI M4 a6 r5.toNatClampNeg) = 0) → (w259_144 k66 (fun z0 z1 z2 z3 z4 z5 z6 z7 => w259_80 k66 n z0 z1 z2 z3 z4 z5 z6 z7 P) l0 l5 l7 l8 l9 l10 l11 M4 P)))))))))))))) ∧ (¬ ((l10 + l11) ≠ 0) → (kd M l0 10 ∧ w231 l0 (0 : Int32) (0 : Int32) M (fun r8 M7 => kd M7 l0 10 ∧ w232 l0 r8 M7 (fun r10 M9 => w259_149 k66 (fun z0 z1 z2 z3 z4 z5 z6 z7 => w259_80 k66 n z0 z1 z2 z3 z4 z5 z6 z7 P) l0 l5 l7 l8 l9 l10 l11 r10 M9 P)))))))
theorem t259_80 {sl : Nat} {sx : Nat → Int32} {d : Nat} {M0 : MM} {P : Int32 → MM → Prop} {k66 : Nat → Int32 → Int32 → Int32 → Int32 → Int32 → MM → Prop} (hk66 : ∀ (l0 : Nat) (l5 : Int32) (l7 : Int32) (l8 : Int32) (l9 : Int32) (l10 : Int32) (M : MM), lenO M0 M → k66 l0 l5 l7 l8 l9 l10 M → R259 sl sx d M0 P 66 [some (vR (some l0)), none, none, none, none, some (vI l5), none, some (vI l7), some (vI l8), some (vI l9), some (vI l10), none, none] [] M) (n : Nat) : ∀ (l0 : Nat) (l5 : Int32) (l7 : Int32) (l8 : Int32) (l9 : Int32) (l10 : Int32) (l11 : Int32) (M : MM) (_ : lenO M0 M) (_ : w259_80 k66 n l0 l5 l7 l8 l9 l10 l11 M P), R259 sl sx d M0 P 80 [some (vR (some l0)), none, none, none, none, some (vI l5), none, some (vI l7), some (vI l8), some (vI l9), some (vI l10), some (vI l11), none] [] M := by
  induction n with
  | zero => intro l0 l5 l7 l8 l9 l10 l11 M hM h; cases h
  | succ n ih =>
    intro l0 l5 l7 l8 l9 l10 l11 M hM h
    refine RN_k (callX_det _) 3 _ _ _ _ (show kd M l0 10 ∧ R259 sl sx d M0 P 86 [some (vR (some l0)), none, none, none, none, some (vI l5), none, some (vI l7), some (vI l8), some (vI l9), some (vI l10), some (vI l11), none] [vI (mI M l0 28), vI l11] M from ⟨h.1, ?_⟩)
    replace h := h.2
    refine RN_k (callX_det _) 3 _ _ _ _ (show (((mI M l0 28) - (1 : Int32)) ≤ l11 → R259 sl sx d M0 P 186 [some (vR (some l0)), none, none, none, none, some (vI l5), none, some (vI l7), some (vI l8), some (vI l9), some (vI l10), some (vI l11), none] [] M) ∧ (¬ (((mI M l0 28) - (1 : Int32)) ≤ l11) → R259 sl sx d M0 P 91 [some (vR (some l0)), none, none, none, none, some (vI l5), none, some (vI l7), some (vI l8), some (vI l9), some (vI l10), some (vI l11), none] [] M) from ⟨fun hc => ?_, fun hc => ?_⟩)
    · replace h := h.1 hc
      refine RN_k (callX_det _) 2 _ _ _ _ (show R259 sl sx d M0 P 66 [some (vR (some l0)), none, none, none, none, some (vI l5), none, some (vI l7), some (vI l8), some (vI l9), some (vI (l10 + (1 : Int32))), some (vI l11), none] [] M from ?_)
      exact RN_weak (K := [some (vR (some l0)), none, none, none, none, some (vI l5), none, some (vI l7), some (vI l8), some (vI l9), some (vI (l10 + (1 : Int32))), none, none]) (callX_det _) (show _ ∧ _ ∧ _ ∧ _ ∧ _ ∧ _ ∧ True from ⟨rfl, rfl, rfl, rfl, rfl, rfl, trivial⟩) (hk66 l0 l5 l7 l8 l9 (l10 + (1 : Int32)) _ hM h)
    · replace h := h.2 hc
      refine RN_k (callX_det _) 4 _ _ _ _ (show ((l10 + l11) ≠ 0 → R259 sl sx d M0 P 112 [some (vR (some l0)), none, none, none, none, some (vI l5), none, some (vI l7), some (vI l8), some (vI l9), some (vI l10), some (vI l11), none] [] M) ∧ (¬ ((l10 + l11) ≠ 0) → R259 sl sx d M0 P 99 [some (vR (some l0)), none, none, none, none, some (vI l5), none, some (vI l7), some (vI l8), some (vI l9), some (vI l10), some (vI l11), none] [] M) from ⟨fun hc => ?_, fun hc => ?_⟩)
      · replace h := h.1 hc
        refine RN_k (callX_det _) 2 _ _ _ _ (show kd M l0 10 ∧ R259 sl sx d M0 P 116 [some (vR (some l0)), none, none, none, none, some (vI l5), none, some (vI l7), some (vI l8), some (vI l9), some (vI l10), some (vI l11), none] [vR (mR M l0 35)] M from ⟨h.1, ?_⟩)
        replace h := h.2
        refine RN_k (callX_det _) 4 _ _ _ _ (show callX TBg sl sx (d + 8) 218 [vI (1 : Int32), vI l10, vI l11] M (fun v M9 => R259 sl sx d M0 P 124 [some (vR (some l0)), none, none, none, none, some (vI l5), none, some (vI l7), some (vI l8), some (vI l9), some (vI l10), some (vI l11), none] (pushO v [vR (mR M l0 35)]) M9) from ?_)
        refine callX_mono (callX_len (d := (d + 8)) rfl rfl rfl (c218 (d := d + 7) h)) ?_
        clear h
        rintro v9 M1 ⟨hl, r2, rfl, h⟩
        replace hM := lenT hM hl
        show R259 sl sx d M0 P 124 [some (vR (some l0)), none, none, none, none, some (vI l5), none, some (vI l7), some (vI l8), some (vI l9), some (vI l10), some (vI l11), none] [vI r2, vR (mR M l0 35)] M1
        obtain ⟨a3, he, h⟩ := h
        rw [he]
        refine RN_k (callX_det _) 1 _ _ _ _ (show inb M1 a3 14 r2 ∧ R259 sl sx d M0 P 125 [some (vR (some l0)), none, none, none, none, some (vI l5), none, some (vI l7), some (vI l8), some (vI l9), some (vI l10), some (vI l11), none] [vI (mI M1 a3 r2.toNatClampNeg)] M1 from ⟨h.1, ?_⟩)
        replace h := h.2
        refine RN_k (callX_det _) 1 _ _ _ _ (show ((mI M1 a3 r2.toNatClampNeg) ≠ 0 → R259 sl sx d M0 P 144 [some (vR (some l0)), none, none, none, none, some (vI l5), none, some (vI l7), some (vI l8), some (vI l9), some (vI l10), some (vI l11), none] [] M1) ∧ (¬ ((mI M1 a3 r2.toNatClampNeg) ≠ 0) → R259 sl sx d M0 P 128 [some (vR (some l0)), none, none, none, none, some (vI l5), none, some (vI l7), some (vI l8), some (vI l9), some (vI l10), some (vI l11), none] [] M1) from ⟨fun hc => ?_, fun hc => ?_⟩)
        · replace h := h.1 hc
          exact RN_weak (K := [some (vR (some l0)), none, none, none, none, some (vI l5), none, some (vI l7), some (vI l8), some (vI l9), some (vI l10), some (vI l11), none]) (callX_det _) (show _ ∧ _ ∧ _ ∧ _ ∧ _ ∧ _ ∧ _ ∧ True from ⟨rfl, rfl, rfl, rfl, rfl, rfl, rfl, trivial⟩) (t259_144 hk66 ih l0 l5 l7 l8 l9 l10 l11 _ hM h)
        · replace h := h.2 hc
          refine RN_k (callX_det _) 2 _ _ _ _ (show kd M1 l0 10 ∧ R259 sl sx d M0 P 132 [some (vR (some l0)), none, none, none, none, some (vI l5), none, some (vI l7), some (vI l8), some (vI l9), some (vI l10), some (vI l11), none] [vR (mR M1 l0 35)] M1 from ⟨h.1, ?_⟩)
          replace h := h.2
          refine RN_k (callX_det _) 4 _ _ _ _ (show callX TBg sl sx (d + 8) 218 [vI (0 : Int32), vI l10, vI l11] M1 (fun v M9 => R259 sl sx d M0 P 140 [some (vR (some l0)), none, none, none, none, some (vI l5), none, some (vI l7), some (vI l8), some (vI l9), some (vI l10), some (vI l11), none] (pushO v [vR (mR M1 l0 35)]) M9) from ?_)
          refine callX_mono (callX_len (d := (d + 8)) rfl rfl rfl (c218 (d := d + 7) h)) ?_
          clear h
          rintro v9 M4 ⟨hl, r5, rfl, h⟩
          replace hM := lenT hM hl
          show R259 sl sx d M0 P 140 [some (vR (some l0)), none, none, none, none, some (vI l5), none, some (vI l7), some (vI l8), some (vI l9), some (vI l10), some (vI l11), none] [vI r5, vR (mR M1 l0 35)] M4
          obtain ⟨a6, he, h⟩ := h
          rw [he]
          refine RN_k (callX_det _) 1 _ _ _ _ (show inb M4 a6 14 r5 ∧ R259 sl sx d M0 P 141 [some (vR (some l0)), none, none, none, none, some (vI l5), none, some (vI l7), some (vI l8), some (vI l9), some (vI l10), some (vI l11), none] [vI (mI M4 a6 r5.toNatClampNeg)] M4 from ⟨h.1, ?_⟩)
          replace h := h.2
          refine RN_k (callX_det _) 1 _ _ _ _ (show ((mI M4 a6 r5.toNatClampNeg) = 0 → R259 sl sx d M0 P 148 [some (vR (some l0)), none, none, none, none, some (vI l5), none, some (vI l7), some (vI l8), some (vI l9), some (vI l10), some (vI l11), none] [] M4) ∧ (¬ ((mI M4 a6 r5.toNatClampNeg) = 0) → R259 sl sx d M0 P 144 [some (vR (some l0)), none, none, none, none, some (vI l5), none, some (vI l7), some (vI l8), some (vI l9), some (vI l10), some (vI l11), none] [] M4) from ⟨fun hc => ?_, fun hc => ?_⟩)
          · replace h := h.1 hc
            refine RN_k (callX_det _) 1 _ _ _ _ (show R259 sl sx d M0 P 149 [some (vR (some l0)), none, none, none, none, some (vI l5), none, some (vI l7), some (vI l8), some (vI l9), some (vI l10), some (vI l11), none] [vI (0 : Int32)] M4 from ?_)
            exact RN_weak (K := [some (vR (some l0)), none, none, none, none, some (vI l5), none, some (vI l7), some (vI l8), some (vI l9), some (vI l10), some (vI l11), none]) (callX_det _) (show _ ∧ _ ∧ _ ∧ _ ∧ _ ∧ _ ∧ _ ∧ True from ⟨rfl, rfl, rfl, rfl, rfl, rfl, rfl, trivial⟩) (t259_149 hk66 ih l0 l5 l7 l8 l9 l10 l11 (0 : Int32) _ hM h)
          · replace h := h.2 hc
            exact RN_weak (K := [some (vR (some l0)), none, none, none, none, some (vI l5), none, some (vI l7), some (vI l8), some (vI l9), some (vI l10), some (vI l11), none]) (callX_det _) (show _ ∧ _ ∧ _ ∧ _ ∧ _ ∧ _ ∧ _ ∧ True from ⟨rfl, rfl, rfl, rfl, rfl, rfl, rfl, trivial⟩) (t259_144 hk66 ih l0 l5 l7 l8 l9 l10 l11 _ hM h)
      · replace h := h.2 hc
        refine RN_k (callX_det _) 5 _ _ _ _ (show kd M l0 10 ∧ callX TBg sl sx (d + 8) 231 [vR (some l0), vI (0 : Int32), vI (0 : Int32)] M (fun v M9 => R259 sl sx d M0 P 106 [some (vR (some l0)), none, none, none, none, some (vI l5), none, some (vI l7), some (vI l8), some (vI l9), some (vI l10), some (vI l11), none] (pushO v [vR (some l0)]) M9) from ⟨h.1, ?_⟩)
        replace h := h.2
        refine callX_mono (callX_len (d := (d + 8)) rfl rfl rfl (c231 (d := d + 6) h)) ?_
        clear h
        rintro v9 M7 ⟨hl, r8, rfl, h⟩
        replace hM := lenT hM hl
        show R259 sl sx d M0 P 106 [some (vR (some l0)), none, none, none, none, some (vI l5), none, some (vI l7), some (vI l8), some (vI l9), some (vI l10), some (vI l11), none] [vI r8, vR (some l0)] M7
        refine RN_k (callX_det _) 1 _ _ _ _ (show kd M7 l0 10 ∧ callX TBg sl sx (d + 8) 232 [vR (some l0), vI r8] M7 (fun v M9 => R259 sl sx d M0 P 109 [some (vR (some l0)), none, none, none, none, some (vI l5), none, some (vI l7), some (vI l8), some (vI l9), some (vI l10), some (vI l11), none] (pushO v []) M9) from ⟨h.1, ?_⟩)
        replace h := h.2
        refine callX_mono (callX_len (d := (d + 8)) rfl rfl rfl (c232 (d := d + 7) h)) ?_
        clear h
        rintro v9 M9 ⟨hl, r10, rfl, h⟩
        replace hM := lenT hM hl
        show R259 sl sx d M0 P 109 [some (vR (some l0)), none, none, none, none, some (vI l5), none, some (vI l7), some (vI l8), some (vI l9), some (vI l10), some (vI l11), none] [vI r10] M9
        refine RN_k (callX_det _) 1 _ _ _ _ (show R259 sl sx d M0 P 149 [some (vR (some l0)), none, none, none, none, some (vI l5), none, some (vI l7), some (vI l8), some (vI l9), some (vI l10), some (vI l11), none] [vI r10] M9 from ?_)
        exact RN_weak (K := [some (vR (some l0)), none, none, none, none, some (vI l5), none, some (vI l7), some (vI l8), some (vI l9), some (vI l10), some (vI l11), none]) (callX_det _) (show _ ∧ _ ∧ _ ∧ _ ∧ _ ∧ _ ∧ _ ∧ True from ⟨rfl, rfl, rfl, rfl, rfl, rfl, rfl, trivial⟩) (t259_149 hk66 ih l0 l5 l7 l8 l9 l10 l11 r10 _ hM h)
def w259_66 : Nat → Nat → Int32 → Int32 → Int32 → Int32 → Int32 → MM → (Int32 → MM → Prop) → Prop
  | 0 => fun _ _ _ _ _ _ _ _ => False
  | n + 1 => fun l0 l5 l7 l8 l9 l10 M P => kd M l0 10 ∧ ((((mI M l0 27) - (1 : Int32)) ≤ l10 → ((l5 ≠ 0 → ((l7 ≠ 0 → ((l5 ≠ (1 : Int32) → (w259_231  (some l0) l9 M P)) ∧ (¬ (l5 ≠ (1 : Int32)) → (w259_231  (some l0) l8 M P)))) ∧ (¬ (l7 ≠ 0) → (kd M l0 10 ∧ w167 l0 (5 : Int32) M (fun r2 M1 => w259_234  r2 M1 P))))) ∧ (¬ (l5 ≠ 0) → (kd M l0 10 ∧ w177 l0 l7 M (fun r4 M3 => P r4 M3))))) ∧ (¬ (((mI M l0 27) - (1 : Int32)) ≤ l10) → (∃ n2, w259_80 (fun z0 z1 z2 z3 z4 z5 z6 => w259_66  n z0 z1 z2 z3 z4 z5 z6 P) n2 l0 l5 l7 l8 l9 l10 (0 : Int32) M P)))
theorem t259_66 {sl : Nat} {sx : Nat → Int32} {d : Nat} {M0 : MM} {P : Int32 → MM → Prop} (n : Nat) : ∀ (l0 : Nat) (l5 : Int32) (l7 : Int32) (l8 : Int32) (l9 : Int32) (l10 : Int32) (M : MM) (_ : lenO M0 M) (_ : w259_66  n l0 l5 l7 l8 l9 l10 M P), R259 sl sx d M0 P 66 [some (vR (some l0)), none, none, none, none, some (vI l5), none, some (vI l7), some (vI l8), some (vI l9), some (vI l10), none, none] [] M := by
  induction n with
  | zero => intro l0 l5 l7 l8 l9 l10 M hM h; cases h
  | succ n ih =>
    intro l0 l5 l7 l8 l9 l10 M hM h
    refine RN_k (callX_det _) 3 _ _ _ _ (show kd M l0 10 ∧ R259 sl sx d M0 P 72 [some (vR (some l0)), none, none, none, none, some (vI l5), none, some (vI l7), some (vI l8), some (vI l9), some (vI l10), none, none] [vI (mI M l0 27), vI l10] M from ⟨h.1, ?_⟩)
    replace h := h.2
    refine RN_k (callX_det _) 3 _ _ _ _ (show (((mI M l0 27) - (1 : Int32)) ≤ l10 → R259 sl sx d M0 P 192 [some (vR (some l0)), none, none, none, none, some (vI l5), none, some (vI l7), some (vI l8), some (vI l9), some (vI l10), none, none] [] M) ∧ (¬ (((mI M l0 27) - (1 : Int32)) ≤ l10) → R259 sl sx d M0 P 77 [some (vR (some l0)), none, none, none, none, some (vI l5), none, some (vI l7), some (vI l8), some (vI l9), some (vI l10), none, none] [] M) from ⟨fun hc => ?_, fun hc => ?_⟩)
    · replace h := h.1 hc
      refine RN_k (callX_det _) 2 _ _ _ _ (show (l5 ≠ 0 → R259 sl sx d M0 P 204 [some (vR (some l0)), none, none, none, none, some (vI l5), none, some (vI l7), some (vI l8), some (vI l9), some (vI l10), none, none] [] M) ∧ (¬ (l5 ≠ 0) → R259 sl sx d M0 P 197 [some (vR (some l0)), none, none, none, none, some (vI l5), none, some (vI l7), some (vI l8), some (vI l9), some (vI l10), none, none] [] M) from ⟨fun hc => ?_, fun hc => ?_⟩)
      · replace h := h.1 hc
        refine RN_k (callX_det _) 2 _ _ _ _ (show (l7 ≠ 0 → R259 sl sx d M0 P 217 [some (vR (some l0)), none, none, none, none, some (vI l5), none, some (vI l7), some (vI l8), some (vI l9), some (vI l10), none, none] [] M) ∧ (¬ (l7 ≠ 0) → R259 sl sx d M0 P 209 [some (vR (some l0)), none, none, none, none, some (vI l5), none, some (vI l7), some (vI l8), some (vI l9), some (vI l10), none, none] [] M) from ⟨fun hc => ?_, fun hc => ?_⟩)
        · replace h := h.1 hc
          refine RN_k (callX_det _) 4 _ _ _ _ (show (l5 ≠ (1 : Int32) → R259 sl sx d M0 P 229 [some (vR (some l0)), none, none, none, none, some (vI l5), none, some (vI l7), some (vI l8), some (vI l9), some (vI l10), none, none] [vR (some l0)] M) ∧ (¬ (l5 ≠ (1 : Int32)) → R259 sl sx d M0 P 224 [some (vR (some l0)), none, none, none, none, some (vI l5), none, some (vI l7), some (vI l8), some (vI l9), some (vI l10), none, none] [vR (some l0)] M) from ⟨fun hc => ?_, fun hc => ?_⟩)
          · replace h := h.1 hc
            refine RN_k (callX_det _) 1 _ _ _ _ (show R259 sl sx d M0 P 231 [some (vR (some l0)), none, none, none, none, some (vI l5), none, some (vI l7), some (vI l8), some (vI l9), some (vI l10), none, none] [vI l9, vR (some l0)] M from ?_)
            exact RN_weak (K := [none, none, none, none, none, none, none, none, none, none, none, none, none]) (callX_det _) (show True from trivial) (t259_231  (some l0) l9 _ hM h)
          · replace h := h.2 hc
            refine RN_k (callX_det _) 2 _ _ _ _ (show R259 sl sx d M0 P 231 [some (vR (some l0)), none, none, none, none, some (vI l5), none, some (vI l7), some (vI l8), some (vI l9), some (vI l10), none, none] [vI l8, vR (some l0)] M from ?_)
            exact RN_weak (K := [none, none, none, none, none, none, none, none, none, none, none, none, none]) (callX_det _) (show True from trivial) (t259_231  (some l0) l8 _ hM h)
        · replace h := h.2 hc
          refine RN_k (callX_det _) 3 _ _ _ _ (show kd M l0 10 ∧ callX TBg sl sx (d + 8) 167 [vR (some l0), vI (5 : Int32)] M (fun v M9 => R259 sl sx d M0 P 214 [some (vR (some l0)), none, none, none, none, some (vI l5), none, some (vI l7), some (vI l8), some (vI l9), some (vI l10), none, none] (pushO v []) M9) from ⟨h.1, ?_⟩)
          replace h := h.2
          refine callX_mono (callX_len (d := (d + 8)) rfl rfl rfl (c167 (d := d + 7) h)) ?_
          clear h
          rintro v9 M1 ⟨hl, r2, rfl, h⟩
          replace hM := lenT hM hl
          show R259 sl sx d M0 P 214 [some (vR (some l0)), none, none, none, none, some (vI l5), none, some (vI l7), some (vI l8), some (vI l9), some (vI l10), none, none] [vI r2] M1
          refine RN_k (callX_det _) 1 _ _ _ _ (show R259 sl sx d M0 P 234 [some (vR (some l0)), none, none, none, none, some (vI l5), none, some (vI l7), some (vI l8), some (vI l9), some (vI l10), none, none] [vI r2] M1 from ?_)
          exact RN_weak (K := [none, none, none, none, none, none, none, none, none, none, none, none, none]) (callX_det _) (show True from trivial) (t259_234  r2 _ hM h)
      · replace h := h.2 hc
        refine RN_k (callX_det _) 3 _ _ _ _ (show kd M l0 10 ∧ callX TBg sl sx (d + 8) 177 [vR (some l0), vI l7] M (fun v M9 => R259 sl sx d M0 P 203 [some (vR (some l0)), none, none, none, none, some (vI l5), none, some (vI l7), some (vI l8), some (vI l9), some (vI l10), none, none] (pushO v []) M9) from ⟨h.1, ?_⟩)
        replace h := h.2
        refine callX_mono (callX_len (d := (d + 8)) rfl rfl rfl (c177 (d := d + 7) h)) ?_
        clear h
        rintro v9 M3 ⟨hl, r4, rfl, h⟩
        replace hM := lenT hM hl
        show R259 sl sx d M0 P 203 [some (vR (some l0)), none, none, none, none, some (vI l5), none, some (vI l7), some (vI l8), some (vI l9), some (vI l10), none, none] [vI r4] M3
        exact RN_k (callX_det _) 1 _ _ _ _ (show rtW q259 M0 (PI P) (some (vI r4)) M3 from ⟨⟨_, rfl⟩, hM.1, hM.2, _, rfl, h⟩)
    · replace h := h.2 hc
      refine RN_k (callX_det _) 2 _ _ _ _ (show R259 sl sx d M0 P 80 [some (vR (some l0)), none, none, none, none, some (vI l5), none, some (vI l7), some (vI l8), some (vI l9), some (vI l10), some (vI (0 : Int32)), none] [] M from ?_)
      obtain ⟨n2, h⟩ := h
      exact RN_weak (K := [some (vR (some l0)), none, none, none, none, some (vI l5), none, some (vI l7), some (vI l8), some (vI l9), some (vI l10), some (vI (0 : Int32)), none]) (callX_det _) (show _ ∧ _ ∧ _ ∧ _ ∧ _ ∧ _ ∧ _ ∧ True from ⟨rfl, rfl, rfl, rfl, rfl, rfl, rfl, trivial⟩) (t259_80 ih n2 l0 l5 l7 l8 l9 l10 (0 : Int32) _ hM h)
def w259_23 (l0 : Nat) (l1 : Int32) (l2 : Int32) (l3 : Int32) (l4 : Int32) (l5 : Int32) (s0 : Int32) (M : MM) (P : Int32 → MM → Prop) : Prop := (s0 ≤ 0 → (kd M l0 10 ∧ w211 l0 l1 l2 M (fun M1 => kd M1 l0 10 ∧ w215 l0 l3 l4 M1 (fun M2 => kd M2 l0 10 ∧ w230 l0 M2 (fun M3 => ∃ n2, w259_66  n2 l0 l5 (0 : Int32) (-1 : Int32) (-1 : Int32) (0 : Int32) M3 P))))) ∧ (¬ (s0 ≤ 0) → (kd M l0 10 ∧ w167 l0 s0 M (fun r5 M4 => P r5 M4)))
theorem t259_23 {sl : Nat} {sx : Nat → Int32} {d : Nat} {M0 : MM} {P : Int32 → MM → Prop} (l0 : Nat) (l1 : Int32) (l2 : Int32) (l3 : Int32) (l4 : Int32) (l5 : Int32) (s0 : Int32) (M : MM) (hM : lenO M0 M) (h : w259_23  l0 l1 l2 l3 l4 l5 s0 M P) : R259 sl sx d M0 P 23 [some (vR (some l0)), some (vI l1), some (vI l2), some (vI l3), some (vI l4), some (vI l5), none, none, none, none, none, none, none] [vI s0] M := by
  refine RN_k (callX_det _) 3 _ _ _ _ (show (s0 ≤ 0 → R259 sl sx d M0 P 37 [some (vR (some l0)), some (vI l1), some (vI l2), some (vI l3), some (vI l4), some (vI l5), some (vI s0), none, none, none, none, none, none] [] M) ∧ (¬ (s0 ≤ 0) → R259 sl sx d M0 P 30 [some (vR (some l0)), some (vI l1), some (vI l2), some (vI l3), some (vI l4), some (vI l5), some (vI s0), none, none, none, none, none, none] [] M) from ⟨fun hc => ?_, fun hc => ?_⟩)
  · replace h := h.1 hc
    refine RN_k (callX_det _) 4 _ _ _ _ (show kd M l0 10 ∧ callX TBg sl sx (d + 8) 211 [vR (some l0), vI l1, vI l2] M (fun v M9 => R259 sl sx d M0 P 43 [some (vR (some l0)), some (vI l1), some (vI l2), some (vI l3), some (vI l4), some (vI l5), some (vI s0), none, none, none, none, none, none] (pushO v []) M9) from ⟨h.1, ?_⟩)
    replace h := h.2
    refine callX_mono (callX_len (d := (d + 8)) rfl rfl rfl (c211 (d := d + 3) h)) ?_
    clear h
    rintro v9 M1 ⟨hl, rfl, h⟩
    replace hM := lenT hM hl
    show R259 sl sx d M0 P 43 [some (vR (some l0)), some (vI l1), some (vI l2), some (vI l3), some (vI l4), some (vI l5), some (vI s0), none, none, none, none, none, none] [] M1
    refine RN_k (callX_det _) 4 _ _ _ _ (show kd M1 l0 10 ∧ callX TBg sl sx (d + 8) 215 [vR (some l0), vI l3, vI l4] M1 (fun v M9 => R259 sl sx d M0 P 50 [some (vR (some l0)), some (vI l1), some (vI l2), some (vI l3), some (vI l4), some (vI l5), some (vI s0), none, none, none, none, none, none] (pushO v []) M9) from ⟨h.1, ?_⟩)
    replace h := h.2
    refine callX_mono (callX_len (d := (d + 8)) rfl rfl rfl (c215 (d := d + 7) h)) ?_
    clear h
    rintro v9 M2 ⟨hl, rfl, h⟩
    replace hM := lenT hM hl
    show R259 sl sx d M0 P 50 [some (vR (some l0)), some (vI l1), some (vI l2), some (vI l3), some (vI l4), some (vI l5), some (vI s0), none, none, none, none, none, none] [] M2
    refine RN_k (callX_det _) 2 _ _ _ _ (show kd M2 l0 10 ∧ callX TBg sl sx (d + 8) 230 [vR (some l0)] M2 (fun v M9 => R259 sl sx d M0 P 54 [some (vR (some l0)), some (vI l1), some (vI l2), some (vI l3), some (vI l4), some (vI l5), some (vI s0), none, none, none, none, none, none] (pushO v []) M9) from ⟨h.1, ?_⟩)
    replace h := h.2
    refine callX_mono (callX_len (d := (d + 8)) rfl rfl rfl (c230 (d := d) h)) ?_
    clear h
    rintro v9 M3 ⟨hl, rfl, h⟩
    replace hM := lenT hM hl
    show R259 sl sx d M0 P 54 [some (vR (some l0)), some (vI l1), some (vI l2), some (vI l3), some (vI l4), some (vI l5), some (vI s0), none, none, none, none, none, none] [] M3
    refine RN_k (callX_det _) 8 _ _ _ _ (show R259 sl sx d M0 P 66 [some (vR (some l0)), some (vI l1), some (vI l2), some (vI l3), some (vI l4), some (vI l5), some (vI s0), some (vI (0 : Int32)), some (vI (-1 : Int32)), some (vI (-1 : Int32)), some (vI (0 : Int32)), none, none] [] M3 from ?_)
    obtain ⟨n2, h⟩ := h
    exact RN_weak (K := [some (vR (some l0)), none, none, none, none, some (vI l5), none, some (vI (0 : Int32)), some (vI (-1 : Int32)), some (vI (-1 : Int32)), some (vI (0 : Int32)), none, none]) (callX_det _) (show _ ∧ _ ∧ _ ∧ _ ∧ _ ∧ _ ∧ True from ⟨rfl, rfl, rfl, rfl, rfl, rfl, trivial⟩) (t259_66  n2 l0 l5 (0 : Int32) (-1 : Int32) (-1 : Int32) (0 : Int32) _ hM h)
  · replace h := h.2 hc
    refine RN_k (callX_det _) 3 _ _ _ _ (show kd M l0 10 ∧ callX TBg sl sx (d + 8) 167 [vR (some l0), vI s0] M (fun v M9 => R259 sl sx d M0 P 36 [some (vR (some l0)), some (vI l1), some (vI l2), some (vI l3), some (vI l4), some (vI l5), some (vI s0), none, none, none, none, none, none] (pushO v []) M9) from ⟨h.1, ?_⟩)
    replace h := h.2
    refine callX_mono (callX_len (d := (d + 8)) rfl rfl rfl (c167 (d := d + 7) h)) ?_
    clear h
    rintro v9 M4 ⟨hl, r5, rfl, h⟩
    replace hM := lenT hM hl
    show R259 sl sx d M0 P 36 [some (vR (some l0)), some (vI l1), some (vI l2), some (vI l3), some (vI l4), some (vI l5), some (vI s0), none, none, none, none, none, none] [vI r5] M4
    exact RN_k (callX_det _) 1 _ _ _ _ (show rtW q259 M0 (PI P) (some (vI r5)) M4 from ⟨⟨_, rfl⟩, hM.1, hM.2, _, rfl, h⟩)
def w259 (l0 : Nat) (l1 : Int32) (l2 : Int32) (l3 : Int32) (l4 : Int32) (l5 : Int32) (M : MM) (P : Int32 → MM → Prop) : Prop := w166 l5 (0 : Int32) (2 : Int32) M (fun r2 M1 => (r2 ≠ 0 → (kd M1 l0 10 ∧ w237 l0 l1 l2 l3 l4 M1 (fun r4 M3 => w259_23  l0 l1 l2 l3 l4 l5 r4 M3 P))) ∧ (¬ (r2 ≠ 0) → (w259_23  l0 l1 l2 l3 l4 l5 (1 : Int32) M1 P)))
theorem t259_E {sl : Nat} {sx : Nat → Int32} {d : Nat} {M0 : MM} {P : Int32 → MM → Prop} (l0 : Nat) (l1 : Int32) (l2 : Int32) (l3 : Int32) (l4 : Int32) (l5 : Int32) (M : MM) (hM : lenO M0 M) (h : w259  l0 l1 l2 l3 l4 l5 M P) : R259 sl sx d M0 P 0 [some (vR (some l0)), some (vI l1), some (vI l2), some (vI l3), some (vI l4), some (vI l5), none, none, none, none, none, none, none] [] M := by
  refine RN_k (callX_det _) 4 _ _ _ _ (show callX TBg sl sx (d + 8) 166 [vI l5, vI (0 : Int32), vI (2 : Int32)] M (fun v M9 => R259 sl sx d M0 P 7 [some (vR (some l0)), some (vI l1), some (vI l2), some (vI l3), some (vI l4), some (vI l5), none, none, none, none, none, none, none] (pushO v []) M9) from ?_)
  refine callX_mono (callX_len (d := (d + 8)) rfl rfl rfl (c166 (d := d + 7) h)) ?_
  clear h
  rintro v9 M1 ⟨hl, r2, rfl, h⟩
  replace hM := lenT hM hl
  show R259 sl sx d M0 P 7 [some (vR (some l0)), some (vI l1), some (vI l2), some (vI l3), some (vI l4), some (vI l5), none, none, none, none, none, none, none] [vI r2] M1
  refine RN_k (callX_det _) 1 _ _ _ _ (show (r2 ≠ 0 → R259 sl sx d M0 P 14 [some (vR (some l0)), some (vI l1), some (vI l2), some (vI l3), some (vI l4), some (vI l5), none, none, none, none, none, none, none] [] M1) ∧ (¬ (r2 ≠ 0) → R259 sl sx d M0 P 10 [some (vR (some l0)), some (vI l1), some (vI l2), some (vI l3), some (vI l4), some (vI l5), none, none, none, none, none, none, none] [] M1) from ⟨fun hc => ?_, fun hc => ?_⟩)
  · replace h := h.1 hc
    refine RN_k (callX_det _) 6 _ _ _ _ (show kd M1 l0 10 ∧ callX TBg sl sx (d + 8) 237 [vR (some l0), vI l1, vI l2, vI l3, vI l4] M1 (fun v M9 => R259 sl sx d M0 P 23 [some (vR (some l0)), some (vI l1), some (vI l2), some (vI l3), some (vI l4), some (vI l5), none, none, none, none, none, none, none] (pushO v []) M9) from ⟨h.1, ?_⟩)
    replace h := h.2
    refine callX_mono (callX_len (d := (d + 8)) rfl rfl rfl (c237 (d := d + 4) h)) ?_
    clear h
    rintro v9 M3 ⟨hl, r4, rfl, h⟩
    replace hM := lenT hM hl
    show R259 sl sx d M0 P 23 [some (vR (some l0)), some (vI l1), some (vI l2), some (vI l3), some (vI l4), some (vI l5), none, none, none, none, none, none, none] [vI r4] M3
    exact RN_weak (K := [some (vR (some l0)), some (vI l1), some (vI l2), some (vI l3), some (vI l4), some (vI l5), none, none, none, none, none, none, none]) (callX_det _) (show _ ∧ _ ∧ _ ∧ _ ∧ _ ∧ _ ∧ True from ⟨rfl, rfl, rfl, rfl, rfl, rfl, trivial⟩) (t259_23  l0 l1 l2 l3 l4 l5 r4 _ hM h)
  · replace h := h.2 hc
    refine RN_k (callX_det _) 2 _ _ _ _ (show R259 sl sx d M0 P 23 [some (vR (some l0)), some (vI l1), some (vI l2), some (vI l3), some (vI l4), some (vI l5), none, none, none, none, none, none, none] [vI (1 : Int32)] M1 from ?_)
    exact RN_weak (K := [some (vR (some l0)), some (vI l1), some (vI l2), some (vI l3), some (vI l4), some (vI l5), none, none, none, none, none, none, none]) (callX_det _) (show _ ∧ _ ∧ _ ∧ _ ∧ _ ∧ _ ∧ True from ⟨rfl, rfl, rfl, rfl, rfl, rfl, trivial⟩) (t259_23  l0 l1 l2 l3 l4 l5 (1 : Int32) _ hM h)
theorem c259 {sl : Nat} {sx : Nat → Int32} {d : Nat} {l0 : Nat} {l1 : Int32} {l2 : Int32} {l3 : Int32} {l4 : Int32} {l5 : Int32} {M : MM} {P : Int32 → MM → Prop} (h : w259 l0 l1 l2 l3 l4 l5 M P) : callX TBg sl sx (d + 9) 259 [vR (some l0), vI l1, vI l2, vI l3, vI l4, vI l5] M (PI P) :=
  cX (d := d + 8) q259 (false, tb259) rfl rfl rfl (t259_E l0 l1 l2 l3 l4 l5 M lenR h)
-- TwoLeashModel.laysPiece(II)V
abbrev q261 : MQ7 := (3, 1, 5, 10, 0, 0, 0)
abbrev R261 (sl : Nat) (sx : Nat → Int32) (d : Nat) (M0 : MM) (P : MM → Prop) : Nat → LL → List VV → MM → Prop := RN 10 false (mS M0).length (mT M0) 0 0 sl sx (callX TBg sl sx (d + 105)) (rtW q261 M0 (PV P)) (as2 tb261)
def w261_117 (k20 : Nat → Int32 → Int32 → MM → Prop) (k34 : Nat → Int32 → Int32 → Int32 → MM → Prop) (l0 : Nat) (l2 : Int32) (l3 : Int32) (l4 : Int32) (M : MM) (P : MM → Prop) : Prop := k34 l0 l2 l3 (l4 + (1 : Int32)) M
theorem t261_117 {sl : Nat} {sx : Nat → Int32} {d : Nat} {M0 : MM} {P : MM → Prop} {k20 : Nat → Int32 → Int32 → MM → Prop} {k34 : Nat → Int32 → Int32 → Int32 → MM → Prop} (hk20 : ∀ (l0 : Nat) (l2 : Int32) (l3 : Int32) (M : MM), lenO M0 M → k20 l0 l2 l3 M → R261 sl sx d M0 P 20 [some (vR (some l0)), none, some (vI l2), some (vI l3), none] [] M) (hk34 : ∀ (l0 : Nat) (l2 : Int32) (l3 : Int32) (l4 : Int32) (M : MM), lenO M0 M → k34 l0 l2 l3 l4 M → R261 sl sx d M0 P 34 [some (vR (some l0)), none, some (vI l2), some (vI l3), some (vI l4)] [] M) (l0 : Nat) (l2 : Int32) (l3 : Int32) (l4 : Int32) (M : MM) (hM : lenO M0 M) (h : w261_117 k20 k34 l0 l2 l3 l4 M P) : R261 sl sx d M0 P 117 [some (vR (some l0)), none, some (vI l2), some (vI l3), some (vI l4)] [] M := by
  refine RN_k (callX_det _) 2 _ _ _ _ (show R261 sl sx d M0 P 34 [some (vR (some l0)), none, some (vI l2), some (vI l3), some (vI (l4 + (1 : Int32)))] [] M from ?_)
  exact RN_weak (K := [some (vR (some l0)), none, some (vI l2), some (vI l3), some (vI (l4 + (1 : Int32)))]) (callX_det _) (show _ ∧ _ ∧ _ ∧ _ ∧ True from ⟨rfl, rfl, rfl, rfl, trivial⟩) (hk34 l0 l2 l3 (l4 + (1 : Int32)) _ hM h)
def w261_90 (k20 : Nat → Int32 → Int32 → MM → Prop) (k34 : Nat → Int32 → Int32 → Int32 → MM → Prop) (l0 : Nat) (l2 : Int32) (l3 : Int32) (l4 : Int32) (M : MM) (P : MM → Prop) : Prop := kd M l0 10 ∧ (kd (sI M l0 63 l3) l0 10 ∧ (kd (sI (sI M l0 63 l3) l0 64 l4) l0 10 ∧ (kd (sI (sI M l0 63 l3) l0 64 l4) l0 10 ∧ (kd (sL (sI (sI M l0 63 l3) l0 64 l4) l0 65 (mL (sI (sI M l0 63 l3) l0 64 l4) l0 52)) l0 10 ∧ (kd (sL (sI (sI M l0 63 l3) l0 64 l4) l0 65 (mL (sI (sI M l0 63 l3) l0 64 l4) l0 52)) l0 10 ∧ (w261_117 k20 k34 l0 l2 l3 l4 (sL (sL (sI (sI M l0 63 l3) l0 64 l4) l0 65 (mL (sI (sI M l0 63 l3) l0 64 l4) l0 52)) l0 66 (mL (sL (sI (sI M l0 63 l3) l0 64 l4) l0 65 (mL (sI (sI M l0 63 l3) l0 64 l4) l0 52)) l0 53)) P))))))
theorem t261_90 {sl : Nat} {sx : Nat → Int32} {d : Nat} {M0 : MM} {P : MM → Prop} {k20 : Nat → Int32 → Int32 → MM → Prop} {k34 : Nat → Int32 → Int32 → Int32 → MM → Prop} (hk20 : ∀ (l0 : Nat) (l2 : Int32) (l3 : Int32) (M : MM), lenO M0 M → k20 l0 l2 l3 M → R261 sl sx d M0 P 20 [some (vR (some l0)), none, some (vI l2), some (vI l3), none] [] M) (hk34 : ∀ (l0 : Nat) (l2 : Int32) (l3 : Int32) (l4 : Int32) (M : MM), lenO M0 M → k34 l0 l2 l3 l4 M → R261 sl sx d M0 P 34 [some (vR (some l0)), none, some (vI l2), some (vI l3), some (vI l4)] [] M) (l0 : Nat) (l2 : Int32) (l3 : Int32) (l4 : Int32) (M : MM) (hM : lenO M0 M) (h : w261_90 k20 k34 l0 l2 l3 l4 M P) : R261 sl sx d M0 P 90 [some (vR (some l0)), none, some (vI l2), some (vI l3), some (vI l4)] [] M := by
  refine RN_k (callX_det _) 3 _ _ _ _ (show kd M l0 10 ∧ R261 sl sx d M0 P 95 [some (vR (some l0)), none, some (vI l2), some (vI l3), some (vI l4)] [] (sI M l0 63 l3) from ⟨h.1, ?_⟩)
  replace h := h.2
  refine RN_k (callX_det _) 3 _ _ _ _ (show kd (sI M l0 63 l3) l0 10 ∧ R261 sl sx d M0 P 101 [some (vR (some l0)), none, some (vI l2), some (vI l3), some (vI l4)] [] (sI (sI M l0 63 l3) l0 64 l4) from ⟨h.1, ?_⟩)
  replace h := h.2
  refine RN_k (callX_det _) 3 _ _ _ _ (show kd (sI (sI M l0 63 l3) l0 64 l4) l0 10 ∧ R261 sl sx d M0 P 106 [some (vR (some l0)), none, some (vI l2), some (vI l3), some (vI l4)] [vL (mL (sI (sI M l0 63 l3) l0 64 l4) l0 52), vR (some l0)] (sI (sI M l0 63 l3) l0 64 l4) from ⟨h.1, ?_⟩)
  replace h := h.2
  refine RN_k (callX_det _) 1 _ _ _ _ (show kd (sI (sI M l0 63 l3) l0 64 l4) l0 10 ∧ R261 sl sx d M0 P 109 [some (vR (some l0)), none, some (vI l2), some (vI l3), some (vI l4)] [] (sL (sI (sI M l0 63 l3) l0 64 l4) l0 65 (mL (sI (sI M l0 63 l3) l0 64 l4) l0 52)) from ⟨h.1, ?_⟩)
  replace h := h.2
  refine RN_k (callX_det _) 3 _ _ _ _ (show kd (sL (sI (sI M l0 63 l3) l0 64 l4) l0 65 (mL (sI (sI M l0 63 l3) l0 64 l4) l0 52)) l0 10 ∧ R261 sl sx d M0 P 114 [some (vR (some l0)), none, some (vI l2), some (vI l3), some (vI l4)] [vL (mL (sL (sI (sI M l0 63 l3) l0 64 l4) l0 65 (mL (sI (sI M l0 63 l3) l0 64 l4) l0 52)) l0 53), vR (some l0)] (sL (sI (sI M l0 63 l3) l0 64 l4) l0 65 (mL (sI (sI M l0 63 l3) l0 64 l4) l0 52)) from ⟨h.1, ?_⟩)
  replace h := h.2
  refine RN_k (callX_det _) 1 _ _ _ _ (show kd (sL (sI (sI M l0 63 l3) l0 64 l4) l0 65 (mL (sI (sI M l0 63 l3) l0 64 l4) l0 52)) l0 10 ∧ R261 sl sx d M0 P 117 [some (vR (some l0)), none, some (vI l2), some (vI l3), some (vI l4)] [] (sL (sL (sI (sI M l0 63 l3) l0 64 l4) l0 65 (mL (sI (sI M l0 63 l3) l0 64 l4) l0 52)) l0 66 (mL (sL (sI (sI M l0 63 l3) l0 64 l4) l0 65 (mL (sI (sI M l0 63 l3) l0 64 l4) l0 52)) l0 53)) from ⟨h.1, ?_⟩)
  replace h := h.2
  exact RN_weak (K := [some (vR (some l0)), none, some (vI l2), some (vI l3), some (vI l4)]) (callX_det _) (show _ ∧ _ ∧ _ ∧ _ ∧ True from ⟨rfl, rfl, rfl, rfl, trivial⟩) (t261_117 hk20 hk34 l0 l2 l3 l4 _ hM h)
def w261_34 (k20 : Nat → Int32 → Int32 → MM → Prop) : Nat → Nat → Int32 → Int32 → Int32 → MM → (MM → Prop) → Prop
  | 0 => fun _ _ _ _ _ _ => False
  | n + 1 => fun l0 l2 l3 l4 M P => kd M l0 10 ∧ w180 l0 l2 M (fun r2 M1 => (r2 ≤ l4 → (k20 l0 l2 (l3 + (1 : Int32)) M1)) ∧ (¬ (r2 ≤ l4) → (kd M1 l0 10 ∧ w213 l0 l2 l3 l4 M1 (fun M3 => kd M3 l0 10 ∧ w245 l0 (0 : Int32) M3 (fun M4 => kd M4 l0 10 ∧ (((mI M4 l0 63) = (-1 : Int32) → (w261_90 k20 (fun z0 z1 z2 z3 z4 => w261_34 k20 n z0 z1 z2 z3 z4 P) l0 l2 l3 l4 M4 P)) ∧ (¬ ((mI M4 l0 63) = (-1 : Int32)) → (kd M4 l0 10 ∧ (kd M4 l0 10 ∧ (kd M4 l0 10 ∧ (kd M4 l0 10 ∧ (w199 (mL M4 l0 52) (mL M4 l0 53) (mL M4 l0 65) (mL M4 l0 66) M4 (fun r6 M5 => (r6 < 0 → (w261_90 k20 (fun z0 z1 z2 z3 z4 => w261_34 k20 n z0 z1 z2 z3 z4 P) l0 l2 l3 l4 M5 P)) ∧ (¬ (r6 < 0) → (w261_117 k20 (fun z0 z1 z2 z3 z4 => w261_34 k20 n z0 z1 z2 z3 z4 P) l0 l2 l3 l4 M5 P)))))))))))))))
theorem t261_34 {sl : Nat} {sx : Nat → Int32} {d : Nat} {M0 : MM} {P : MM → Prop} {k20 : Nat → Int32 → Int32 → MM → Prop} (hk20 : ∀ (l0 : Nat) (l2 : Int32) (l3 : Int32) (M : MM), lenO M0 M → k20 l0 l2 l3 M → R261 sl sx d M0 P 20 [some (vR (some l0)), none, some (vI l2), some (vI l3), none] [] M) (n : Nat) : ∀ (l0 : Nat) (l2 : Int32) (l3 : Int32) (l4 : Int32) (M : MM) (_ : lenO M0 M) (_ : w261_34 k20 n l0 l2 l3 l4 M P), R261 sl sx d M0 P 34 [some (vR (some l0)), none, some (vI l2), some (vI l3), some (vI l4)] [] M := by
  induction n with
  | zero => intro l0 l2 l3 l4 M hM h; cases h
  | succ n ih =>
    intro l0 l2 l3 l4 M hM h
    refine RN_k (callX_det _) 4 _ _ _ _ (show kd M l0 10 ∧ callX TBg sl sx (d + 105) 180 [vR (some l0), vI l2] M (fun v M9 => R261 sl sx d M0 P 41 [some (vR (some l0)), none, some (vI l2), some (vI l3), some (vI l4)] (pushO v [vI l4]) M9) from ⟨h.1, ?_⟩)
    replace h := h.2
    refine callX_mono (callX_len (d := (d + 105)) rfl rfl rfl (c180 (d := d + 103) h)) ?_
    clear h
    rintro v9 M1 ⟨hl, r2, rfl, h⟩
    replace hM := lenT hM hl
    show R261 sl sx d M0 P 41 [some (vR (some l0)), none, some (vI l2), some (vI l3), some (vI l4)] [vI r2, vI l4] M1
    refine RN_k (callX_det _) 1 _ _ _ _ (show (r2 ≤ l4 → R261 sl sx d M0 P 123 [some (vR (some l0)), none, some (vI l2), some (vI l3), some (vI l4)] [] M1) ∧ (¬ (r2 ≤ l4) → R261 sl sx d M0 P 44 [some (vR (some l0)), none, some (vI l2), some (vI l3), some (vI l4)] [] M1) from ⟨fun hc => ?_, fun hc => ?_⟩)
    · replace h := h.1 hc
      refine RN_k (callX_det _) 2 _ _ _ _ (show R261 sl sx d M0 P 20 [some (vR (some l0)), none, some (vI l2), some (vI (l3 + (1 : Int32))), some (vI l4)] [] M1 from ?_)
      exact RN_weak (K := [some (vR (some l0)), none, some (vI l2), some (vI (l3 + (1 : Int32))), none]) (callX_det _) (show _ ∧ _ ∧ _ ∧ True from ⟨rfl, rfl, rfl, trivial⟩) (hk20 l0 l2 (l3 + (1 : Int32)) _ hM h)
    · replace h := h.2 hc
      refine RN_k (callX_det _) 5 _ _ _ _ (show kd M1 l0 10 ∧ callX TBg sl sx (d + 105) 213 [vR (some l0), vI l2, vI l3, vI l4] M1 (fun v M9 => R261 sl sx d M0 P 52 [some (vR (some l0)), none, some (vI l2), some (vI l3), some (vI l4)] (pushO v []) M9) from ⟨h.1, ?_⟩)
      replace h := h.2
      refine callX_mono (callX_len (d := (d + 105)) rfl rfl rfl (c213 (d := d + 101) h)) ?_
      clear h
      rintro v9 M3 ⟨hl, rfl, h⟩
      replace hM := lenT hM hl
      show R261 sl sx d M0 P 52 [some (vR (some l0)), none, some (vI l2), some (vI l3), some (vI l4)] [] M3
      refine RN_k (callX_det _) 3 _ _ _ _ (show kd M3 l0 10 ∧ callX TBg sl sx (d + 105) 245 [vR (some l0), vI (0 : Int32)] M3 (fun v M9 => R261 sl sx d M0 P 57 [some (vR (some l0)), none, some (vI l2), some (vI l3), some (vI l4)] (pushO v []) M9) from ⟨h.1, ?_⟩)
      replace h := h.2
      refine callX_mono (callX_len (d := (d + 105)) rfl rfl rfl (c245 (d := d) h)) ?_
      clear h
      rintro v9 M4 ⟨hl, rfl, h⟩
      replace hM := lenT hM hl
      show R261 sl sx d M0 P 57 [some (vR (some l0)), none, some (vI l2), some (vI l3), some (vI l4)] [] M4
      refine RN_k (callX_det _) 2 _ _ _ _ (show kd M4 l0 10 ∧ R261 sl sx d M0 P 61 [some (vR (some l0)), none, some (vI l2), some (vI l3), some (vI l4)] [vI (mI M4 l0 63)] M4 from ⟨h.1, ?_⟩)
      replace h := h.2
      refine RN_k (callX_det _) 2 _ _ _ _ (show ((mI M4 l0 63) = (-1 : Int32) → R261 sl sx d M0 P 90 [some (vR (some l0)), none, some (vI l2), some (vI l3), some (vI l4)] [] M4) ∧ (¬ ((mI M4 l0 63) = (-1 : Int32)) → R261 sl sx d M0 P 65 [some (vR (some l0)), none, some (vI l2), some (vI l3), some (vI l4)] [] M4) from ⟨fun hc => ?_, fun hc => ?_⟩)
      · replace h := h.1 hc
        exact RN_weak (K := [some (vR (some l0)), none, some (vI l2), some (vI l3), some (vI l4)]) (callX_det _) (show _ ∧ _ ∧ _ ∧ _ ∧ True from ⟨rfl, rfl, rfl, rfl, trivial⟩) (t261_90 hk20 ih l0 l2 l3 l4 _ hM h)
      · replace h := h.2 hc
        refine RN_k (callX_det _) 2 _ _ _ _ (show kd M4 l0 10 ∧ R261 sl sx d M0 P 69 [some (vR (some l0)), none, some (vI l2), some (vI l3), some (vI l4)] [vL (mL M4 l0 52)] M4 from ⟨h.1, ?_⟩)
        replace h := h.2
        refine RN_k (callX_det _) 2 _ _ _ _ (show kd M4 l0 10 ∧ R261 sl sx d M0 P 73 [some (vR (some l0)), none, some (vI l2), some (vI l3), some (vI l4)] [vL (mL M4 l0 53), vL (mL M4 l0 52)] M4 from ⟨h.1, ?_⟩)
        replace h := h.2
        refine RN_k (callX_det _) 2 _ _ _ _ (show kd M4 l0 10 ∧ R261 sl sx d M0 P 77 [some (vR (some l0)), none, some (vI l2), some (vI l3), some (vI l4)] [vL (mL M4 l0 65), vL (mL M4 l0 53), vL (mL M4 l0 52)] M4 from ⟨h.1, ?_⟩)
        replace h := h.2
        refine RN_k (callX_det _) 2 _ _ _ _ (show kd M4 l0 10 ∧ R261 sl sx d M0 P 81 [some (vR (some l0)), none, some (vI l2), some (vI l3), some (vI l4)] [vL (mL M4 l0 66), vL (mL M4 l0 65), vL (mL M4 l0 53), vL (mL M4 l0 52)] M4 from ⟨h.1, ?_⟩)
        replace h := h.2
        refine RN_k (callX_det _) 1 _ _ _ _ (show callX TBg sl sx (d + 105) 199 [vL (mL M4 l0 52), vL (mL M4 l0 53), vL (mL M4 l0 65), vL (mL M4 l0 66)] M4 (fun v M9 => R261 sl sx d M0 P 84 [some (vR (some l0)), none, some (vI l2), some (vI l3), some (vI l4)] (pushO v []) M9) from ?_)
        refine callX_mono (callX_len (d := (d + 105)) rfl rfl rfl (c199 (d := d + 103) h)) ?_
        clear h
        rintro v9 M5 ⟨hl, r6, rfl, h⟩
        replace hM := lenT hM hl
        show R261 sl sx d M0 P 84 [some (vR (some l0)), none, some (vI l2), some (vI l3), some (vI l4)] [vI r6] M5
        refine RN_k (callX_det _) 1 _ _ _ _ (show (r6 < 0 → R261 sl sx d M0 P 90 [some (vR (some l0)), none, some (vI l2), some (vI l3), some (vI l4)] [] M5) ∧ (¬ (r6 < 0) → R261 sl sx d M0 P 87 [some (vR (some l0)), none, some (vI l2), some (vI l3), some (vI l4)] [] M5) from ⟨fun hc => ?_, fun hc => ?_⟩)
        · replace h := h.1 hc
          exact RN_weak (K := [some (vR (some l0)), none, some (vI l2), some (vI l3), some (vI l4)]) (callX_det _) (show _ ∧ _ ∧ _ ∧ _ ∧ True from ⟨rfl, rfl, rfl, rfl, trivial⟩) (t261_90 hk20 ih l0 l2 l3 l4 _ hM h)
        · replace h := h.2 hc
          refine RN_k (callX_det _) 1 _ _ _ _ (show R261 sl sx d M0 P 117 [some (vR (some l0)), none, some (vI l2), some (vI l3), some (vI l4)] [] M5 from ?_)
          exact RN_weak (K := [some (vR (some l0)), none, some (vI l2), some (vI l3), some (vI l4)]) (callX_det _) (show _ ∧ _ ∧ _ ∧ _ ∧ True from ⟨rfl, rfl, rfl, rfl, trivial⟩) (t261_117 hk20 ih l0 l2 l3 l4 _ hM h)
def w261_20 : Nat → Nat → Int32 → Int32 → MM → (MM → Prop) → Prop
  | 0 => fun _ _ _ _ _ => False
  | n + 1 => fun l0 l2 l3 M P => kd M l0 10 ∧ w180 l0 l2 M (fun r2 M1 => (r2 ≤ l3 → (P M1)) ∧ (¬ (r2 ≤ l3) → (∃ n2, w261_34 (fun z0 z1 z2 z3 => w261_20  n z0 z1 z2 z3 P) n2 l0 l2 l3 (l3 + (1 : Int32)) M1 P)))
theorem t261_20 {sl : Nat} {sx : Nat → Int32} {d : Nat} {M0 : MM} {P : MM → Prop} (n : Nat) : ∀ (l0 : Nat) (l2 : Int32) (l3 : Int32) (M : MM) (_ : lenO M0 M) (_ : w261_20  n l0 l2 l3 M P), R261 sl sx d M0 P 20 [some (vR (some l0)), none, some (vI l2), some (vI l3), none] [] M := by
  induction n with
  | zero => intro l0 l2 l3 M hM h; cases h
  | succ n ih =>
    intro l0 l2 l3 M hM h
    refine RN_k (callX_det _) 4 _ _ _ _ (show kd M l0 10 ∧ callX TBg sl sx (d + 105) 180 [vR (some l0), vI l2] M (fun v M9 => R261 sl sx d M0 P 26 [some (vR (some l0)), none, some (vI l2), some (vI l3), none] (pushO v [vI l3]) M9) from ⟨h.1, ?_⟩)
    replace h := h.2
    refine callX_mono (callX_len (d := (d + 105)) rfl rfl rfl (c180 (d := d + 103) h)) ?_
    clear h
    rintro v9 M1 ⟨hl, r2, rfl, h⟩
    replace hM := lenT hM hl
    show R261 sl sx d M0 P 26 [some (vR (some l0)), none, some (vI l2), some (vI l3), none] [vI r2, vI l3] M1
    refine RN_k (callX_det _) 1 _ _ _ _ (show (r2 ≤ l3 → R261 sl sx d M0 P 129 [some (vR (some l0)), none, some (vI l2), some (vI l3), none] [] M1) ∧ (¬ (r2 ≤ l3) → R261 sl sx d M0 P 29 [some (vR (some l0)), none, some (vI l2), some (vI l3), none] [] M1) from ⟨fun hc => ?_, fun hc => ?_⟩)
    · replace h := h.1 hc
      exact RN_k (callX_det _) 1 _ _ _ _ (show rtW q261 M0 (PV P) none M1 from ⟨rfl, hM.1, hM.2, rfl, h⟩)
    · replace h := h.2 hc
      refine RN_k (callX_det _) 4 _ _ _ _ (show R261 sl sx d M0 P 34 [some (vR (some l0)), none, some (vI l2), some (vI l3), some (vI (l3 + (1 : Int32)))] [] M1 from ?_)
      obtain ⟨n2, h⟩ := h
      exact RN_weak (K := [some (vR (some l0)), none, some (vI l2), some (vI l3), some (vI (l3 + (1 : Int32)))]) (callX_det _) (show _ ∧ _ ∧ _ ∧ _ ∧ True from ⟨rfl, rfl, rfl, rfl, trivial⟩) (t261_34 ih n2 l0 l2 l3 (l3 + (1 : Int32)) _ hM h)
def w261 (l0 : Nat) (l1 : Int32) (l2 : Int32) (M : MM) (P : MM → Prop) : Prop := kd M l0 10 ∧ (kd (sI M l0 63 (-1 : Int32)) l0 10 ∧ w180 l0 l1 (sI M l0 63 (-1 : Int32)) (fun r2 M1 => kd M1 l0 10 ∧ w212 l0 l1 (0 : Int32) (r2 - (1 : Int32)) M1 (fun M3 => ∃ n2, w261_20  n2 l0 l2 (0 : Int32) M3 P)))
theorem t261_E {sl : Nat} {sx : Nat → Int32} {d : Nat} {M0 : MM} {P : MM → Prop} (l0 : Nat) (l1 : Int32) (l2 : Int32) (M : MM) (hM : lenO M0 M) (h : w261  l0 l1 l2 M P) : R261 sl sx d M0 P 0 [some (vR (some l0)), some (vI l1), some (vI l2), none, none] [] M := by
  refine RN_k (callX_det _) 3 _ _ _ _ (show kd M l0 10 ∧ R261 sl sx d M0 P 5 [some (vR (some l0)), some (vI l1), some (vI l2), none, none] [] (sI M l0 63 (-1 : Int32)) from ⟨h.1, ?_⟩)
  replace h := h.2
  refine RN_k (callX_det _) 6 _ _ _ _ (show kd (sI M l0 63 (-1 : Int32)) l0 10 ∧ callX TBg sl sx (d + 105) 180 [vR (some l0), vI l1] (sI M l0 63 (-1 : Int32)) (fun v M9 => R261 sl sx d M0 P 13 [some (vR (some l0)), some (vI l1), some (vI l2), none, none] (pushO v [vI (0 : Int32), vI l1, vR (some l0)]) M9) from ⟨h.1, ?_⟩)
  replace h := h.2
  refine callX_mono (callX_len (d := (d + 105)) rfl rfl rfl (c180 (d := d + 103) h)) ?_
  clear h
  rintro v9 M1 ⟨hl, r2, rfl, h⟩
  replace hM := lenT hM hl
  show R261 sl sx d M0 P 13 [some (vR (some l0)), some (vI l1), some (vI l2), none, none] [vI r2, vI (0 : Int32), vI l1, vR (some l0)] M1
  refine RN_k (callX_det _) 3 _ _ _ _ (show kd M1 l0 10 ∧ callX TBg sl sx (d + 105) 212 [vR (some l0), vI l1, vI (0 : Int32), vI (r2 - (1 : Int32))] M1 (fun v M9 => R261 sl sx d M0 P 18 [some (vR (some l0)), some (vI l1), some (vI l2), none, none] (pushO v []) M9) from ⟨h.1, ?_⟩)
  replace h := h.2
  refine callX_mono (callX_len (d := (d + 105)) rfl rfl rfl (c212 (d := d + 102) h)) ?_
  clear h
  rintro v9 M3 ⟨hl, rfl, h⟩
  replace hM := lenT hM hl
  show R261 sl sx d M0 P 18 [some (vR (some l0)), some (vI l1), some (vI l2), none, none] [] M3
  refine RN_k (callX_det _) 2 _ _ _ _ (show R261 sl sx d M0 P 20 [some (vR (some l0)), some (vI l1), some (vI l2), some (vI (0 : Int32)), none] [] M3 from ?_)
  obtain ⟨n2, h⟩ := h
  exact RN_weak (K := [some (vR (some l0)), none, some (vI l2), some (vI (0 : Int32)), none]) (callX_det _) (show _ ∧ _ ∧ _ ∧ True from ⟨rfl, rfl, rfl, trivial⟩) (t261_20  n2 l0 l2 (0 : Int32) _ hM h)
theorem c261 {sl : Nat} {sx : Nat → Int32} {d : Nat} {l0 : Nat} {l1 : Int32} {l2 : Int32} {M : MM} {P : MM → Prop} (h : w261 l0 l1 l2 M P) : callX TBg sl sx (d + 106) 261 [vR (some l0), vI l1, vI l2] M (PV P) :=
  cX (d := d + 105) q261 (false, tb261) rfl rfl rfl (t261_E l0 l1 l2 M lenR h)
-- TwoLeashModel.piece(III)I
abbrev q260 : MQ7 := (4, 1, 5, 10, 0, 0, 1)
abbrev R260 (sl : Nat) (sx : Nat → Int32) (d : Nat) (M0 : MM) (P : Int32 → MM → Prop) : Nat → LL → List VV → MM → Prop := RN 10 false (mS M0).length (mT M0) 0 0 sl sx (callX TBg sl sx (d + 106)) (rtW q260 M0 (PI P)) (as2 tb260)
def w260_55 (s0 : Option Nat) (s1 : Int32) (M : MM) (P : Int32 → MM → Prop) : Prop := ∃ a1, s0 = some a1 ∧ (kd M a1 10 ∧ w177 a1 s1 M (fun r3 M2 => P r3 M2))
theorem t260_55 {sl : Nat} {sx : Nat → Int32} {d : Nat} {M0 : MM} {P : Int32 → MM → Prop} (s0 : Option Nat) (s1 : Int32) (M : MM) (hM : lenO M0 M) (h : w260_55  s0 s1 M P) : R260 sl sx d M0 P 55 [none, none, none, none, none] [vI s1, vR s0] M := by
  obtain ⟨a1, he, h⟩ := h
  subst he
  refine RN_k (callX_det _) 1 _ _ _ _ (show kd M a1 10 ∧ callX TBg sl sx (d + 106) 177 [vR (some a1), vI s1] M (fun v M9 => R260 sl sx d M0 P 58 [none, none, none, none, none] (pushO v []) M9) from ⟨h.1, ?_⟩)
  replace h := h.2
  refine callX_mono (callX_len (d := (d + 106)) rfl rfl rfl (c177 (d := d + 105) h)) ?_
  clear h
  rintro v9 M2 ⟨hl, r3, rfl, h⟩
  replace hM := lenT hM hl
  show R260 sl sx d M0 P 58 [none, none, none, none, none] [vI r3] M2
  exact RN_k (callX_det _) 1 _ _ _ _ (show rtW q260 M0 (PI P) (some (vI r3)) M2 from ⟨⟨_, rfl⟩, hM.1, hM.2, _, rfl, h⟩)
def w260_19 (l0 : Nat) (l1 : Int32) (l2 : Int32) (l3 : Int32) (s0 : Int32) (M : MM) (P : Int32 → MM → Prop) : Prop := (s0 ≤ 0 → (kd M l0 10 ∧ w261 l0 l1 l2 M (fun M1 => (l3 ≠ 0 → (kd M1 l0 10 ∧ (w260_55  (some l0) (mI M1 l0 64) M1 P))) ∧ (¬ (l3 ≠ 0) → (kd M1 l0 10 ∧ (w260_55  (some l0) (mI M1 l0 63) M1 P)))))) ∧ (¬ (s0 ≤ 0) → (kd M l0 10 ∧ w167 l0 s0 M (fun r3 M2 => P r3 M2)))
theorem t260_19 {sl : Nat} {sx : Nat → Int32} {d : Nat} {M0 : MM} {P : Int32 → MM → Prop} (l0 : Nat) (l1 : Int32) (l2 : Int32) (l3 : Int32) (s0 : Int32) (M : MM) (hM : lenO M0 M) (h : w260_19  l0 l1 l2 l3 s0 M P) : R260 sl sx d M0 P 19 [some (vR (some l0)), some (vI l1), some (vI l2), some (vI l3), none] [vI s0] M := by
  refine RN_k (callX_det _) 3 _ _ _ _ (show (s0 ≤ 0 → R260 sl sx d M0 P 33 [some (vR (some l0)), some (vI l1), some (vI l2), some (vI l3), some (vI s0)] [] M) ∧ (¬ (s0 ≤ 0) → R260 sl sx d M0 P 26 [some (vR (some l0)), some (vI l1), some (vI l2), some (vI l3), some (vI s0)] [] M) from ⟨fun hc => ?_, fun hc => ?_⟩)
  · replace h := h.1 hc
    refine RN_k (callX_det _) 4 _ _ _ _ (show kd M l0 10 ∧ callX TBg sl sx (d + 106) 261 [vR (some l0), vI l1, vI l2] M (fun v M9 => R260 sl sx d M0 P 39 [some (vR (some l0)), some (vI l1), some (vI l2), some (vI l3), some (vI s0)] (pushO v []) M9) from ⟨h.1, ?_⟩)
    replace h := h.2
    refine callX_mono (callX_len (d := (d + 106)) rfl rfl rfl (c261 (d := d) h)) ?_
    clear h
    rintro v9 M1 ⟨hl, rfl, h⟩
    replace hM := lenT hM hl
    show R260 sl sx d M0 P 39 [some (vR (some l0)), some (vI l1), some (vI l2), some (vI l3), some (vI s0)] [] M1
    refine RN_k (callX_det _) 3 _ _ _ _ (show (l3 ≠ 0 → R260 sl sx d M0 P 51 [some (vR (some l0)), some (vI l1), some (vI l2), some (vI l3), some (vI s0)] [vR (some l0)] M1) ∧ (¬ (l3 ≠ 0) → R260 sl sx d M0 P 44 [some (vR (some l0)), some (vI l1), some (vI l2), some (vI l3), some (vI s0)] [vR (some l0)] M1) from ⟨fun hc => ?_, fun hc => ?_⟩)
    · replace h := h.1 hc
      refine RN_k (callX_det _) 2 _ _ _ _ (show kd M1 l0 10 ∧ R260 sl sx d M0 P 55 [some (vR (some l0)), some (vI l1), some (vI l2), some (vI l3), some (vI s0)] [vI (mI M1 l0 64), vR (some l0)] M1 from ⟨h.1, ?_⟩)
      replace h := h.2
      exact RN_weak (K := [none, none, none, none, none]) (callX_det _) (show True from trivial) (t260_55  (some l0) (mI M1 l0 64) _ hM h)
    · replace h := h.2 hc
      refine RN_k (callX_det _) 2 _ _ _ _ (show kd M1 l0 10 ∧ R260 sl sx d M0 P 48 [some (vR (some l0)), some (vI l1), some (vI l2), some (vI l3), some (vI s0)] [vI (mI M1 l0 63), vR (some l0)] M1 from ⟨h.1, ?_⟩)
      replace h := h.2
      refine RN_k (callX_det _) 1 _ _ _ _ (show R260 sl sx d M0 P 55 [some (vR (some l0)), some (vI l1), some (vI l2), some (vI l3), some (vI s0)] [vI (mI M1 l0 63), vR (some l0)] M1 from ?_)
      exact RN_weak (K := [none, none, none, none, none]) (callX_det _) (show True from trivial) (t260_55  (some l0) (mI M1 l0 63) _ hM h)
  · replace h := h.2 hc
    refine RN_k (callX_det _) 3 _ _ _ _ (show kd M l0 10 ∧ callX TBg sl sx (d + 106) 167 [vR (some l0), vI s0] M (fun v M9 => R260 sl sx d M0 P 32 [some (vR (some l0)), some (vI l1), some (vI l2), some (vI l3), some (vI s0)] (pushO v []) M9) from ⟨h.1, ?_⟩)
    replace h := h.2
    refine callX_mono (callX_len (d := (d + 106)) rfl rfl rfl (c167 (d := d + 105) h)) ?_
    clear h
    rintro v9 M2 ⟨hl, r3, rfl, h⟩
    replace hM := lenT hM hl
    show R260 sl sx d M0 P 32 [some (vR (some l0)), some (vI l1), some (vI l2), some (vI l3), some (vI s0)] [vI r3] M2
    exact RN_k (callX_det _) 1 _ _ _ _ (show rtW q260 M0 (PI P) (some (vI r3)) M2 from ⟨⟨_, rfl⟩, hM.1, hM.2, _, rfl, h⟩)
def w260 (l0 : Nat) (l1 : Int32) (l2 : Int32) (l3 : Int32) (M : MM) (P : Int32 → MM → Prop) : Prop := w166 l3 (0 : Int32) (1 : Int32) M (fun r2 M1 => (r2 ≠ 0 → (kd M1 l0 10 ∧ w202 l0 l1 l2 M1 (fun r4 M3 => w260_19  l0 l1 l2 l3 r4 M3 P))) ∧ (¬ (r2 ≠ 0) → (w260_19  l0 l1 l2 l3 (1 : Int32) M1 P)))
theorem t260_E {sl : Nat} {sx : Nat → Int32} {d : Nat} {M0 : MM} {P : Int32 → MM → Prop} (l0 : Nat) (l1 : Int32) (l2 : Int32) (l3 : Int32) (M : MM) (hM : lenO M0 M) (h : w260  l0 l1 l2 l3 M P) : R260 sl sx d M0 P 0 [some (vR (some l0)), some (vI l1), some (vI l2), some (vI l3), none] [] M := by
  refine RN_k (callX_det _) 4 _ _ _ _ (show callX TBg sl sx (d + 106) 166 [vI l3, vI (0 : Int32), vI (1 : Int32)] M (fun v M9 => R260 sl sx d M0 P 6 [some (vR (some l0)), some (vI l1), some (vI l2), some (vI l3), none] (pushO v []) M9) from ?_)
  refine callX_mono (callX_len (d := (d + 106)) rfl rfl rfl (c166 (d := d + 105) h)) ?_
  clear h
  rintro v9 M1 ⟨hl, r2, rfl, h⟩
  replace hM := lenT hM hl
  show R260 sl sx d M0 P 6 [some (vR (some l0)), some (vI l1), some (vI l2), some (vI l3), none] [vI r2] M1
  refine RN_k (callX_det _) 1 _ _ _ _ (show (r2 ≠ 0 → R260 sl sx d M0 P 13 [some (vR (some l0)), some (vI l1), some (vI l2), some (vI l3), none] [] M1) ∧ (¬ (r2 ≠ 0) → R260 sl sx d M0 P 9 [some (vR (some l0)), some (vI l1), some (vI l2), some (vI l3), none] [] M1) from ⟨fun hc => ?_, fun hc => ?_⟩)
  · replace h := h.1 hc
    refine RN_k (callX_det _) 4 _ _ _ _ (show kd M1 l0 10 ∧ callX TBg sl sx (d + 106) 202 [vR (some l0), vI l1, vI l2] M1 (fun v M9 => R260 sl sx d M0 P 19 [some (vR (some l0)), some (vI l1), some (vI l2), some (vI l3), none] (pushO v []) M9) from ⟨h.1, ?_⟩)
    replace h := h.2
    refine callX_mono (callX_len (d := (d + 106)) rfl rfl rfl (c202 (d := d + 103) h)) ?_
    clear h
    rintro v9 M3 ⟨hl, r4, rfl, h⟩
    replace hM := lenT hM hl
    show R260 sl sx d M0 P 19 [some (vR (some l0)), some (vI l1), some (vI l2), some (vI l3), none] [vI r4] M3
    exact RN_weak (K := [some (vR (some l0)), some (vI l1), some (vI l2), some (vI l3), none]) (callX_det _) (show _ ∧ _ ∧ _ ∧ _ ∧ True from ⟨rfl, rfl, rfl, rfl, trivial⟩) (t260_19  l0 l1 l2 l3 r4 _ hM h)
  · replace h := h.2 hc
    refine RN_k (callX_det _) 2 _ _ _ _ (show R260 sl sx d M0 P 19 [some (vR (some l0)), some (vI l1), some (vI l2), some (vI l3), none] [vI (1 : Int32)] M1 from ?_)
    exact RN_weak (K := [some (vR (some l0)), some (vI l1), some (vI l2), some (vI l3), none]) (callX_det _) (show _ ∧ _ ∧ _ ∧ _ ∧ True from ⟨rfl, rfl, rfl, rfl, trivial⟩) (t260_19  l0 l1 l2 l3 (1 : Int32) _ hM h)
theorem c260 {sl : Nat} {sx : Nat → Int32} {d : Nat} {l0 : Nat} {l1 : Int32} {l2 : Int32} {l3 : Int32} {M : MM} {P : Int32 → MM → Prop} (h : w260 l0 l1 l2 l3 M P) : callX TBg sl sx (d + 107) 260 [vR (some l0), vI l1, vI l2, vI l3] M (PI P) :=
  cX (d := d + 106) q260 (false, tb260) rfl rfl rfl (t260_E l0 l1 l2 l3 M lenR h)
-- TwoLeashModel.pieces(II)Z
abbrev q262 : MQ7 := (3, 1, 4, 10, 0, 0, 4)
abbrev R262 (sl : Nat) (sx : Nat → Int32) (d : Nat) (M0 : MM) (P : Int32 → MM → Prop) : Nat → LL → List VV → MM → Prop := RN 10 false (mS M0).length (mT M0) 0 0 sl sx (callX TBg sl sx (d + 106)) (rtW q262 M0 (PI P)) (as2 tb262)
def w262 (l0 : Nat) (l1 : Int32) (l2 : Int32) (M : MM) (P : Int32 → MM → Prop) : Prop := kd M l0 10 ∧ w202 l0 l1 l2 M (fun r2 M1 => (r2 ≤ 0 → (kd M1 l0 10 ∧ w261 l0 l1 l2 M1 (fun M3 => kd M3 l0 10 ∧ (kd M3 l0 10 ∧ (kd M3 l0 10 ∧ w194 l0 (mL M3 l0 65) (mL M3 l0 66) M3 (fun r5 M4 => (r5 = 0 ∨ r5 = 1) ∧ P r5 M4)))))) ∧ (¬ (r2 ≤ 0) → (kd M1 l0 10 ∧ w190 l0 r2 M1 (fun r7 M6 => (r7 = 0 ∨ r7 = 1) ∧ P r7 M6))))
theorem t262_E {sl : Nat} {sx : Nat → Int32} {d : Nat} {M0 : MM} {P : Int32 → MM → Prop} (l0 : Nat) (l1 : Int32) (l2 : Int32) (M : MM) (hM : lenO M0 M) (h : w262  l0 l1 l2 M P) : R262 sl sx d M0 P 0 [some (vR (some l0)), some (vI l1), some (vI l2), none] [] M := by
  refine RN_k (callX_det _) 4 _ _ _ _ (show kd M l0 10 ∧ callX TBg sl sx (d + 106) 202 [vR (some l0), vI l1, vI l2] M (fun v M9 => R262 sl sx d M0 P 6 [some (vR (some l0)), some (vI l1), some (vI l2), none] (pushO v []) M9) from ⟨h.1, ?_⟩)
  replace h := h.2
  refine callX_mono (callX_len (d := (d + 106)) rfl rfl rfl (c202 (d := d + 103) h)) ?_
  clear h
  rintro v9 M1 ⟨hl, r2, rfl, h⟩
  replace hM := lenT hM hl
  show R262 sl sx d M0 P 6 [some (vR (some l0)), some (vI l1), some (vI l2), none] [vI r2] M1
  refine RN_k (callX_det _) 3 _ _ _ _ (show (r2 ≤ 0 → R262 sl sx d M0 P 17 [some (vR (some l0)), some (vI l1), some (vI l2), some (vI r2)] [] M1) ∧ (¬ (r2 ≤ 0) → R262 sl sx d M0 P 11 [some (vR (some l0)), some (vI l1), some (vI l2), some (vI r2)] [] M1) from ⟨fun hc => ?_, fun hc => ?_⟩)
  · replace h := h.1 hc
    refine RN_k (callX_det _) 4 _ _ _ _ (show kd M1 l0 10 ∧ callX TBg sl sx (d + 106) 261 [vR (some l0), vI l1, vI l2] M1 (fun v M9 => R262 sl sx d M0 P 23 [some (vR (some l0)), some (vI l1), some (vI l2), some (vI r2)] (pushO v []) M9) from ⟨h.1, ?_⟩)
    replace h := h.2
    refine callX_mono (callX_len (d := (d + 106)) rfl rfl rfl (c261 (d := d) h)) ?_
    clear h
    rintro v9 M3 ⟨hl, rfl, h⟩
    replace hM := lenT hM hl
    show R262 sl sx d M0 P 23 [some (vR (some l0)), some (vI l1), some (vI l2), some (vI r2)] [] M3
    refine RN_k (callX_det _) 3 _ _ _ _ (show kd M3 l0 10 ∧ R262 sl sx d M0 P 28 [some (vR (some l0)), some (vI l1), some (vI l2), some (vI r2)] [vL (mL M3 l0 65), vR (some l0)] M3 from ⟨h.1, ?_⟩)
    replace h := h.2
    refine RN_k (callX_det _) 2 _ _ _ _ (show kd M3 l0 10 ∧ R262 sl sx d M0 P 32 [some (vR (some l0)), some (vI l1), some (vI l2), some (vI r2)] [vL (mL M3 l0 66), vL (mL M3 l0 65), vR (some l0)] M3 from ⟨h.1, ?_⟩)
    replace h := h.2
    refine RN_k (callX_det _) 1 _ _ _ _ (show kd M3 l0 10 ∧ callX TBg sl sx (d + 106) 194 [vR (some l0), vL (mL M3 l0 65), vL (mL M3 l0 66)] M3 (fun v M9 => R262 sl sx d M0 P 35 [some (vR (some l0)), some (vI l1), some (vI l2), some (vI r2)] (pushO v []) M9) from ⟨h.1, ?_⟩)
    replace h := h.2
    refine callX_mono (callX_len (d := (d + 106)) rfl rfl rfl (c194 (d := d + 4) h)) ?_
    clear h
    rintro v9 M4 ⟨hl, r5, rfl, h⟩
    replace hM := lenT hM hl
    show R262 sl sx d M0 P 35 [some (vR (some l0)), some (vI l1), some (vI l2), some (vI r2)] [vI r5] M4
    exact RN_k (callX_det _) 1 _ _ _ _ (show rtW q262 M0 (PI P) (some (vI r5)) M4 from ⟨⟨_, rfl, h.1⟩, hM.1, hM.2, _, rfl, h.2⟩)
  · replace h := h.2 hc
    refine RN_k (callX_det _) 3 _ _ _ _ (show kd M1 l0 10 ∧ callX TBg sl sx (d + 106) 190 [vR (some l0), vI r2] M1 (fun v M9 => R262 sl sx d M0 P 16 [some (vR (some l0)), some (vI l1), some (vI l2), some (vI r2)] (pushO v []) M9) from ⟨h.1, ?_⟩)
    replace h := h.2
    refine callX_mono (callX_len (d := (d + 106)) rfl rfl rfl (c190 (d := d + 105) h)) ?_
    clear h
    rintro v9 M6 ⟨hl, r7, rfl, h⟩
    replace hM := lenT hM hl
    show R262 sl sx d M0 P 16 [some (vR (some l0)), some (vI l1), some (vI l2), some (vI r2)] [vI r7] M6
    exact RN_k (callX_det _) 1 _ _ _ _ (show rtW q262 M0 (PI P) (some (vI r7)) M6 from ⟨⟨_, rfl, h.1⟩, hM.1, hM.2, _, rfl, h.2⟩)
theorem c262 {sl : Nat} {sx : Nat → Int32} {d : Nat} {l0 : Nat} {l1 : Int32} {l2 : Int32} {M : MM} {P : Int32 → MM → Prop} (h : w262 l0 l1 l2 M P) : callX TBg sl sx (d + 107) 262 [vR (some l0), vI l1, vI l2] M (PI P) :=
  cX (d := d + 106) q262 (false, tb262) rfl rfl rfl (t262_E l0 l1 l2 M lenR h)
