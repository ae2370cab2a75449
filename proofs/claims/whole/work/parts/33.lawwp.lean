/-! ===== printed by program: what must hold that the law runs to true ===== -/
abbrev RL (sl : Nat) (sx : Nat → Int32) : Nat → LL → List VV → MM → Prop := RN 11 false 0 0 600000 7302250 sl sx (callX TBg sl sx 300) (fun v _ => v = some (vI 1)) (as2 tbLaw)
theorem sw_in {a : Int32} (h : ¬ (a.toInt < 0 ∨ 40 < a.toInt)) : ∃ k : Nat, k < 41 ∧ a = nI k := by
  have h1 : ¬ a.toInt < 0 := fun q => h (Or.inl q)
  have h2 : ¬ 40 < a.toInt := fun q => h (Or.inr q)
  refine ⟨a.toInt.toNat, by omega, ?_⟩
  apply Int32.toInt_inj.mp
  rw [nI_toInt (by omega)]
  omega
/-- the switch at a known number -/
theorem sw_one {a : Int32} {pc : Nat} {d lo hi off : Int} {offs : Array Int} {tg : Nat} {f : Nat → Prop} (h1 : ¬ (a.toInt < lo ∨ hi < a.toInt)) (h2 : offs[(a.toInt - lo).toNat]? = some off) (h3 : (pc : Int) + off = (tg : Int)) (hf : f tg) :
    ((a.toInt < lo ∨ hi < a.toInt) → ((pc : Int) + d = ((pc : Int) + d).toNat ∧ f ((pc : Int) + d).toNat)) ∧ (¬ a.toInt < lo → ¬ hi < a.toInt → ∃ off : Int, offs[(a.toInt - lo).toNat]? = some off ∧ (pc : Int) + off = ((pc : Int) + off).toNat ∧ f ((pc : Int) + off).toNat) := by
  refine ⟨fun q => absurd q h1, fun _ _ => ⟨off, h2, ?_, ?_⟩⟩
  · rw [h3]; rfl
  · rw [h3]; exact hf
def wL_1953 (sl : Nat) (sx : Nat → Int32) (k18 : Option Nat → Option Nat → Int32 → MM → Prop) (l1 : Option Nat) (l2 : Option Nat) (l3 : Int32) (M : MM) : Prop := k18 l1 l2 (l3 + (9 : Int32)) M
theorem tL_1953 {sl : Nat} {sx : Nat → Int32} {k18 : Option Nat → Option Nat → Int32 → MM → Prop} (hk : ∀ (l1 l2 : Option Nat) (l3 : Int32) (M : MM), k18 l1 l2 l3 M → RL sl sx 18 [some vS, some (vR l1), some (vR l2), some (vI l3)] [] M) (l1 : Option Nat) (l2 : Option Nat) (l3 : Int32) (M : MM) (h : wL_1953 sl sx k18 l1 l2 l3 M) : RL sl sx 1953 [some (vS), some (vR l1), some (vR l2), some (vI l3)] [] M := by
  refine RN_k (callX_det _) 2 _ _ _ _ (show RL sl sx 18 [some (vS), some (vR l1), some (vR l2), some (vI (l3 + (9 : Int32)))] [] M from ?_)
  exact RN_weak (K := [some (vS), some (vR l1), some (vR l2), some (vI (l3 + (9 : Int32)))]) (callX_det _) (show _ ∧ _ ∧ _ ∧ _ ∧ True from ⟨rfl, rfl, rfl, rfl, trivial⟩) (hk l1 l2 (l3 + (9 : Int32)) _ h)
def wL_1940 (sl : Nat) (sx : Nat → Int32) (k18 : Option Nat → Option Nat → Int32 → MM → Prop) (l1 : Option Nat) (l2 : Option Nat) (l3 : Int32) (M : MM) : Prop := ∃ a1, l1 = some a1 ∧ (kd M a1 9 ∧ w157 a1 M (fun r3 M2 => ∃ a4, l2 = some a4 ∧ (kd M2 a4 10 ∧ w282 a4 M2 (fun r6 M5 => (r3 = r6 → (wL_1953 sl sx k18 (some a1) (some a4) l3 M5)) ∧ (¬ (r3 = r6) → ((0 : Int32) = 1))))))
theorem tL_1940 {sl : Nat} {sx : Nat → Int32} {k18 : Option Nat → Option Nat → Int32 → MM → Prop} (hk : ∀ (l1 l2 : Option Nat) (l3 : Int32) (M : MM), k18 l1 l2 l3 M → RL sl sx 18 [some vS, some (vR l1), some (vR l2), some (vI l3)] [] M) (l1 : Option Nat) (l2 : Option Nat) (l3 : Int32) (M : MM) (h : wL_1940 sl sx k18 l1 l2 l3 M) : RL sl sx 1940 [some (vS), some (vR l1), some (vR l2), some (vI l3)] [] M := by
  obtain ⟨a1, he, h⟩ := h
  refine RN_k (callX_det _) 1 _ _ _ _ (show RL sl sx 1941 [some (vS), some (vR l1), some (vR l2), some (vI l3)] [vR l1] M from ?_)
  subst he
  refine RN_k (callX_det _) 1 _ _ _ _ (show kd M a1 9 ∧ callX TBg sl sx 300 157 [vR (some a1)] M (fun v M9 => RL sl sx 1944 [some (vS), some (vR (some a1)), some (vR l2), some (vI l3)] (pushO v []) M9) from ⟨h.1, ?_⟩)
  replace h := h.2
  refine callX_mono (d := 300) (c157 (d := 295) h) ?_
  clear h
  rintro v9 M2 ⟨r3, rfl, h⟩
  show RL sl sx 1944 [some (vS), some (vR (some a1)), some (vR l2), some (vI l3)] [vI r3] M2
  obtain ⟨a4, he, h⟩ := h
  refine RN_k (callX_det _) 1 _ _ _ _ (show RL sl sx 1945 [some (vS), some (vR (some a1)), some (vR l2), some (vI l3)] [vR l2, vI r3] M2 from ?_)
  subst he
  refine RN_k (callX_det _) 1 _ _ _ _ (show kd M2 a4 10 ∧ callX TBg sl sx 300 282 [vR (some a4)] M2 (fun v M9 => RL sl sx 1948 [some (vS), some (vR (some a1)), some (vR (some a4)), some (vI l3)] (pushO v [vI r3]) M9) from ⟨h.1, ?_⟩)
  replace h := h.2
  refine callX_mono (d := 300) (c282 (d := 298) h) ?_
  clear h
  rintro v9 M5 ⟨r6, rfl, h⟩
  show RL sl sx 1948 [some (vS), some (vR (some a1)), some (vR (some a4)), some (vI l3)] [vI r6, vI r3] M5
  refine RN_k (callX_det _) 1 _ _ _ _ (show (r3 = r6 → RL sl sx 1953 [some (vS), some (vR (some a1)), some (vR (some a4)), some (vI l3)] [] M5) ∧ (¬ (r3 = r6) → RL sl sx 1951 [some (vS), some (vR (some a1)), some (vR (some a4)), some (vI l3)] [] M5) from ⟨fun hc => ?_, fun hc => ?_⟩)
  · replace h := h.1 hc
    exact RN_weak (K := [some (vS), some (vR (some a1)), some (vR (some a4)), some (vI l3)]) (callX_det _) (show _ ∧ _ ∧ _ ∧ _ ∧ True from ⟨rfl, rfl, rfl, rfl, trivial⟩) (tL_1953 hk (some a1) (some a4) l3 _ h)
  · replace h := h.2 hc
    exact RN_k (callX_det _) 2 _ _ _ _ (show some (vI (0 : Int32)) = some (vI 1) from by rw [h])
def wL_1917 (sl : Nat) (sx : Nat → Int32) (k18 : Option Nat → Option Nat → Int32 → MM → Prop) (l1 : Option Nat) (l2 : Option Nat) (l3 : Int32) (M : MM) : Prop := vp_in (l3 + (1 : Int32)) sl ∧ (∃ a1, l1 = some a1 ∧ (kd M a1 9 ∧ w156 a1 (sx (l3 + (1 : Int32)).toNatClampNeg) M (fun r3 M2 => vp_in (l3 + (1 : Int32)) sl ∧ (∃ a4, l2 = some a4 ∧ (kd M2 a4 10 ∧ w289 a4 (sx (l3 + (1 : Int32)).toNatClampNeg) M2 (fun r6 M5 => (r3 = r6 → (wL_1953 sl sx k18 (some a1) (some a4) l3 M5)) ∧ (¬ (r3 = r6) → ((0 : Int32) = 1))))))))
theorem tL_1917 {sl : Nat} {sx : Nat → Int32} {k18 : Option Nat → Option Nat → Int32 → MM → Prop} (hk : ∀ (l1 l2 : Option Nat) (l3 : Int32) (M : MM), k18 l1 l2 l3 M → RL sl sx 18 [some vS, some (vR l1), some (vR l2), some (vI l3)] [] M) (l1 : Option Nat) (l2 : Option Nat) (l3 : Int32) (M : MM) (h : wL_1917 sl sx k18 l1 l2 l3 M) : RL sl sx 1917 [some (vS), some (vR l1), some (vR l2), some (vI l3)] [] M := by
  refine RN_k (callX_det _) 6 _ _ _ _ (show vp_in (l3 + (1 : Int32)) sl ∧ RL sl sx 1923 [some (vS), some (vR l1), some (vR l2), some (vI l3)] [vI (sx (l3 + (1 : Int32)).toNatClampNeg), vR l1] M from ⟨h.1, ?_⟩)
  replace h := h.2
  obtain ⟨a1, he, h⟩ := h
  subst he
  refine RN_k (callX_det _) 1 _ _ _ _ (show kd M a1 9 ∧ callX TBg sl sx 300 156 [vR (some a1), vI (sx (l3 + (1 : Int32)).toNatClampNeg)] M (fun v M9 => RL sl sx 1926 [some (vS), some (vR (some a1)), some (vR l2), some (vI l3)] (pushO v []) M9) from ⟨h.1, ?_⟩)
  replace h := h.2
  refine callX_mono (d := 300) (c156 (d := 295) h) ?_
  clear h
  rintro v9 M2 ⟨r3, rfl, h⟩
  show RL sl sx 1926 [some (vS), some (vR (some a1)), some (vR l2), some (vI l3)] [vI r3] M2
  refine RN_k (callX_det _) 6 _ _ _ _ (show vp_in (l3 + (1 : Int32)) sl ∧ RL sl sx 1932 [some (vS), some (vR (some a1)), some (vR l2), some (vI l3)] [vI (sx (l3 + (1 : Int32)).toNatClampNeg), vR l2, vI r3] M2 from ⟨h.1, ?_⟩)
  replace h := h.2
  obtain ⟨a4, he, h⟩ := h
  subst he
  refine RN_k (callX_det _) 1 _ _ _ _ (show kd M2 a4 10 ∧ callX TBg sl sx 300 289 [vR (some a4), vI (sx (l3 + (1 : Int32)).toNatClampNeg)] M2 (fun v M9 => RL sl sx 1935 [some (vS), some (vR (some a1)), some (vR (some a4)), some (vI l3)] (pushO v [vI r3]) M9) from ⟨h.1, ?_⟩)
  replace h := h.2
  refine callX_mono (d := 300) (c289 (d := 297) h) ?_
  clear h
  rintro v9 M5 ⟨r6, rfl, h⟩
  show RL sl sx 1935 [some (vS), some (vR (some a1)), some (vR (some a4)), some (vI l3)] [vI r6, vI r3] M5
  refine RN_k (callX_det _) 1 _ _ _ _ (show (r3 = r6 → RL sl sx 1953 [some (vS), some (vR (some a1)), some (vR (some a4)), some (vI l3)] [] M5) ∧ (¬ (r3 = r6) → RL sl sx 1938 [some (vS), some (vR (some a1)), some (vR (some a4)), some (vI l3)] [] M5) from ⟨fun hc => ?_, fun hc => ?_⟩)
  · replace h := h.1 hc
    exact RN_weak (K := [some (vS), some (vR (some a1)), some (vR (some a4)), some (vI l3)]) (callX_det _) (show _ ∧ _ ∧ _ ∧ _ ∧ True from ⟨rfl, rfl, rfl, rfl, trivial⟩) (tL_1953 hk (some a1) (some a4) l3 _ h)
  · replace h := h.2 hc
    exact RN_k (callX_det _) 2 _ _ _ _ (show some (vI (0 : Int32)) = some (vI 1) from by rw [h])
def wL_1884 (sl : Nat) (sx : Nat → Int32) (k18 : Option Nat → Option Nat → Int32 → MM → Prop) (l1 : Option Nat) (l2 : Option Nat) (l3 : Int32) (M : MM) : Prop := vp_in (l3 + (1 : Int32)) sl ∧ (vp_in (l3 + (2 : Int32)) sl ∧ (∃ a1, l1 = some a1 ∧ (kd M a1 9 ∧ w155 a1 (sx (l3 + (1 : Int32)).toNatClampNeg) (sx (l3 + (2 : Int32)).toNatClampNeg) M (fun r3 M2 => vp_in (l3 + (1 : Int32)) sl ∧ (vp_in (l3 + (2 : Int32)) sl ∧ (∃ a4, l2 = some a4 ∧ (kd M2 a4 10 ∧ w288 a4 (sx (l3 + (1 : Int32)).toNatClampNeg) (sx (l3 + (2 : Int32)).toNatClampNeg) M2 (fun r6 M5 => (r3 = r6 → (wL_1953 sl sx k18 (some a1) (some a4) l3 M5)) ∧ (¬ (r3 = r6) → ((0 : Int32) = 1))))))))))
theorem tL_1884 {sl : Nat} {sx : Nat → Int32} {k18 : Option Nat → Option Nat → Int32 → MM → Prop} (hk : ∀ (l1 l2 : Option Nat) (l3 : Int32) (M : MM), k18 l1 l2 l3 M → RL sl sx 18 [some vS, some (vR l1), some (vR l2), some (vI l3)] [] M) (l1 : Option Nat) (l2 : Option Nat) (l3 : Int32) (M : MM) (h : wL_1884 sl sx k18 l1 l2 l3 M) : RL sl sx 1884 [some (vS), some (vR l1), some (vR l2), some (vI l3)] [] M := by
  refine RN_k (callX_det _) 6 _ _ _ _ (show vp_in (l3 + (1 : Int32)) sl ∧ RL sl sx 1890 [some (vS), some (vR l1), some (vR l2), some (vI l3)] [vI (sx (l3 + (1 : Int32)).toNatClampNeg), vR l1] M from ⟨h.1, ?_⟩)
  replace h := h.2
  refine RN_k (callX_det _) 5 _ _ _ _ (show vp_in (l3 + (2 : Int32)) sl ∧ RL sl sx 1895 [some (vS), some (vR l1), some (vR l2), some (vI l3)] [vI (sx (l3 + (2 : Int32)).toNatClampNeg), vI (sx (l3 + (1 : Int32)).toNatClampNeg), vR l1] M from ⟨h.1, ?_⟩)
  replace h := h.2
  obtain ⟨a1, he, h⟩ := h
  subst he
  refine RN_k (callX_det _) 1 _ _ _ _ (show kd M a1 9 ∧ callX TBg sl sx 300 155 [vR (some a1), vI (sx (l3 + (1 : Int32)).toNatClampNeg), vI (sx (l3 + (2 : Int32)).toNatClampNeg)] M (fun v M9 => RL sl sx 1898 [some (vS), some (vR (some a1)), some (vR l2), some (vI l3)] (pushO v []) M9) from ⟨h.1, ?_⟩)
  replace h := h.2
  refine callX_mono (d := 300) (c155 (d := 295) h) ?_
  clear h
  rintro v9 M2 ⟨r3, rfl, h⟩
  show RL sl sx 1898 [some (vS), some (vR (some a1)), some (vR l2), some (vI l3)] [vI r3] M2
  refine RN_k (callX_det _) 6 _ _ _ _ (show vp_in (l3 + (1 : Int32)) sl ∧ RL sl sx 1904 [some (vS), some (vR (some a1)), some (vR l2), some (vI l3)] [vI (sx (l3 + (1 : Int32)).toNatClampNeg), vR l2, vI r3] M2 from ⟨h.1, ?_⟩)
  replace h := h.2
  refine RN_k (callX_det _) 5 _ _ _ _ (show vp_in (l3 + (2 : Int32)) sl ∧ RL sl sx 1909 [some (vS), some (vR (some a1)), some (vR l2), some (vI l3)] [vI (sx (l3 + (2 : Int32)).toNatClampNeg), vI (sx (l3 + (1 : Int32)).toNatClampNeg), vR l2, vI r3] M2 from ⟨h.1, ?_⟩)
  replace h := h.2
  obtain ⟨a4, he, h⟩ := h
  subst he
  refine RN_k (callX_det _) 1 _ _ _ _ (show kd M2 a4 10 ∧ callX TBg sl sx 300 288 [vR (some a4), vI (sx (l3 + (1 : Int32)).toNatClampNeg), vI (sx (l3 + (2 : Int32)).toNatClampNeg)] M2 (fun v M9 => RL sl sx 1912 [some (vS), some (vR (some a1)), some (vR (some a4)), some (vI l3)] (pushO v [vI r3]) M9) from ⟨h.1, ?_⟩)
  replace h := h.2
  refine callX_mono (d := 300) (c288 (d := 296) h) ?_
  clear h
  rintro v9 M5 ⟨r6, rfl, h⟩
  show RL sl sx 1912 [some (vS), some (vR (some a1)), some (vR (some a4)), some (vI l3)] [vI r6, vI r3] M5
  refine RN_k (callX_det _) 1 _ _ _ _ (show (r3 = r6 → RL sl sx 1953 [some (vS), some (vR (some a1)), some (vR (some a4)), some (vI l3)] [] M5) ∧ (¬ (r3 = r6) → RL sl sx 1915 [some (vS), some (vR (some a1)), some (vR (some a4)), some (vI l3)] [] M5) from ⟨fun hc => ?_, fun hc => ?_⟩)
  · replace h := h.1 hc
    exact RN_weak (K := [some (vS), some (vR (some a1)), some (vR (some a4)), some (vI l3)]) (callX_det _) (show _ ∧ _ ∧ _ ∧ _ ∧ True from ⟨rfl, rfl, rfl, rfl, trivial⟩) (tL_1953 hk (some a1) (some a4) l3 _ h)
  · replace h := h.2 hc
    exact RN_k (callX_det _) 2 _ _ _ _ (show some (vI (0 : Int32)) = some (vI 1) from by rw [h])
def wL_1831 (sl : Nat) (sx : Nat → Int32) (k18 : Option Nat → Option Nat → Int32 → MM → Prop) (l1 : Option Nat) (l2 : Option Nat) (l3 : Int32) (M : MM) : Prop := vp_in (l3 + (1 : Int32)) sl ∧ (vp_in (l3 + (2 : Int32)) sl ∧ (vp_in (l3 + (3 : Int32)) sl ∧ (vp_in (l3 + (4 : Int32)) sl ∧ (∃ a1, l1 = some a1 ∧ (kd M a1 9 ∧ w153 a1 (sx (l3 + (1 : Int32)).toNatClampNeg) (sx (l3 + (2 : Int32)).toNatClampNeg) (sx (l3 + (3 : Int32)).toNatClampNeg) (sx (l3 + (4 : Int32)).toNatClampNeg) M (fun r3 M2 => vp_in (l3 + (1 : Int32)) sl ∧ (vp_in (l3 + (2 : Int32)) sl ∧ (vp_in (l3 + (3 : Int32)) sl ∧ (vp_in (l3 + (4 : Int32)) sl ∧ (∃ a4, l2 = some a4 ∧ (kd M2 a4 10 ∧ w287 a4 (sx (l3 + (1 : Int32)).toNatClampNeg) (sx (l3 + (2 : Int32)).toNatClampNeg) (sx (l3 + (3 : Int32)).toNatClampNeg) (sx (l3 + (4 : Int32)).toNatClampNeg) M2 (fun r6 M5 => (r3 = r6 → (wL_1953 sl sx k18 (some a1) (some a4) l3 M5)) ∧ (¬ (r3 = r6) → ((0 : Int32) = 1))))))))))))))
theorem tL_1831 {sl : Nat} {sx : Nat → Int32} {k18 : Option Nat → Option Nat → Int32 → MM → Prop} (hk : ∀ (l1 l2 : Option Nat) (l3 : Int32) (M : MM), k18 l1 l2 l3 M → RL sl sx 18 [some vS, some (vR l1), some (vR l2), some (vI l3)] [] M) (l1 : Option Nat) (l2 : Option Nat) (l3 : Int32) (M : MM) (h : wL_1831 sl sx k18 l1 l2 l3 M) : RL sl sx 1831 [some (vS), some (vR l1), some (vR l2), some (vI l3)] [] M := by
  refine RN_k (callX_det _) 6 _ _ _ _ (show vp_in (l3 + (1 : Int32)) sl ∧ RL sl sx 1837 [some (vS), some (vR l1), some (vR l2), some (vI l3)] [vI (sx (l3 + (1 : Int32)).toNatClampNeg), vR l1] M from ⟨h.1, ?_⟩)
  replace h := h.2
  refine RN_k (callX_det _) 5 _ _ _ _ (show vp_in (l3 + (2 : Int32)) sl ∧ RL sl sx 1842 [some (vS), some (vR l1), some (vR l2), some (vI l3)] [vI (sx (l3 + (2 : Int32)).toNatClampNeg), vI (sx (l3 + (1 : Int32)).toNatClampNeg), vR l1] M from ⟨h.1, ?_⟩)
  replace h := h.2
  refine RN_k (callX_det _) 5 _ _ _ _ (show vp_in (l3 + (3 : Int32)) sl ∧ RL sl sx 1847 [some (vS), some (vR l1), some (vR l2), some (vI l3)] [vI (sx (l3 + (3 : Int32)).toNatClampNeg), vI (sx (l3 + (2 : Int32)).toNatClampNeg), vI (sx (l3 + (1 : Int32)).toNatClampNeg), vR l1] M from ⟨h.1, ?_⟩)
  replace h := h.2
  refine RN_k (callX_det _) 5 _ _ _ _ (show vp_in (l3 + (4 : Int32)) sl ∧ RL sl sx 1852 [some (vS), some (vR l1), some (vR l2), some (vI l3)] [vI (sx (l3 + (4 : Int32)).toNatClampNeg), vI (sx (l3 + (3 : Int32)).toNatClampNeg), vI (sx (l3 + (2 : Int32)).toNatClampNeg), vI (sx (l3 + (1 : Int32)).toNatClampNeg), vR l1] M from ⟨h.1, ?_⟩)
  replace h := h.2
  obtain ⟨a1, he, h⟩ := h
  subst he
  refine RN_k (callX_det _) 1 _ _ _ _ (show kd M a1 9 ∧ callX TBg sl sx 300 153 [vR (some a1), vI (sx (l3 + (1 : Int32)).toNatClampNeg), vI (sx (l3 + (2 : Int32)).toNatClampNeg), vI (sx (l3 + (3 : Int32)).toNatClampNeg), vI (sx (l3 + (4 : Int32)).toNatClampNeg)] M (fun v M9 => RL sl sx 1855 [some (vS), some (vR (some a1)), some (vR l2), some (vI l3)] (pushO v []) M9) from ⟨h.1, ?_⟩)
  replace h := h.2
  refine callX_mono (d := 300) (c153 (d := 295) h) ?_
  clear h
  rintro v9 M2 ⟨r3, rfl, h⟩
  show RL sl sx 1855 [some (vS), some (vR (some a1)), some (vR l2), some (vI l3)] [vI r3] M2
  refine RN_k (callX_det _) 6 _ _ _ _ (show vp_in (l3 + (1 : Int32)) sl ∧ RL sl sx 1861 [some (vS), some (vR (some a1)), some (vR l2), some (vI l3)] [vI (sx (l3 + (1 : Int32)).toNatClampNeg), vR l2, vI r3] M2 from ⟨h.1, ?_⟩)
  replace h := h.2
  refine RN_k (callX_det _) 5 _ _ _ _ (show vp_in (l3 + (2 : Int32)) sl ∧ RL sl sx 1866 [some (vS), some (vR (some a1)), some (vR l2), some (vI l3)] [vI (sx (l3 + (2 : Int32)).toNatClampNeg), vI (sx (l3 + (1 : Int32)).toNatClampNeg), vR l2, vI r3] M2 from ⟨h.1, ?_⟩)
  replace h := h.2
  refine RN_k (callX_det _) 5 _ _ _ _ (show vp_in (l3 + (3 : Int32)) sl ∧ RL sl sx 1871 [some (vS), some (vR (some a1)), some (vR l2), some (vI l3)] [vI (sx (l3 + (3 : Int32)).toNatClampNeg), vI (sx (l3 + (2 : Int32)).toNatClampNeg), vI (sx (l3 + (1 : Int32)).toNatClampNeg), vR l2, vI r3] M2 from ⟨h.1, ?_⟩)
  replace h := h.2
  refine RN_k (callX_det _) 5 _ _ _ _ (show vp_in (l3 + (4 : Int32)) sl ∧ RL sl sx 1876 [some (vS), some (vR (some a1)), some (vR l2), some (vI l3)] [vI (sx (l3 + (4 : Int32)).toNatClampNeg), vI (sx (l3 + (3 : Int32)).toNatClampNeg), vI (sx (l3 + (2 : Int32)).toNatClampNeg), vI (sx (l3 + (1 : Int32)).toNatClampNeg), vR l2, vI r3] M2 from ⟨h.1, ?_⟩)
  replace h := h.2
  obtain ⟨a4, he, h⟩ := h
  subst he
  refine RN_k (callX_det _) 1 _ _ _ _ (show kd M2 a4 10 ∧ callX TBg sl sx 300 287 [vR (some a4), vI (sx (l3 + (1 : Int32)).toNatClampNeg), vI (sx (l3 + (2 : Int32)).toNatClampNeg), vI (sx (l3 + (3 : Int32)).toNatClampNeg), vI (sx (l3 + (4 : Int32)).toNatClampNeg)] M2 (fun v M9 => RL sl sx 1879 [some (vS), some (vR (some a1)), some (vR (some a4)), some (vI l3)] (pushO v [vI r3]) M9) from ⟨h.1, ?_⟩)
  replace h := h.2
  refine callX_mono (d := 300) (c287 (d := 295) h) ?_
  clear h
  rintro v9 M5 ⟨r6, rfl, h⟩
  show RL sl sx 1879 [some (vS), some (vR (some a1)), some (vR (some a4)), some (vI l3)] [vI r6, vI r3] M5
  refine RN_k (callX_det _) 1 _ _ _ _ (show (r3 = r6 → RL sl sx 1953 [some (vS), some (vR (some a1)), some (vR (some a4)), some (vI l3)] [] M5) ∧ (¬ (r3 = r6) → RL sl sx 1882 [some (vS), some (vR (some a1)), some (vR (some a4)), some (vI l3)] [] M5) from ⟨fun hc => ?_, fun hc => ?_⟩)
  · replace h := h.1 hc
    exact RN_weak (K := [some (vS), some (vR (some a1)), some (vR (some a4)), some (vI l3)]) (callX_det _) (show _ ∧ _ ∧ _ ∧ _ ∧ True from ⟨rfl, rfl, rfl, rfl, trivial⟩) (tL_1953 hk (some a1) (some a4) l3 _ h)
  · replace h := h.2 hc
    exact RN_k (callX_det _) 2 _ _ _ _ (show some (vI (0 : Int32)) = some (vI 1) from by rw [h])
def wL_1778 (sl : Nat) (sx : Nat → Int32) (k18 : Option Nat → Option Nat → Int32 → MM → Prop) (l1 : Option Nat) (l2 : Option Nat) (l3 : Int32) (M : MM) : Prop := vp_in (l3 + (1 : Int32)) sl ∧ (vp_in (l3 + (2 : Int32)) sl ∧ (vp_in (l3 + (3 : Int32)) sl ∧ (vp_in (l3 + (4 : Int32)) sl ∧ (∃ a1, l1 = some a1 ∧ (kd M a1 9 ∧ w150 a1 (sx (l3 + (1 : Int32)).toNatClampNeg) (sx (l3 + (2 : Int32)).toNatClampNeg) (sx (l3 + (3 : Int32)).toNatClampNeg) (sx (l3 + (4 : Int32)).toNatClampNeg) M (fun r3 M2 => vp_in (l3 + (1 : Int32)) sl ∧ (vp_in (l3 + (2 : Int32)) sl ∧ (vp_in (l3 + (3 : Int32)) sl ∧ (vp_in (l3 + (4 : Int32)) sl ∧ (∃ a4, l2 = some a4 ∧ (kd M2 a4 10 ∧ w283 a4 (sx (l3 + (1 : Int32)).toNatClampNeg) (sx (l3 + (2 : Int32)).toNatClampNeg) (sx (l3 + (3 : Int32)).toNatClampNeg) (sx (l3 + (4 : Int32)).toNatClampNeg) M2 (fun r6 M5 => (r3 = r6 → (wL_1953 sl sx k18 (some a1) (some a4) l3 M5)) ∧ (¬ (r3 = r6) → ((0 : Int32) = 1))))))))))))))
theorem tL_1778 {sl : Nat} {sx : Nat → Int32} {k18 : Option Nat → Option Nat → Int32 → MM → Prop} (hk : ∀ (l1 l2 : Option Nat) (l3 : Int32) (M : MM), k18 l1 l2 l3 M → RL sl sx 18 [some vS, some (vR l1), some (vR l2), some (vI l3)] [] M) (l1 : Option Nat) (l2 : Option Nat) (l3 : Int32) (M : MM) (h : wL_1778 sl sx k18 l1 l2 l3 M) : RL sl sx 1778 [some (vS), some (vR l1), some (vR l2), some (vI l3)] [] M := by
  refine RN_k (callX_det _) 6 _ _ _ _ (show vp_in (l3 + (1 : Int32)) sl ∧ RL sl sx 1784 [some (vS), some (vR l1), some (vR l2), some (vI l3)] [vI (sx (l3 + (1 : Int32)).toNatClampNeg), vR l1] M from ⟨h.1, ?_⟩)
  replace h := h.2
  refine RN_k (callX_det _) 5 _ _ _ _ (show vp_in (l3 + (2 : Int32)) sl ∧ RL sl sx 1789 [some (vS), some (vR l1), some (vR l2), some (vI l3)] [vI (sx (l3 + (2 : Int32)).toNatClampNeg), vI (sx (l3 + (1 : Int32)).toNatClampNeg), vR l1] M from ⟨h.1, ?_⟩)
  replace h := h.2
  refine RN_k (callX_det _) 5 _ _ _ _ (show vp_in (l3 + (3 : Int32)) sl ∧ RL sl sx 1794 [some (vS), some (vR l1), some (vR l2), some (vI l3)] [vI (sx (l3 + (3 : Int32)).toNatClampNeg), vI (sx (l3 + (2 : Int32)).toNatClampNeg), vI (sx (l3 + (1 : Int32)).toNatClampNeg), vR l1] M from ⟨h.1, ?_⟩)
  replace h := h.2
  refine RN_k (callX_det _) 5 _ _ _ _ (show vp_in (l3 + (4 : Int32)) sl ∧ RL sl sx 1799 [some (vS), some (vR l1), some (vR l2), some (vI l3)] [vI (sx (l3 + (4 : Int32)).toNatClampNeg), vI (sx (l3 + (3 : Int32)).toNatClampNeg), vI (sx (l3 + (2 : Int32)).toNatClampNeg), vI (sx (l3 + (1 : Int32)).toNatClampNeg), vR l1] M from ⟨h.1, ?_⟩)
  replace h := h.2
  obtain ⟨a1, he, h⟩ := h
  subst he
  refine RN_k (callX_det _) 1 _ _ _ _ (show kd M a1 9 ∧ callX TBg sl sx 300 150 [vR (some a1), vI (sx (l3 + (1 : Int32)).toNatClampNeg), vI (sx (l3 + (2 : Int32)).toNatClampNeg), vI (sx (l3 + (3 : Int32)).toNatClampNeg), vI (sx (l3 + (4 : Int32)).toNatClampNeg)] M (fun v M9 => RL sl sx 1802 [some (vS), some (vR (some a1)), some (vR l2), some (vI l3)] (pushO v []) M9) from ⟨h.1, ?_⟩)
  replace h := h.2
  refine callX_mono (d := 300) (c150 (d := 295) h) ?_
  clear h
  rintro v9 M2 ⟨r3, rfl, h⟩
  show RL sl sx 1802 [some (vS), some (vR (some a1)), some (vR l2), some (vI l3)] [vI r3] M2
  refine RN_k (callX_det _) 6 _ _ _ _ (show vp_in (l3 + (1 : Int32)) sl ∧ RL sl sx 1808 [some (vS), some (vR (some a1)), some (vR l2), some (vI l3)] [vI (sx (l3 + (1 : Int32)).toNatClampNeg), vR l2, vI r3] M2 from ⟨h.1, ?_⟩)
  replace h := h.2
  refine RN_k (callX_det _) 5 _ _ _ _ (show vp_in (l3 + (2 : Int32)) sl ∧ RL sl sx 1813 [some (vS), some (vR (some a1)), some (vR l2), some (vI l3)] [vI (sx (l3 + (2 : Int32)).toNatClampNeg), vI (sx (l3 + (1 : Int32)).toNatClampNeg), vR l2, vI r3] M2 from ⟨h.1, ?_⟩)
  replace h := h.2
  refine RN_k (callX_det _) 5 _ _ _ _ (show vp_in (l3 + (3 : Int32)) sl ∧ RL sl sx 1818 [some (vS), some (vR (some a1)), some (vR l2), some (vI l3)] [vI (sx (l3 + (3 : Int32)).toNatClampNeg), vI (sx (l3 + (2 : Int32)).toNatClampNeg), vI (sx (l3 + (1 : Int32)).toNatClampNeg), vR l2, vI r3] M2 from ⟨h.1, ?_⟩)
  replace h := h.2
  refine RN_k (callX_det _) 5 _ _ _ _ (show vp_in (l3 + (4 : Int32)) sl ∧ RL sl sx 1823 [some (vS), some (vR (some a1)), some (vR l2), some (vI l3)] [vI (sx (l3 + (4 : Int32)).toNatClampNeg), vI (sx (l3 + (3 : Int32)).toNatClampNeg), vI (sx (l3 + (2 : Int32)).toNatClampNeg), vI (sx (l3 + (1 : Int32)).toNatClampNeg), vR l2, vI r3] M2 from ⟨h.1, ?_⟩)
  replace h := h.2
  obtain ⟨a4, he, h⟩ := h
  subst he
  refine RN_k (callX_det _) 1 _ _ _ _ (show kd M2 a4 10 ∧ callX TBg sl sx 300 283 [vR (some a4), vI (sx (l3 + (1 : Int32)).toNatClampNeg), vI (sx (l3 + (2 : Int32)).toNatClampNeg), vI (sx (l3 + (3 : Int32)).toNatClampNeg), vI (sx (l3 + (4 : Int32)).toNatClampNeg)] M2 (fun v M9 => RL sl sx 1826 [some (vS), some (vR (some a1)), some (vR (some a4)), some (vI l3)] (pushO v [vI r3]) M9) from ⟨h.1, ?_⟩)
  replace h := h.2
  refine callX_mono (d := 300) (c283 (d := 295) h) ?_
  clear h
  rintro v9 M5 ⟨r6, rfl, h⟩
  show RL sl sx 1826 [some (vS), some (vR (some a1)), some (vR (some a4)), some (vI l3)] [vI r6, vI r3] M5
  refine RN_k (callX_det _) 1 _ _ _ _ (show (r3 = r6 → RL sl sx 1953 [some (vS), some (vR (some a1)), some (vR (some a4)), some (vI l3)] [] M5) ∧ (¬ (r3 = r6) → RL sl sx 1829 [some (vS), some (vR (some a1)), some (vR (some a4)), some (vI l3)] [] M5) from ⟨fun hc => ?_, fun hc => ?_⟩)
  · replace h := h.1 hc
    exact RN_weak (K := [some (vS), some (vR (some a1)), some (vR (some a4)), some (vI l3)]) (callX_det _) (show _ ∧ _ ∧ _ ∧ _ ∧ True from ⟨rfl, rfl, rfl, rfl, trivial⟩) (tL_1953 hk (some a1) (some a4) l3 _ h)
  · replace h := h.2 hc
    exact RN_k (callX_det _) 2 _ _ _ _ (show some (vI (0 : Int32)) = some (vI 1) from by rw [h])
def wL_1755 (sl : Nat) (sx : Nat → Int32) (k18 : Option Nat → Option Nat → Int32 → MM → Prop) (l1 : Option Nat) (l2 : Option Nat) (l3 : Int32) (M : MM) : Prop := vp_in (l3 + (1 : Int32)) sl ∧ (∃ a1, l1 = some a1 ∧ (kd M a1 9 ∧ w149 a1 (sx (l3 + (1 : Int32)).toNatClampNeg) M (fun r3 M2 => vp_in (l3 + (1 : Int32)) sl ∧ (∃ a4, l2 = some a4 ∧ (kd M2 a4 10 ∧ w281 a4 (sx (l3 + (1 : Int32)).toNatClampNeg) M2 (fun r6 M5 => (r3 = r6 → (wL_1953 sl sx k18 (some a1) (some a4) l3 M5)) ∧ (¬ (r3 = r6) → ((0 : Int32) = 1))))))))
theorem tL_1755 {sl : Nat} {sx : Nat → Int32} {k18 : Option Nat → Option Nat → Int32 → MM → Prop} (hk : ∀ (l1 l2 : Option Nat) (l3 : Int32) (M : MM), k18 l1 l2 l3 M → RL sl sx 18 [some vS, some (vR l1), some (vR l2), some (vI l3)] [] M) (l1 : Option Nat) (l2 : Option Nat) (l3 : Int32) (M : MM) (h : wL_1755 sl sx k18 l1 l2 l3 M) : RL sl sx 1755 [some (vS), some (vR l1), some (vR l2), some (vI l3)] [] M := by
  refine RN_k (callX_det _) 6 _ _ _ _ (show vp_in (l3 + (1 : Int32)) sl ∧ RL sl sx 1761 [some (vS), some (vR l1), some (vR l2), some (vI l3)] [vI (sx (l3 + (1 : Int32)).toNatClampNeg), vR l1] M from ⟨h.1, ?_⟩)
  replace h := h.2
  obtain ⟨a1, he, h⟩ := h
  subst he
  refine RN_k (callX_det _) 1 _ _ _ _ (show kd M a1 9 ∧ callX TBg sl sx 300 149 [vR (some a1), vI (sx (l3 + (1 : Int32)).toNatClampNeg)] M (fun v M9 => RL sl sx 1764 [some (vS), some (vR (some a1)), some (vR l2), some (vI l3)] (pushO v []) M9) from ⟨h.1, ?_⟩)
  replace h := h.2
  refine callX_mono (d := 300) (c149 (d := 298) h) ?_
  clear h
  rintro v9 M2 ⟨r3, rfl, h⟩
  show RL sl sx 1764 [some (vS), some (vR (some a1)), some (vR l2), some (vI l3)] [vI r3] M2
  refine RN_k (callX_det _) 6 _ _ _ _ (show vp_in (l3 + (1 : Int32)) sl ∧ RL sl sx 1770 [some (vS), some (vR (some a1)), some (vR l2), some (vI l3)] [vI (sx (l3 + (1 : Int32)).toNatClampNeg), vR l2, vI r3] M2 from ⟨h.1, ?_⟩)
  replace h := h.2
  obtain ⟨a4, he, h⟩ := h
  subst he
  refine RN_k (callX_det _) 1 _ _ _ _ (show kd M2 a4 10 ∧ callX TBg sl sx 300 281 [vR (some a4), vI (sx (l3 + (1 : Int32)).toNatClampNeg)] M2 (fun v M9 => RL sl sx 1773 [some (vS), some (vR (some a1)), some (vR (some a4)), some (vI l3)] (pushO v [vI r3]) M9) from ⟨h.1, ?_⟩)
  replace h := h.2
  refine callX_mono (d := 300) (c281 (d := 298) h) ?_
  clear h
  rintro v9 M5 ⟨r6, rfl, h⟩
  show RL sl sx 1773 [some (vS), some (vR (some a1)), some (vR (some a4)), some (vI l3)] [vI r6, vI r3] M5
  refine RN_k (callX_det _) 1 _ _ _ _ (show (r3 = r6 → RL sl sx 1953 [some (vS), some (vR (some a1)), some (vR (some a4)), some (vI l3)] [] M5) ∧ (¬ (r3 = r6) → RL sl sx 1776 [some (vS), some (vR (some a1)), some (vR (some a4)), some (vI l3)] [] M5) from ⟨fun hc => ?_, fun hc => ?_⟩)
  · replace h := h.1 hc
    exact RN_weak (K := [some (vS), some (vR (some a1)), some (vR (some a4)), some (vI l3)]) (callX_det _) (show _ ∧ _ ∧ _ ∧ _ ∧ True from ⟨rfl, rfl, rfl, rfl, trivial⟩) (tL_1953 hk (some a1) (some a4) l3 _ h)
  · replace h := h.2 hc
    exact RN_k (callX_det _) 2 _ _ _ _ (show some (vI (0 : Int32)) = some (vI 1) from by rw [h])
def wL_1742 (sl : Nat) (sx : Nat → Int32) (k18 : Option Nat → Option Nat → Int32 → MM → Prop) (l1 : Option Nat) (l2 : Option Nat) (l3 : Int32) (M : MM) : Prop := ∃ a1, l1 = some a1 ∧ (kd M a1 9 ∧ w145 a1 M (fun r3 M2 => ∃ a4, l2 = some a4 ∧ (kd M2 a4 10 ∧ w277 a4 M2 (fun r6 M5 => (r3 = r6 → (wL_1953 sl sx k18 (some a1) (some a4) l3 M5)) ∧ (¬ (r3 = r6) → ((0 : Int32) = 1))))))
theorem tL_1742 {sl : Nat} {sx : Nat → Int32} {k18 : Option Nat → Option Nat → Int32 → MM → Prop} (hk : ∀ (l1 l2 : Option Nat) (l3 : Int32) (M : MM), k18 l1 l2 l3 M → RL sl sx 18 [some vS, some (vR l1), some (vR l2), some (vI l3)] [] M) (l1 : Option Nat) (l2 : Option Nat) (l3 : Int32) (M : MM) (h : wL_1742 sl sx k18 l1 l2 l3 M) : RL sl sx 1742 [some (vS), some (vR l1), some (vR l2), some (vI l3)] [] M := by
  obtain ⟨a1, he, h⟩ := h
  refine RN_k (callX_det _) 1 _ _ _ _ (show RL sl sx 1743 [some (vS), some (vR l1), some (vR l2), some (vI l3)] [vR l1] M from ?_)
  subst he
  refine RN_k (callX_det _) 1 _ _ _ _ (show kd M a1 9 ∧ callX TBg sl sx 300 145 [vR (some a1)] M (fun v M9 => RL sl sx 1746 [some (vS), some (vR (some a1)), some (vR l2), some (vI l3)] (pushO v []) M9) from ⟨h.1, ?_⟩)
  replace h := h.2
  refine callX_mono (d := 300) (c145 (d := 297) h) ?_
  clear h
  rintro v9 M2 ⟨r3, rfl, h⟩
  show RL sl sx 1746 [some (vS), some (vR (some a1)), some (vR l2), some (vI l3)] [vI r3] M2
  obtain ⟨a4, he, h⟩ := h
  refine RN_k (callX_det _) 1 _ _ _ _ (show RL sl sx 1747 [some (vS), some (vR (some a1)), some (vR l2), some (vI l3)] [vR l2, vI r3] M2 from ?_)
  subst he
  refine RN_k (callX_det _) 1 _ _ _ _ (show kd M2 a4 10 ∧ callX TBg sl sx 300 277 [vR (some a4)] M2 (fun v M9 => RL sl sx 1750 [some (vS), some (vR (some a1)), some (vR (some a4)), some (vI l3)] (pushO v [vI r3]) M9) from ⟨h.1, ?_⟩)
  replace h := h.2
  refine callX_mono (d := 300) (c277 (d := 297) h) ?_
  clear h
  rintro v9 M5 ⟨r6, rfl, h⟩
  show RL sl sx 1750 [some (vS), some (vR (some a1)), some (vR (some a4)), some (vI l3)] [vI r6, vI r3] M5
  refine RN_k (callX_det _) 1 _ _ _ _ (show (r3 = r6 → RL sl sx 1953 [some (vS), some (vR (some a1)), some (vR (some a4)), some (vI l3)] [] M5) ∧ (¬ (r3 = r6) → RL sl sx 1753 [some (vS), some (vR (some a1)), some (vR (some a4)), some (vI l3)] [] M5) from ⟨fun hc => ?_, fun hc => ?_⟩)
  · replace h := h.1 hc
    exact RN_weak (K := [some (vS), some (vR (some a1)), some (vR (some a4)), some (vI l3)]) (callX_det _) (show _ ∧ _ ∧ _ ∧ _ ∧ True from ⟨rfl, rfl, rfl, rfl, trivial⟩) (tL_1953 hk (some a1) (some a4) l3 _ h)
  · replace h := h.2 hc
    exact RN_k (callX_det _) 2 _ _ _ _ (show some (vI (0 : Int32)) = some (vI 1) from by rw [h])
def wL_1699 (sl : Nat) (sx : Nat → Int32) (k18 : Option Nat → Option Nat → Int32 → MM → Prop) (l1 : Option Nat) (l2 : Option Nat) (l3 : Int32) (M : MM) : Prop := vp_in (l3 + (1 : Int32)) sl ∧ (vp_in (l3 + (2 : Int32)) sl ∧ (vp_in (l3 + (3 : Int32)) sl ∧ (∃ a1, l1 = some a1 ∧ (kd M a1 9 ∧ w143 a1 (sx (l3 + (1 : Int32)).toNatClampNeg) (sx (l3 + (2 : Int32)).toNatClampNeg) (sx (l3 + (3 : Int32)).toNatClampNeg) M (fun r3 M2 => vp_in (l3 + (1 : Int32)) sl ∧ (vp_in (l3 + (2 : Int32)) sl ∧ (vp_in (l3 + (3 : Int32)) sl ∧ (∃ a4, l2 = some a4 ∧ (kd M2 a4 10 ∧ w276 a4 (sx (l3 + (1 : Int32)).toNatClampNeg) (sx (l3 + (2 : Int32)).toNatClampNeg) (sx (l3 + (3 : Int32)).toNatClampNeg) M2 (fun r6 M5 => (r3 = r6 → (wL_1953 sl sx k18 (some a1) (some a4) l3 M5)) ∧ (¬ (r3 = r6) → ((0 : Int32) = 1))))))))))))
theorem tL_1699 {sl : Nat} {sx : Nat → Int32} {k18 : Option Nat → Option Nat → Int32 → MM → Prop} (hk : ∀ (l1 l2 : Option Nat) (l3 : Int32) (M : MM), k18 l1 l2 l3 M → RL sl sx 18 [some vS, some (vR l1), some (vR l2), some (vI l3)] [] M) (l1 : Option Nat) (l2 : Option Nat) (l3 : Int32) (M : MM) (h : wL_1699 sl sx k18 l1 l2 l3 M) : RL sl sx 1699 [some (vS), some (vR l1), some (vR l2), some (vI l3)] [] M := by
  refine RN_k (callX_det _) 6 _ _ _ _ (show vp_in (l3 + (1 : Int32)) sl ∧ RL sl sx 1705 [some (vS), some (vR l1), some (vR l2), some (vI l3)] [vI (sx (l3 + (1 : Int32)).toNatClampNeg), vR l1] M from ⟨h.1, ?_⟩)
  replace h := h.2
  refine RN_k (callX_det _) 5 _ _ _ _ (show vp_in (l3 + (2 : Int32)) sl ∧ RL sl sx 1710 [some (vS), some (vR l1), some (vR l2), some (vI l3)] [vI (sx (l3 + (2 : Int32)).toNatClampNeg), vI (sx (l3 + (1 : Int32)).toNatClampNeg), vR l1] M from ⟨h.1, ?_⟩)
  replace h := h.2
  refine RN_k (callX_det _) 5 _ _ _ _ (show vp_in (l3 + (3 : Int32)) sl ∧ RL sl sx 1715 [some (vS), some (vR l1), some (vR l2), some (vI l3)] [vI (sx (l3 + (3 : Int32)).toNatClampNeg), vI (sx (l3 + (2 : Int32)).toNatClampNeg), vI (sx (l3 + (1 : Int32)).toNatClampNeg), vR l1] M from ⟨h.1, ?_⟩)
  replace h := h.2
  obtain ⟨a1, he, h⟩ := h
  subst he
  refine RN_k (callX_det _) 1 _ _ _ _ (show kd M a1 9 ∧ callX TBg sl sx 300 143 [vR (some a1), vI (sx (l3 + (1 : Int32)).toNatClampNeg), vI (sx (l3 + (2 : Int32)).toNatClampNeg), vI (sx (l3 + (3 : Int32)).toNatClampNeg)] M (fun v M9 => RL sl sx 1718 [some (vS), some (vR (some a1)), some (vR l2), some (vI l3)] (pushO v []) M9) from ⟨h.1, ?_⟩)
  replace h := h.2
  refine callX_mono (d := 300) (c143 (d := 294) h) ?_
  clear h
  rintro v9 M2 ⟨r3, rfl, h⟩
  show RL sl sx 1718 [some (vS), some (vR (some a1)), some (vR l2), some (vI l3)] [vI r3] M2
  refine RN_k (callX_det _) 6 _ _ _ _ (show vp_in (l3 + (1 : Int32)) sl ∧ RL sl sx 1724 [some (vS), some (vR (some a1)), some (vR l2), some (vI l3)] [vI (sx (l3 + (1 : Int32)).toNatClampNeg), vR l2, vI r3] M2 from ⟨h.1, ?_⟩)
  replace h := h.2
  refine RN_k (callX_det _) 5 _ _ _ _ (show vp_in (l3 + (2 : Int32)) sl ∧ RL sl sx 1729 [some (vS), some (vR (some a1)), some (vR l2), some (vI l3)] [vI (sx (l3 + (2 : Int32)).toNatClampNeg), vI (sx (l3 + (1 : Int32)).toNatClampNeg), vR l2, vI r3] M2 from ⟨h.1, ?_⟩)
  replace h := h.2
  refine RN_k (callX_det _) 5 _ _ _ _ (show vp_in (l3 + (3 : Int32)) sl ∧ RL sl sx 1734 [some (vS), some (vR (some a1)), some (vR l2), some (vI l3)] [vI (sx (l3 + (3 : Int32)).toNatClampNeg), vI (sx (l3 + (2 : Int32)).toNatClampNeg), vI (sx (l3 + (1 : Int32)).toNatClampNeg), vR l2, vI r3] M2 from ⟨h.1, ?_⟩)
  replace h := h.2
  obtain ⟨a4, he, h⟩ := h
  subst he
  refine RN_k (callX_det _) 1 _ _ _ _ (show kd M2 a4 10 ∧ callX TBg sl sx 300 276 [vR (some a4), vI (sx (l3 + (1 : Int32)).toNatClampNeg), vI (sx (l3 + (2 : Int32)).toNatClampNeg), vI (sx (l3 + (3 : Int32)).toNatClampNeg)] M2 (fun v M9 => RL sl sx 1737 [some (vS), some (vR (some a1)), some (vR (some a4)), some (vI l3)] (pushO v [vI r3]) M9) from ⟨h.1, ?_⟩)
  replace h := h.2
  refine callX_mono (d := 300) (c276 (d := 194) h) ?_
  clear h
  rintro v9 M5 ⟨r6, rfl, h⟩
  show RL sl sx 1737 [some (vS), some (vR (some a1)), some (vR (some a4)), some (vI l3)] [vI r6, vI r3] M5
  refine RN_k (callX_det _) 1 _ _ _ _ (show (r3 = r6 → RL sl sx 1953 [some (vS), some (vR (some a1)), some (vR (some a4)), some (vI l3)] [] M5) ∧ (¬ (r3 = r6) → RL sl sx 1740 [some (vS), some (vR (some a1)), some (vR (some a4)), some (vI l3)] [] M5) from ⟨fun hc => ?_, fun hc => ?_⟩)
  · replace h := h.1 hc
    exact RN_weak (K := [some (vS), some (vR (some a1)), some (vR (some a4)), some (vI l3)]) (callX_det _) (show _ ∧ _ ∧ _ ∧ _ ∧ True from ⟨rfl, rfl, rfl, rfl, trivial⟩) (tL_1953 hk (some a1) (some a4) l3 _ h)
  · replace h := h.2 hc
    exact RN_k (callX_det _) 2 _ _ _ _ (show some (vI (0 : Int32)) = some (vI 1) from by rw [h])
def wL_1656 (sl : Nat) (sx : Nat → Int32) (k18 : Option Nat → Option Nat → Int32 → MM → Prop) (l1 : Option Nat) (l2 : Option Nat) (l3 : Int32) (M : MM) : Prop := vp_in (l3 + (1 : Int32)) sl ∧ (vp_in (l3 + (2 : Int32)) sl ∧ (vp_in (l3 + (3 : Int32)) sl ∧ (∃ a1, l1 = some a1 ∧ (kd M a1 9 ∧ w141 a1 (sx (l3 + (1 : Int32)).toNatClampNeg) (sx (l3 + (2 : Int32)).toNatClampNeg) (sx (l3 + (3 : Int32)).toNatClampNeg) M (fun r3 M2 => vp_in (l3 + (1 : Int32)) sl ∧ (vp_in (l3 + (2 : Int32)) sl ∧ (vp_in (l3 + (3 : Int32)) sl ∧ (∃ a4, l2 = some a4 ∧ (kd M2 a4 10 ∧ w274 a4 (sx (l3 + (1 : Int32)).toNatClampNeg) (sx (l3 + (2 : Int32)).toNatClampNeg) (sx (l3 + (3 : Int32)).toNatClampNeg) M2 (fun r6 M5 => (r3 = r6 → (wL_1953 sl sx k18 (some a1) (some a4) l3 M5)) ∧ (¬ (r3 = r6) → ((0 : Int32) = 1))))))))))))
theorem tL_1656 {sl : Nat} {sx : Nat → Int32} {k18 : Option Nat → Option Nat → Int32 → MM → Prop} (hk : ∀ (l1 l2 : Option Nat) (l3 : Int32) (M : MM), k18 l1 l2 l3 M → RL sl sx 18 [some vS, some (vR l1), some (vR l2), some (vI l3)] [] M) (l1 : Option Nat) (l2 : Option Nat) (l3 : Int32) (M : MM) (h : wL_1656 sl sx k18 l1 l2 l3 M) : RL sl sx 1656 [some (vS), some (vR l1), some (vR l2), some (vI l3)] [] M := by
  refine RN_k (callX_det _) 6 _ _ _ _ (show vp_in (l3 + (1 : Int32)) sl ∧ RL sl sx 1662 [some (vS), some (vR l1), some (vR l2), some (vI l3)] [vI (sx (l3 + (1 : Int32)).toNatClampNeg), vR l1] M from ⟨h.1, ?_⟩)
  replace h := h.2
  refine RN_k (callX_det _) 5 _ _ _ _ (show vp_in (l3 + (2 : Int32)) sl ∧ RL sl sx 1667 [some (vS), some (vR l1), some (vR l2), some (vI l3)] [vI (sx (l3 + (2 : Int32)).toNatClampNeg), vI (sx (l3 + (1 : Int32)).toNatClampNeg), vR l1] M from ⟨h.1, ?_⟩)
  replace h := h.2
  refine RN_k (callX_det _) 5 _ _ _ _ (show vp_in (l3 + (3 : Int32)) sl ∧ RL sl sx 1672 [some (vS), some (vR l1), some (vR l2), some (vI l3)] [vI (sx (l3 + (3 : Int32)).toNatClampNeg), vI (sx (l3 + (2 : Int32)).toNatClampNeg), vI (sx (l3 + (1 : Int32)).toNatClampNeg), vR l1] M from ⟨h.1, ?_⟩)
  replace h := h.2
  obtain ⟨a1, he, h⟩ := h
  subst he
  refine RN_k (callX_det _) 1 _ _ _ _ (show kd M a1 9 ∧ callX TBg sl sx 300 141 [vR (some a1), vI (sx (l3 + (1 : Int32)).toNatClampNeg), vI (sx (l3 + (2 : Int32)).toNatClampNeg), vI (sx (l3 + (3 : Int32)).toNatClampNeg)] M (fun v M9 => RL sl sx 1675 [some (vS), some (vR (some a1)), some (vR l2), some (vI l3)] (pushO v []) M9) from ⟨h.1, ?_⟩)
  replace h := h.2
  refine callX_mono (d := 300) (c141 (d := 294) h) ?_
  clear h
  rintro v9 M2 ⟨r3, rfl, h⟩
  show RL sl sx 1675 [some (vS), some (vR (some a1)), some (vR l2), some (vI l3)] [vI r3] M2
  refine RN_k (callX_det _) 6 _ _ _ _ (show vp_in (l3 + (1 : Int32)) sl ∧ RL sl sx 1681 [some (vS), some (vR (some a1)), some (vR l2), some (vI l3)] [vI (sx (l3 + (1 : Int32)).toNatClampNeg), vR l2, vI r3] M2 from ⟨h.1, ?_⟩)
  replace h := h.2
  refine RN_k (callX_det _) 5 _ _ _ _ (show vp_in (l3 + (2 : Int32)) sl ∧ RL sl sx 1686 [some (vS), some (vR (some a1)), some (vR l2), some (vI l3)] [vI (sx (l3 + (2 : Int32)).toNatClampNeg), vI (sx (l3 + (1 : Int32)).toNatClampNeg), vR l2, vI r3] M2 from ⟨h.1, ?_⟩)
  replace h := h.2
  refine RN_k (callX_det _) 5 _ _ _ _ (show vp_in (l3 + (3 : Int32)) sl ∧ RL sl sx 1691 [some (vS), some (vR (some a1)), some (vR l2), some (vI l3)] [vI (sx (l3 + (3 : Int32)).toNatClampNeg), vI (sx (l3 + (2 : Int32)).toNatClampNeg), vI (sx (l3 + (1 : Int32)).toNatClampNeg), vR l2, vI r3] M2 from ⟨h.1, ?_⟩)
  replace h := h.2
  obtain ⟨a4, he, h⟩ := h
  subst he
  refine RN_k (callX_det _) 1 _ _ _ _ (show kd M2 a4 10 ∧ callX TBg sl sx 300 274 [vR (some a4), vI (sx (l3 + (1 : Int32)).toNatClampNeg), vI (sx (l3 + (2 : Int32)).toNatClampNeg), vI (sx (l3 + (3 : Int32)).toNatClampNeg)] M2 (fun v M9 => RL sl sx 1694 [some (vS), some (vR (some a1)), some (vR (some a4)), some (vI l3)] (pushO v [vI r3]) M9) from ⟨h.1, ?_⟩)
  replace h := h.2
  refine callX_mono (d := 300) (c274 (d := 194) h) ?_
  clear h
  rintro v9 M5 ⟨r6, rfl, h⟩
  show RL sl sx 1694 [some (vS), some (vR (some a1)), some (vR (some a4)), some (vI l3)] [vI r6, vI r3] M5
  refine RN_k (callX_det _) 1 _ _ _ _ (show (r3 = r6 → RL sl sx 1953 [some (vS), some (vR (some a1)), some (vR (some a4)), some (vI l3)] [] M5) ∧ (¬ (r3 = r6) → RL sl sx 1697 [some (vS), some (vR (some a1)), some (vR (some a4)), some (vI l3)] [] M5) from ⟨fun hc => ?_, fun hc => ?_⟩)
  · replace h := h.1 hc
    exact RN_weak (K := [some (vS), some (vR (some a1)), some (vR (some a4)), some (vI l3)]) (callX_det _) (show _ ∧ _ ∧ _ ∧ _ ∧ True from ⟨rfl, rfl, rfl, rfl, trivial⟩) (tL_1953 hk (some a1) (some a4) l3 _ h)
  · replace h := h.2 hc
    exact RN_k (callX_det _) 2 _ _ _ _ (show some (vI (0 : Int32)) = some (vI 1) from by rw [h])
def wL_1613 (sl : Nat) (sx : Nat → Int32) (k18 : Option Nat → Option Nat → Int32 → MM → Prop) (l1 : Option Nat) (l2 : Option Nat) (l3 : Int32) (M : MM) : Prop := vp_in (l3 + (1 : Int32)) sl ∧ (vp_in (l3 + (2 : Int32)) sl ∧ (vp_in (l3 + (3 : Int32)) sl ∧ (∃ a1, l1 = some a1 ∧ (kd M a1 9 ∧ w138 a1 (sx (l3 + (1 : Int32)).toNatClampNeg) (sx (l3 + (2 : Int32)).toNatClampNeg) (sx (l3 + (3 : Int32)).toNatClampNeg) M (fun r3 M2 => vp_in (l3 + (1 : Int32)) sl ∧ (vp_in (l3 + (2 : Int32)) sl ∧ (vp_in (l3 + (3 : Int32)) sl ∧ (∃ a4, l2 = some a4 ∧ (kd M2 a4 10 ∧ w270 a4 (sx (l3 + (1 : Int32)).toNatClampNeg) (sx (l3 + (2 : Int32)).toNatClampNeg) (sx (l3 + (3 : Int32)).toNatClampNeg) M2 (fun r6 M5 => (r3 = r6 → (wL_1953 sl sx k18 (some a1) (some a4) l3 M5)) ∧ (¬ (r3 = r6) → ((0 : Int32) = 1))))))))))))
theorem tL_1613 {sl : Nat} {sx : Nat → Int32} {k18 : Option Nat → Option Nat → Int32 → MM → Prop} (hk : ∀ (l1 l2 : Option Nat) (l3 : Int32) (M : MM), k18 l1 l2 l3 M → RL sl sx 18 [some vS, some (vR l1), some (vR l2), some (vI l3)] [] M) (l1 : Option Nat) (l2 : Option Nat) (l3 : Int32) (M : MM) (h : wL_1613 sl sx k18 l1 l2 l3 M) : RL sl sx 1613 [some (vS), some (vR l1), some (vR l2), some (vI l3)] [] M := by
  refine RN_k (callX_det _) 6 _ _ _ _ (show vp_in (l3 + (1 : Int32)) sl ∧ RL sl sx 1619 [some (vS), some (vR l1), some (vR l2), some (vI l3)] [vI (sx (l3 + (1 : Int32)).toNatClampNeg), vR l1] M from ⟨h.1, ?_⟩)
  replace h := h.2
  refine RN_k (callX_det _) 5 _ _ _ _ (show vp_in (l3 + (2 : Int32)) sl ∧ RL sl sx 1624 [some (vS), some (vR l1), some (vR l2), some (vI l3)] [vI (sx (l3 + (2 : Int32)).toNatClampNeg), vI (sx (l3 + (1 : Int32)).toNatClampNeg), vR l1] M from ⟨h.1, ?_⟩)
  replace h := h.2
  refine RN_k (callX_det _) 5 _ _ _ _ (show vp_in (l3 + (3 : Int32)) sl ∧ RL sl sx 1629 [some (vS), some (vR l1), some (vR l2), some (vI l3)] [vI (sx (l3 + (3 : Int32)).toNatClampNeg), vI (sx (l3 + (2 : Int32)).toNatClampNeg), vI (sx (l3 + (1 : Int32)).toNatClampNeg), vR l1] M from ⟨h.1, ?_⟩)
  replace h := h.2
  obtain ⟨a1, he, h⟩ := h
  subst he
  refine RN_k (callX_det _) 1 _ _ _ _ (show kd M a1 9 ∧ callX TBg sl sx 300 138 [vR (some a1), vI (sx (l3 + (1 : Int32)).toNatClampNeg), vI (sx (l3 + (2 : Int32)).toNatClampNeg), vI (sx (l3 + (3 : Int32)).toNatClampNeg)] M (fun v M9 => RL sl sx 1632 [some (vS), some (vR (some a1)), some (vR l2), some (vI l3)] (pushO v []) M9) from ⟨h.1, ?_⟩)
  replace h := h.2
  refine callX_mono (d := 300) (c138 (d := 293) h) ?_
  clear h
  rintro v9 M2 ⟨r3, rfl, h⟩
  show RL sl sx 1632 [some (vS), some (vR (some a1)), some (vR l2), some (vI l3)] [vI r3] M2
  refine RN_k (callX_det _) 6 _ _ _ _ (show vp_in (l3 + (1 : Int32)) sl ∧ RL sl sx 1638 [some (vS), some (vR (some a1)), some (vR l2), some (vI l3)] [vI (sx (l3 + (1 : Int32)).toNatClampNeg), vR l2, vI r3] M2 from ⟨h.1, ?_⟩)
  replace h := h.2
  refine RN_k (callX_det _) 5 _ _ _ _ (show vp_in (l3 + (2 : Int32)) sl ∧ RL sl sx 1643 [some (vS), some (vR (some a1)), some (vR l2), some (vI l3)] [vI (sx (l3 + (2 : Int32)).toNatClampNeg), vI (sx (l3 + (1 : Int32)).toNatClampNeg), vR l2, vI r3] M2 from ⟨h.1, ?_⟩)
  replace h := h.2
  refine RN_k (callX_det _) 5 _ _ _ _ (show vp_in (l3 + (3 : Int32)) sl ∧ RL sl sx 1648 [some (vS), some (vR (some a1)), some (vR l2), some (vI l3)] [vI (sx (l3 + (3 : Int32)).toNatClampNeg), vI (sx (l3 + (2 : Int32)).toNatClampNeg), vI (sx (l3 + (1 : Int32)).toNatClampNeg), vR l2, vI r3] M2 from ⟨h.1, ?_⟩)
  replace h := h.2
  obtain ⟨a4, he, h⟩ := h
  subst he
  refine RN_k (callX_det _) 1 _ _ _ _ (show kd M2 a4 10 ∧ callX TBg sl sx 300 270 [vR (some a4), vI (sx (l3 + (1 : Int32)).toNatClampNeg), vI (sx (l3 + (2 : Int32)).toNatClampNeg), vI (sx (l3 + (3 : Int32)).toNatClampNeg)] M2 (fun v M9 => RL sl sx 1651 [some (vS), some (vR (some a1)), some (vR (some a4)), some (vI l3)] (pushO v [vI r3]) M9) from ⟨h.1, ?_⟩)
  replace h := h.2
  refine callX_mono (d := 300) (c270 (d := 288) h) ?_
  clear h
  rintro v9 M5 ⟨r6, rfl, h⟩
  show RL sl sx 1651 [some (vS), some (vR (some a1)), some (vR (some a4)), some (vI l3)] [vI r6, vI r3] M5
  refine RN_k (callX_det _) 1 _ _ _ _ (show (r3 = r6 → RL sl sx 1953 [some (vS), some (vR (some a1)), some (vR (some a4)), some (vI l3)] [] M5) ∧ (¬ (r3 = r6) → RL sl sx 1654 [some (vS), some (vR (some a1)), some (vR (some a4)), some (vI l3)] [] M5) from ⟨fun hc => ?_, fun hc => ?_⟩)
  · replace h := h.1 hc
    exact RN_weak (K := [some (vS), some (vR (some a1)), some (vR (some a4)), some (vI l3)]) (callX_det _) (show _ ∧ _ ∧ _ ∧ _ ∧ True from ⟨rfl, rfl, rfl, rfl, trivial⟩) (tL_1953 hk (some a1) (some a4) l3 _ h)
  · replace h := h.2 hc
    exact RN_k (callX_det _) 2 _ _ _ _ (show some (vI (0 : Int32)) = some (vI 1) from by rw [h])
def wL_1600 (sl : Nat) (sx : Nat → Int32) (k18 : Option Nat → Option Nat → Int32 → MM → Prop) (l1 : Option Nat) (l2 : Option Nat) (l3 : Int32) (M : MM) : Prop := ∃ a1, l1 = some a1 ∧ (kd M a1 9 ∧ w136 a1 M (fun r3 M2 => ∃ a4, l2 = some a4 ∧ (kd M2 a4 10 ∧ w269 a4 M2 (fun r6 M5 => (r3 = r6 → (wL_1953 sl sx k18 (some a1) (some a4) l3 M5)) ∧ (¬ (r3 = r6) → ((0 : Int32) = 1))))))
theorem tL_1600 {sl : Nat} {sx : Nat → Int32} {k18 : Option Nat → Option Nat → Int32 → MM → Prop} (hk : ∀ (l1 l2 : Option Nat) (l3 : Int32) (M : MM), k18 l1 l2 l3 M → RL sl sx 18 [some vS, some (vR l1), some (vR l2), some (vI l3)] [] M) (l1 : Option Nat) (l2 : Option Nat) (l3 : Int32) (M : MM) (h : wL_1600 sl sx k18 l1 l2 l3 M) : RL sl sx 1600 [some (vS), some (vR l1), some (vR l2), some (vI l3)] [] M := by
  obtain ⟨a1, he, h⟩ := h
  refine RN_k (callX_det _) 1 _ _ _ _ (show RL sl sx 1601 [some (vS), some (vR l1), some (vR l2), some (vI l3)] [vR l1] M from ?_)
  subst he
  refine RN_k (callX_det _) 1 _ _ _ _ (show kd M a1 9 ∧ callX TBg sl sx 300 136 [vR (some a1)] M (fun v M9 => RL sl sx 1604 [some (vS), some (vR (some a1)), some (vR l2), some (vI l3)] (pushO v []) M9) from ⟨h.1, ?_⟩)
  replace h := h.2
  refine callX_mono (d := 300) (c136 (d := 293) h) ?_
  clear h
  rintro v9 M2 ⟨r3, rfl, h⟩
  show RL sl sx 1604 [some (vS), some (vR (some a1)), some (vR l2), some (vI l3)] [vI r3] M2
  obtain ⟨a4, he, h⟩ := h
  refine RN_k (callX_det _) 1 _ _ _ _ (show RL sl sx 1605 [some (vS), some (vR (some a1)), some (vR l2), some (vI l3)] [vR l2, vI r3] M2 from ?_)
  subst he
  refine RN_k (callX_det _) 1 _ _ _ _ (show kd M2 a4 10 ∧ callX TBg sl sx 300 269 [vR (some a4)] M2 (fun v M9 => RL sl sx 1608 [some (vS), some (vR (some a1)), some (vR (some a4)), some (vI l3)] (pushO v [vI r3]) M9) from ⟨h.1, ?_⟩)
  replace h := h.2
  refine callX_mono (d := 300) (c269 (d := 193) h) ?_
  clear h
  rintro v9 M5 ⟨r6, rfl, h⟩
  show RL sl sx 1608 [some (vS), some (vR (some a1)), some (vR (some a4)), some (vI l3)] [vI r6, vI r3] M5
  refine RN_k (callX_det _) 1 _ _ _ _ (show (r3 = r6 → RL sl sx 1953 [some (vS), some (vR (some a1)), some (vR (some a4)), some (vI l3)] [] M5) ∧ (¬ (r3 = r6) → RL sl sx 1611 [some (vS), some (vR (some a1)), some (vR (some a4)), some (vI l3)] [] M5) from ⟨fun hc => ?_, fun hc => ?_⟩)
  · replace h := h.1 hc
    exact RN_weak (K := [some (vS), some (vR (some a1)), some (vR (some a4)), some (vI l3)]) (callX_det _) (show _ ∧ _ ∧ _ ∧ _ ∧ True from ⟨rfl, rfl, rfl, rfl, trivial⟩) (tL_1953 hk (some a1) (some a4) l3 _ h)
  · replace h := h.2 hc
    exact RN_k (callX_det _) 2 _ _ _ _ (show some (vI (0 : Int32)) = some (vI 1) from by rw [h])
def wL_1577 (sl : Nat) (sx : Nat → Int32) (k18 : Option Nat → Option Nat → Int32 → MM → Prop) (l1 : Option Nat) (l2 : Option Nat) (l3 : Int32) (M : MM) : Prop := vp_in (l3 + (1 : Int32)) sl ∧ (∃ a1, l1 = some a1 ∧ (kd M a1 9 ∧ w135 a1 (sx (l3 + (1 : Int32)).toNatClampNeg) M (fun r3 M2 => vp_in (l3 + (1 : Int32)) sl ∧ (∃ a4, l2 = some a4 ∧ (kd M2 a4 10 ∧ w267 a4 (sx (l3 + (1 : Int32)).toNatClampNeg) M2 (fun r6 M5 => (r3 = r6 → (wL_1953 sl sx k18 (some a1) (some a4) l3 M5)) ∧ (¬ (r3 = r6) → ((0 : Int32) = 1))))))))
theorem tL_1577 {sl : Nat} {sx : Nat → Int32} {k18 : Option Nat → Option Nat → Int32 → MM → Prop} (hk : ∀ (l1 l2 : Option Nat) (l3 : Int32) (M : MM), k18 l1 l2 l3 M → RL sl sx 18 [some vS, some (vR l1), some (vR l2), some (vI l3)] [] M) (l1 : Option Nat) (l2 : Option Nat) (l3 : Int32) (M : MM) (h : wL_1577 sl sx k18 l1 l2 l3 M) : RL sl sx 1577 [some (vS), some (vR l1), some (vR l2), some (vI l3)] [] M := by
  refine RN_k (callX_det _) 6 _ _ _ _ (show vp_in (l3 + (1 : Int32)) sl ∧ RL sl sx 1583 [some (vS), some (vR l1), some (vR l2), some (vI l3)] [vI (sx (l3 + (1 : Int32)).toNatClampNeg), vR l1] M from ⟨h.1, ?_⟩)
  replace h := h.2
  obtain ⟨a1, he, h⟩ := h
  subst he
  refine RN_k (callX_det _) 1 _ _ _ _ (show kd M a1 9 ∧ callX TBg sl sx 300 135 [vR (some a1), vI (sx (l3 + (1 : Int32)).toNatClampNeg)] M (fun v M9 => RL sl sx 1586 [some (vS), some (vR (some a1)), some (vR l2), some (vI l3)] (pushO v []) M9) from ⟨h.1, ?_⟩)
  replace h := h.2
  refine callX_mono (d := 300) (c135 (d := 294) h) ?_
  clear h
  rintro v9 M2 ⟨r3, rfl, h⟩
  show RL sl sx 1586 [some (vS), some (vR (some a1)), some (vR l2), some (vI l3)] [vI r3] M2
  refine RN_k (callX_det _) 6 _ _ _ _ (show vp_in (l3 + (1 : Int32)) sl ∧ RL sl sx 1592 [some (vS), some (vR (some a1)), some (vR l2), some (vI l3)] [vI (sx (l3 + (1 : Int32)).toNatClampNeg), vR l2, vI r3] M2 from ⟨h.1, ?_⟩)
  replace h := h.2
  obtain ⟨a4, he, h⟩ := h
  subst he
  refine RN_k (callX_det _) 1 _ _ _ _ (show kd M2 a4 10 ∧ callX TBg sl sx 300 267 [vR (some a4), vI (sx (l3 + (1 : Int32)).toNatClampNeg)] M2 (fun v M9 => RL sl sx 1595 [some (vS), some (vR (some a1)), some (vR (some a4)), some (vI l3)] (pushO v [vI r3]) M9) from ⟨h.1, ?_⟩)
  replace h := h.2
  refine callX_mono (d := 300) (c267 (d := 193) h) ?_
  clear h
  rintro v9 M5 ⟨r6, rfl, h⟩
  show RL sl sx 1595 [some (vS), some (vR (some a1)), some (vR (some a4)), some (vI l3)] [vI r6, vI r3] M5
  refine RN_k (callX_det _) 1 _ _ _ _ (show (r3 = r6 → RL sl sx 1953 [some (vS), some (vR (some a1)), some (vR (some a4)), some (vI l3)] [] M5) ∧ (¬ (r3 = r6) → RL sl sx 1598 [some (vS), some (vR (some a1)), some (vR (some a4)), some (vI l3)] [] M5) from ⟨fun hc => ?_, fun hc => ?_⟩)
  · replace h := h.1 hc
    exact RN_weak (K := [some (vS), some (vR (some a1)), some (vR (some a4)), some (vI l3)]) (callX_det _) (show _ ∧ _ ∧ _ ∧ _ ∧ True from ⟨rfl, rfl, rfl, rfl, trivial⟩) (tL_1953 hk (some a1) (some a4) l3 _ h)
  · replace h := h.2 hc
    exact RN_k (callX_det _) 2 _ _ _ _ (show some (vI (0 : Int32)) = some (vI 1) from by rw [h])
def wL_1524 (sl : Nat) (sx : Nat → Int32) (k18 : Option Nat → Option Nat → Int32 → MM → Prop) (l1 : Option Nat) (l2 : Option Nat) (l3 : Int32) (M : MM) : Prop := vp_in (l3 + (1 : Int32)) sl ∧ (vp_in (l3 + (2 : Int32)) sl ∧ (vp_in (l3 + (3 : Int32)) sl ∧ (vp_in (l3 + (4 : Int32)) sl ∧ (∃ a1, l1 = some a1 ∧ (kd M a1 9 ∧ w130 a1 (sx (l3 + (1 : Int32)).toNatClampNeg) (sx (l3 + (2 : Int32)).toNatClampNeg) (sx (l3 + (3 : Int32)).toNatClampNeg) (sx (l3 + (4 : Int32)).toNatClampNeg) M (fun r3 M2 => vp_in (l3 + (1 : Int32)) sl ∧ (vp_in (l3 + (2 : Int32)) sl ∧ (vp_in (l3 + (3 : Int32)) sl ∧ (vp_in (l3 + (4 : Int32)) sl ∧ (∃ a4, l2 = some a4 ∧ (kd M2 a4 10 ∧ w264 a4 (sx (l3 + (1 : Int32)).toNatClampNeg) (sx (l3 + (2 : Int32)).toNatClampNeg) (sx (l3 + (3 : Int32)).toNatClampNeg) (sx (l3 + (4 : Int32)).toNatClampNeg) M2 (fun r6 M5 => (r3 = r6 → (wL_1953 sl sx k18 (some a1) (some a4) l3 M5)) ∧ (¬ (r3 = r6) → ((0 : Int32) = 1))))))))))))))
theorem tL_1524 {sl : Nat} {sx : Nat → Int32} {k18 : Option Nat → Option Nat → Int32 → MM → Prop} (hk : ∀ (l1 l2 : Option Nat) (l3 : Int32) (M : MM), k18 l1 l2 l3 M → RL sl sx 18 [some vS, some (vR l1), some (vR l2), some (vI l3)] [] M) (l1 : Option Nat) (l2 : Option Nat) (l3 : Int32) (M : MM) (h : wL_1524 sl sx k18 l1 l2 l3 M) : RL sl sx 1524 [some (vS), some (vR l1), some (vR l2), some (vI l3)] [] M := by
  refine RN_k (callX_det _) 6 _ _ _ _ (show vp_in (l3 + (1 : Int32)) sl ∧ RL sl sx 1530 [some (vS), some (vR l1), some (vR l2), some (vI l3)] [vI (sx (l3 + (1 : Int32)).toNatClampNeg), vR l1] M from ⟨h.1, ?_⟩)
  replace h := h.2
  refine RN_k (callX_det _) 5 _ _ _ _ (show vp_in (l3 + (2 : Int32)) sl ∧ RL sl sx 1535 [some (vS), some (vR l1), some (vR l2), some (vI l3)] [vI (sx (l3 + (2 : Int32)).toNatClampNeg), vI (sx (l3 + (1 : Int32)).toNatClampNeg), vR l1] M from ⟨h.1, ?_⟩)
  replace h := h.2
  refine RN_k (callX_det _) 5 _ _ _ _ (show vp_in (l3 + (3 : Int32)) sl ∧ RL sl sx 1540 [some (vS), some (vR l1), some (vR l2), some (vI l3)] [vI (sx (l3 + (3 : Int32)).toNatClampNeg), vI (sx (l3 + (2 : Int32)).toNatClampNeg), vI (sx (l3 + (1 : Int32)).toNatClampNeg), vR l1] M from ⟨h.1, ?_⟩)
  replace h := h.2
  refine RN_k (callX_det _) 5 _ _ _ _ (show vp_in (l3 + (4 : Int32)) sl ∧ RL sl sx 1545 [some (vS), some (vR l1), some (vR l2), some (vI l3)] [vI (sx (l3 + (4 : Int32)).toNatClampNeg), vI (sx (l3 + (3 : Int32)).toNatClampNeg), vI (sx (l3 + (2 : Int32)).toNatClampNeg), vI (sx (l3 + (1 : Int32)).toNatClampNeg), vR l1] M from ⟨h.1, ?_⟩)
  replace h := h.2
  obtain ⟨a1, he, h⟩ := h
  subst he
  refine RN_k (callX_det _) 1 _ _ _ _ (show kd M a1 9 ∧ callX TBg sl sx 300 130 [vR (some a1), vI (sx (l3 + (1 : Int32)).toNatClampNeg), vI (sx (l3 + (2 : Int32)).toNatClampNeg), vI (sx (l3 + (3 : Int32)).toNatClampNeg), vI (sx (l3 + (4 : Int32)).toNatClampNeg)] M (fun v M9 => RL sl sx 1548 [some (vS), some (vR (some a1)), some (vR l2), some (vI l3)] (pushO v []) M9) from ⟨h.1, ?_⟩)
  replace h := h.2
  refine callX_mono (d := 300) (c130 (d := 293) h) ?_
  clear h
  rintro v9 M2 ⟨r3, rfl, h⟩
  show RL sl sx 1548 [some (vS), some (vR (some a1)), some (vR l2), some (vI l3)] [vI r3] M2
  refine RN_k (callX_det _) 6 _ _ _ _ (show vp_in (l3 + (1 : Int32)) sl ∧ RL sl sx 1554 [some (vS), some (vR (some a1)), some (vR l2), some (vI l3)] [vI (sx (l3 + (1 : Int32)).toNatClampNeg), vR l2, vI r3] M2 from ⟨h.1, ?_⟩)
  replace h := h.2
  refine RN_k (callX_det _) 5 _ _ _ _ (show vp_in (l3 + (2 : Int32)) sl ∧ RL sl sx 1559 [some (vS), some (vR (some a1)), some (vR l2), some (vI l3)] [vI (sx (l3 + (2 : Int32)).toNatClampNeg), vI (sx (l3 + (1 : Int32)).toNatClampNeg), vR l2, vI r3] M2 from ⟨h.1, ?_⟩)
  replace h := h.2
  refine RN_k (callX_det _) 5 _ _ _ _ (show vp_in (l3 + (3 : Int32)) sl ∧ RL sl sx 1564 [some (vS), some (vR (some a1)), some (vR l2), some (vI l3)] [vI (sx (l3 + (3 : Int32)).toNatClampNeg), vI (sx (l3 + (2 : Int32)).toNatClampNeg), vI (sx (l3 + (1 : Int32)).toNatClampNeg), vR l2, vI r3] M2 from ⟨h.1, ?_⟩)
  replace h := h.2
  refine RN_k (callX_det _) 5 _ _ _ _ (show vp_in (l3 + (4 : Int32)) sl ∧ RL sl sx 1569 [some (vS), some (vR (some a1)), some (vR l2), some (vI l3)] [vI (sx (l3 + (4 : Int32)).toNatClampNeg), vI (sx (l3 + (3 : Int32)).toNatClampNeg), vI (sx (l3 + (2 : Int32)).toNatClampNeg), vI (sx (l3 + (1 : Int32)).toNatClampNeg), vR l2, vI r3] M2 from ⟨h.1, ?_⟩)
  replace h := h.2
  obtain ⟨a4, he, h⟩ := h
  subst he
  refine RN_k (callX_det _) 1 _ _ _ _ (show kd M2 a4 10 ∧ callX TBg sl sx 300 264 [vR (some a4), vI (sx (l3 + (1 : Int32)).toNatClampNeg), vI (sx (l3 + (2 : Int32)).toNatClampNeg), vI (sx (l3 + (3 : Int32)).toNatClampNeg), vI (sx (l3 + (4 : Int32)).toNatClampNeg)] M2 (fun v M9 => RL sl sx 1572 [some (vS), some (vR (some a1)), some (vR (some a4)), some (vI l3)] (pushO v [vI r3]) M9) from ⟨h.1, ?_⟩)
  replace h := h.2
  refine callX_mono (d := 300) (c264 (d := 289) h) ?_
  clear h
  rintro v9 M5 ⟨r6, rfl, h⟩
  show RL sl sx 1572 [some (vS), some (vR (some a1)), some (vR (some a4)), some (vI l3)] [vI r6, vI r3] M5
  refine RN_k (callX_det _) 1 _ _ _ _ (show (r3 = r6 → RL sl sx 1953 [some (vS), some (vR (some a1)), some (vR (some a4)), some (vI l3)] [] M5) ∧ (¬ (r3 = r6) → RL sl sx 1575 [some (vS), some (vR (some a1)), some (vR (some a4)), some (vI l3)] [] M5) from ⟨fun hc => ?_, fun hc => ?_⟩)
  · replace h := h.1 hc
    exact RN_weak (K := [some (vS), some (vR (some a1)), some (vR (some a4)), some (vI l3)]) (callX_det _) (show _ ∧ _ ∧ _ ∧ _ ∧ True from ⟨rfl, rfl, rfl, rfl, trivial⟩) (tL_1953 hk (some a1) (some a4) l3 _ h)
  · replace h := h.2 hc
    exact RN_k (callX_det _) 2 _ _ _ _ (show some (vI (0 : Int32)) = some (vI 1) from by rw [h])
def wL_1491 (sl : Nat) (sx : Nat → Int32) (k18 : Option Nat → Option Nat → Int32 → MM → Prop) (l1 : Option Nat) (l2 : Option Nat) (l3 : Int32) (M : MM) : Prop := vp_in (l3 + (1 : Int32)) sl ∧ (vp_in (l3 + (2 : Int32)) sl ∧ (∃ a1, l1 = some a1 ∧ (kd M a1 9 ∧ w127 a1 (sx (l3 + (1 : Int32)).toNatClampNeg) (sx (l3 + (2 : Int32)).toNatClampNeg) M (fun r3 M2 => vp_in (l3 + (1 : Int32)) sl ∧ (vp_in (l3 + (2 : Int32)) sl ∧ (∃ a4, l2 = some a4 ∧ (kd M2 a4 10 ∧ w263 a4 (sx (l3 + (1 : Int32)).toNatClampNeg) (sx (l3 + (2 : Int32)).toNatClampNeg) M2 (fun r6 M5 => (r3 = r6 → (wL_1953 sl sx k18 (some a1) (some a4) l3 M5)) ∧ (¬ (r3 = r6) → ((0 : Int32) = 1))))))))))
theorem tL_1491 {sl : Nat} {sx : Nat → Int32} {k18 : Option Nat → Option Nat → Int32 → MM → Prop} (hk : ∀ (l1 l2 : Option Nat) (l3 : Int32) (M : MM), k18 l1 l2 l3 M → RL sl sx 18 [some vS, some (vR l1), some (vR l2), some (vI l3)] [] M) (l1 : Option Nat) (l2 : Option Nat) (l3 : Int32) (M : MM) (h : wL_1491 sl sx k18 l1 l2 l3 M) : RL sl sx 1491 [some (vS), some (vR l1), some (vR l2), some (vI l3)] [] M := by
  refine RN_k (callX_det _) 6 _ _ _ _ (show vp_in (l3 + (1 : Int32)) sl ∧ RL sl sx 1497 [some (vS), some (vR l1), some (vR l2), some (vI l3)] [vI (sx (l3 + (1 : Int32)).toNatClampNeg), vR l1] M from ⟨h.1, ?_⟩)
  replace h := h.2
  refine RN_k (callX_det _) 5 _ _ _ _ (show vp_in (l3 + (2 : Int32)) sl ∧ RL sl sx 1502 [some (vS), some (vR l1), some (vR l2), some (vI l3)] [vI (sx (l3 + (2 : Int32)).toNatClampNeg), vI (sx (l3 + (1 : Int32)).toNatClampNeg), vR l1] M from ⟨h.1, ?_⟩)
  replace h := h.2
  obtain ⟨a1, he, h⟩ := h
  subst he
  refine RN_k (callX_det _) 1 _ _ _ _ (show kd M a1 9 ∧ callX TBg sl sx 300 127 [vR (some a1), vI (sx (l3 + (1 : Int32)).toNatClampNeg), vI (sx (l3 + (2 : Int32)).toNatClampNeg)] M (fun v M9 => RL sl sx 1505 [some (vS), some (vR (some a1)), some (vR l2), some (vI l3)] (pushO v []) M9) from ⟨h.1, ?_⟩)
  replace h := h.2
  refine callX_mono (d := 300) (c127 (d := 294) h) ?_
  clear h
  rintro v9 M2 ⟨r3, rfl, h⟩
  show RL sl sx 1505 [some (vS), some (vR (some a1)), some (vR l2), some (vI l3)] [vI r3] M2
  refine RN_k (callX_det _) 6 _ _ _ _ (show vp_in (l3 + (1 : Int32)) sl ∧ RL sl sx 1511 [some (vS), some (vR (some a1)), some (vR l2), some (vI l3)] [vI (sx (l3 + (1 : Int32)).toNatClampNeg), vR l2, vI r3] M2 from ⟨h.1, ?_⟩)
  replace h := h.2
  refine RN_k (callX_det _) 5 _ _ _ _ (show vp_in (l3 + (2 : Int32)) sl ∧ RL sl sx 1516 [some (vS), some (vR (some a1)), some (vR l2), some (vI l3)] [vI (sx (l3 + (2 : Int32)).toNatClampNeg), vI (sx (l3 + (1 : Int32)).toNatClampNeg), vR l2, vI r3] M2 from ⟨h.1, ?_⟩)
  replace h := h.2
  obtain ⟨a4, he, h⟩ := h
  subst he
  refine RN_k (callX_det _) 1 _ _ _ _ (show kd M2 a4 10 ∧ callX TBg sl sx 300 263 [vR (some a4), vI (sx (l3 + (1 : Int32)).toNatClampNeg), vI (sx (l3 + (2 : Int32)).toNatClampNeg)] M2 (fun v M9 => RL sl sx 1519 [some (vS), some (vR (some a1)), some (vR (some a4)), some (vI l3)] (pushO v [vI r3]) M9) from ⟨h.1, ?_⟩)
  replace h := h.2
  refine callX_mono (d := 300) (c263 (d := 194) h) ?_
  clear h
  rintro v9 M5 ⟨r6, rfl, h⟩
  show RL sl sx 1519 [some (vS), some (vR (some a1)), some (vR (some a4)), some (vI l3)] [vI r6, vI r3] M5
  refine RN_k (callX_det _) 1 _ _ _ _ (show (r3 = r6 → RL sl sx 1953 [some (vS), some (vR (some a1)), some (vR (some a4)), some (vI l3)] [] M5) ∧ (¬ (r3 = r6) → RL sl sx 1522 [some (vS), some (vR (some a1)), some (vR (some a4)), some (vI l3)] [] M5) from ⟨fun hc => ?_, fun hc => ?_⟩)
  · replace h := h.1 hc
    exact RN_weak (K := [some (vS), some (vR (some a1)), some (vR (some a4)), some (vI l3)]) (callX_det _) (show _ ∧ _ ∧ _ ∧ _ ∧ True from ⟨rfl, rfl, rfl, rfl, trivial⟩) (tL_1953 hk (some a1) (some a4) l3 _ h)
  · replace h := h.2 hc
    exact RN_k (callX_det _) 2 _ _ _ _ (show some (vI (0 : Int32)) = some (vI 1) from by rw [h])
def wL_1458 (sl : Nat) (sx : Nat → Int32) (k18 : Option Nat → Option Nat → Int32 → MM → Prop) (l1 : Option Nat) (l2 : Option Nat) (l3 : Int32) (M : MM) : Prop := vp_in (l3 + (1 : Int32)) sl ∧ (vp_in (l3 + (2 : Int32)) sl ∧ (∃ a1, l1 = some a1 ∧ (kd M a1 9 ∧ w126 a1 (sx (l3 + (1 : Int32)).toNatClampNeg) (sx (l3 + (2 : Int32)).toNatClampNeg) M (fun r3 M2 => vp_in (l3 + (1 : Int32)) sl ∧ (vp_in (l3 + (2 : Int32)) sl ∧ (∃ a4, l2 = some a4 ∧ (kd M2 a4 10 ∧ w262 a4 (sx (l3 + (1 : Int32)).toNatClampNeg) (sx (l3 + (2 : Int32)).toNatClampNeg) M2 (fun r6 M5 => (r3 = r6 → (wL_1953 sl sx k18 (some a1) (some a4) l3 M5)) ∧ (¬ (r3 = r6) → ((0 : Int32) = 1))))))))))
theorem tL_1458 {sl : Nat} {sx : Nat → Int32} {k18 : Option Nat → Option Nat → Int32 → MM → Prop} (hk : ∀ (l1 l2 : Option Nat) (l3 : Int32) (M : MM), k18 l1 l2 l3 M → RL sl sx 18 [some vS, some (vR l1), some (vR l2), some (vI l3)] [] M) (l1 : Option Nat) (l2 : Option Nat) (l3 : Int32) (M : MM) (h : wL_1458 sl sx k18 l1 l2 l3 M) : RL sl sx 1458 [some (vS), some (vR l1), some (vR l2), some (vI l3)] [] M := by
  refine RN_k (callX_det _) 6 _ _ _ _ (show vp_in (l3 + (1 : Int32)) sl ∧ RL sl sx 1464 [some (vS), some (vR l1), some (vR l2), some (vI l3)] [vI (sx (l3 + (1 : Int32)).toNatClampNeg), vR l1] M from ⟨h.1, ?_⟩)
  replace h := h.2
  refine RN_k (callX_det _) 5 _ _ _ _ (show vp_in (l3 + (2 : Int32)) sl ∧ RL sl sx 1469 [some (vS), some (vR l1), some (vR l2), some (vI l3)] [vI (sx (l3 + (2 : Int32)).toNatClampNeg), vI (sx (l3 + (1 : Int32)).toNatClampNeg), vR l1] M from ⟨h.1, ?_⟩)
  replace h := h.2
  obtain ⟨a1, he, h⟩ := h
  subst he
  refine RN_k (callX_det _) 1 _ _ _ _ (show kd M a1 9 ∧ callX TBg sl sx 300 126 [vR (some a1), vI (sx (l3 + (1 : Int32)).toNatClampNeg), vI (sx (l3 + (2 : Int32)).toNatClampNeg)] M (fun v M9 => RL sl sx 1472 [some (vS), some (vR (some a1)), some (vR l2), some (vI l3)] (pushO v []) M9) from ⟨h.1, ?_⟩)
  replace h := h.2
  refine callX_mono (d := 300) (c126 (d := 293) h) ?_
  clear h
  rintro v9 M2 ⟨r3, rfl, h⟩
  show RL sl sx 1472 [some (vS), some (vR (some a1)), some (vR l2), some (vI l3)] [vI r3] M2
  refine RN_k (callX_det _) 6 _ _ _ _ (show vp_in (l3 + (1 : Int32)) sl ∧ RL sl sx 1478 [some (vS), some (vR (some a1)), some (vR l2), some (vI l3)] [vI (sx (l3 + (1 : Int32)).toNatClampNeg), vR l2, vI r3] M2 from ⟨h.1, ?_⟩)
  replace h := h.2
  refine RN_k (callX_det _) 5 _ _ _ _ (show vp_in (l3 + (2 : Int32)) sl ∧ RL sl sx 1483 [some (vS), some (vR (some a1)), some (vR l2), some (vI l3)] [vI (sx (l3 + (2 : Int32)).toNatClampNeg), vI (sx (l3 + (1 : Int32)).toNatClampNeg), vR l2, vI r3] M2 from ⟨h.1, ?_⟩)
  replace h := h.2
  obtain ⟨a4, he, h⟩ := h
  subst he
  refine RN_k (callX_det _) 1 _ _ _ _ (show kd M2 a4 10 ∧ callX TBg sl sx 300 262 [vR (some a4), vI (sx (l3 + (1 : Int32)).toNatClampNeg), vI (sx (l3 + (2 : Int32)).toNatClampNeg)] M2 (fun v M9 => RL sl sx 1486 [some (vS), some (vR (some a1)), some (vR (some a4)), some (vI l3)] (pushO v [vI r3]) M9) from ⟨h.1, ?_⟩)
  replace h := h.2
  refine callX_mono (d := 300) (c262 (d := 193) h) ?_
  clear h
  rintro v9 M5 ⟨r6, rfl, h⟩
  show RL sl sx 1486 [some (vS), some (vR (some a1)), some (vR (some a4)), some (vI l3)] [vI r6, vI r3] M5
  refine RN_k (callX_det _) 1 _ _ _ _ (show (r3 = r6 → RL sl sx 1953 [some (vS), some (vR (some a1)), some (vR (some a4)), some (vI l3)] [] M5) ∧ (¬ (r3 = r6) → RL sl sx 1489 [some (vS), some (vR (some a1)), some (vR (some a4)), some (vI l3)] [] M5) from ⟨fun hc => ?_, fun hc => ?_⟩)
  · replace h := h.1 hc
    exact RN_weak (K := [some (vS), some (vR (some a1)), some (vR (some a4)), some (vI l3)]) (callX_det _) (show _ ∧ _ ∧ _ ∧ _ ∧ True from ⟨rfl, rfl, rfl, rfl, trivial⟩) (tL_1953 hk (some a1) (some a4) l3 _ h)
  · replace h := h.2 hc
    exact RN_k (callX_det _) 2 _ _ _ _ (show some (vI (0 : Int32)) = some (vI 1) from by rw [h])
def wL_1415 (sl : Nat) (sx : Nat → Int32) (k18 : Option Nat → Option Nat → Int32 → MM → Prop) (l1 : Option Nat) (l2 : Option Nat) (l3 : Int32) (M : MM) : Prop := vp_in (l3 + (1 : Int32)) sl ∧ (vp_in (l3 + (2 : Int32)) sl ∧ (vp_in (l3 + (3 : Int32)) sl ∧ (∃ a1, l1 = some a1 ∧ (kd M a1 9 ∧ w124 a1 (sx (l3 + (1 : Int32)).toNatClampNeg) (sx (l3 + (2 : Int32)).toNatClampNeg) (sx (l3 + (3 : Int32)).toNatClampNeg) M (fun r3 M2 => vp_in (l3 + (1 : Int32)) sl ∧ (vp_in (l3 + (2 : Int32)) sl ∧ (vp_in (l3 + (3 : Int32)) sl ∧ (∃ a4, l2 = some a4 ∧ (kd M2 a4 10 ∧ w260 a4 (sx (l3 + (1 : Int32)).toNatClampNeg) (sx (l3 + (2 : Int32)).toNatClampNeg) (sx (l3 + (3 : Int32)).toNatClampNeg) M2 (fun r6 M5 => (r3 = r6 → (wL_1953 sl sx k18 (some a1) (some a4) l3 M5)) ∧ (¬ (r3 = r6) → ((0 : Int32) = 1))))))))))))
theorem tL_1415 {sl : Nat} {sx : Nat → Int32} {k18 : Option Nat → Option Nat → Int32 → MM → Prop} (hk : ∀ (l1 l2 : Option Nat) (l3 : Int32) (M : MM), k18 l1 l2 l3 M → RL sl sx 18 [some vS, some (vR l1), some (vR l2), some (vI l3)] [] M) (l1 : Option Nat) (l2 : Option Nat) (l3 : Int32) (M : MM) (h : wL_1415 sl sx k18 l1 l2 l3 M) : RL sl sx 1415 [some (vS), some (vR l1), some (vR l2), some (vI l3)] [] M := by
  refine RN_k (callX_det _) 6 _ _ _ _ (show vp_in (l3 + (1 : Int32)) sl ∧ RL sl sx 1421 [some (vS), some (vR l1), some (vR l2), some (vI l3)] [vI (sx (l3 + (1 : Int32)).toNatClampNeg), vR l1] M from ⟨h.1, ?_⟩)
  replace h := h.2
  refine RN_k (callX_det _) 5 _ _ _ _ (show vp_in (l3 + (2 : Int32)) sl ∧ RL sl sx 1426 [some (vS), some (vR l1), some (vR l2), some (vI l3)] [vI (sx (l3 + (2 : Int32)).toNatClampNeg), vI (sx (l3 + (1 : Int32)).toNatClampNeg), vR l1] M from ⟨h.1, ?_⟩)
  replace h := h.2
  refine RN_k (callX_det _) 5 _ _ _ _ (show vp_in (l3 + (3 : Int32)) sl ∧ RL sl sx 1431 [some (vS), some (vR l1), some (vR l2), some (vI l3)] [vI (sx (l3 + (3 : Int32)).toNatClampNeg), vI (sx (l3 + (2 : Int32)).toNatClampNeg), vI (sx (l3 + (1 : Int32)).toNatClampNeg), vR l1] M from ⟨h.1, ?_⟩)
  replace h := h.2
  obtain ⟨a1, he, h⟩ := h
  subst he
  refine RN_k (callX_det _) 1 _ _ _ _ (show kd M a1 9 ∧ callX TBg sl sx 300 124 [vR (some a1), vI (sx (l3 + (1 : Int32)).toNatClampNeg), vI (sx (l3 + (2 : Int32)).toNatClampNeg), vI (sx (l3 + (3 : Int32)).toNatClampNeg)] M (fun v M9 => RL sl sx 1434 [some (vS), some (vR (some a1)), some (vR l2), some (vI l3)] (pushO v []) M9) from ⟨h.1, ?_⟩)
  replace h := h.2
  refine callX_mono (d := 300) (c124 (d := 293) h) ?_
  clear h
  rintro v9 M2 ⟨r3, rfl, h⟩
  show RL sl sx 1434 [some (vS), some (vR (some a1)), some (vR l2), some (vI l3)] [vI r3] M2
  refine RN_k (callX_det _) 6 _ _ _ _ (show vp_in (l3 + (1 : Int32)) sl ∧ RL sl sx 1440 [some (vS), some (vR (some a1)), some (vR l2), some (vI l3)] [vI (sx (l3 + (1 : Int32)).toNatClampNeg), vR l2, vI r3] M2 from ⟨h.1, ?_⟩)
  replace h := h.2
  refine RN_k (callX_det _) 5 _ _ _ _ (show vp_in (l3 + (2 : Int32)) sl ∧ RL sl sx 1445 [some (vS), some (vR (some a1)), some (vR l2), some (vI l3)] [vI (sx (l3 + (2 : Int32)).toNatClampNeg), vI (sx (l3 + (1 : Int32)).toNatClampNeg), vR l2, vI r3] M2 from ⟨h.1, ?_⟩)
  replace h := h.2
  refine RN_k (callX_det _) 5 _ _ _ _ (show vp_in (l3 + (3 : Int32)) sl ∧ RL sl sx 1450 [some (vS), some (vR (some a1)), some (vR l2), some (vI l3)] [vI (sx (l3 + (3 : Int32)).toNatClampNeg), vI (sx (l3 + (2 : Int32)).toNatClampNeg), vI (sx (l3 + (1 : Int32)).toNatClampNeg), vR l2, vI r3] M2 from ⟨h.1, ?_⟩)
  replace h := h.2
  obtain ⟨a4, he, h⟩ := h
  subst he
  refine RN_k (callX_det _) 1 _ _ _ _ (show kd M2 a4 10 ∧ callX TBg sl sx 300 260 [vR (some a4), vI (sx (l3 + (1 : Int32)).toNatClampNeg), vI (sx (l3 + (2 : Int32)).toNatClampNeg), vI (sx (l3 + (3 : Int32)).toNatClampNeg)] M2 (fun v M9 => RL sl sx 1453 [some (vS), some (vR (some a1)), some (vR (some a4)), some (vI l3)] (pushO v [vI r3]) M9) from ⟨h.1, ?_⟩)
  replace h := h.2
  refine callX_mono (d := 300) (c260 (d := 193) h) ?_
  clear h
  rintro v9 M5 ⟨r6, rfl, h⟩
  show RL sl sx 1453 [some (vS), some (vR (some a1)), some (vR (some a4)), some (vI l3)] [vI r6, vI r3] M5
  refine RN_k (callX_det _) 1 _ _ _ _ (show (r3 = r6 → RL sl sx 1953 [some (vS), some (vR (some a1)), some (vR (some a4)), some (vI l3)] [] M5) ∧ (¬ (r3 = r6) → RL sl sx 1456 [some (vS), some (vR (some a1)), some (vR (some a4)), some (vI l3)] [] M5) from ⟨fun hc => ?_, fun hc => ?_⟩)
  · replace h := h.1 hc
    exact RN_weak (K := [some (vS), some (vR (some a1)), some (vR (some a4)), some (vI l3)]) (callX_det _) (show _ ∧ _ ∧ _ ∧ _ ∧ True from ⟨rfl, rfl, rfl, rfl, trivial⟩) (tL_1953 hk (some a1) (some a4) l3 _ h)
  · replace h := h.2 hc
    exact RN_k (callX_det _) 2 _ _ _ _ (show some (vI (0 : Int32)) = some (vI 1) from by rw [h])
def wL_1352 (sl : Nat) (sx : Nat → Int32) (k18 : Option Nat → Option Nat → Int32 → MM → Prop) (l1 : Option Nat) (l2 : Option Nat) (l3 : Int32) (M : MM) : Prop := vp_in (l3 + (1 : Int32)) sl ∧ (vp_in (l3 + (2 : Int32)) sl ∧ (vp_in (l3 + (3 : Int32)) sl ∧ (vp_in (l3 + (4 : Int32)) sl ∧ (vp_in (l3 + (5 : Int32)) sl ∧ (∃ a1, l1 = some a1 ∧ (kd M a1 9 ∧ w123 a1 (sx (l3 + (1 : Int32)).toNatClampNeg) (sx (l3 + (2 : Int32)).toNatClampNeg) (sx (l3 + (3 : Int32)).toNatClampNeg) (sx (l3 + (4 : Int32)).toNatClampNeg) (sx (l3 + (5 : Int32)).toNatClampNeg) M (fun r3 M2 => vp_in (l3 + (1 : Int32)) sl ∧ (vp_in (l3 + (2 : Int32)) sl ∧ (vp_in (l3 + (3 : Int32)) sl ∧ (vp_in (l3 + (4 : Int32)) sl ∧ (vp_in (l3 + (5 : Int32)) sl ∧ (∃ a4, l2 = some a4 ∧ (kd M2 a4 10 ∧ w259 a4 (sx (l3 + (1 : Int32)).toNatClampNeg) (sx (l3 + (2 : Int32)).toNatClampNeg) (sx (l3 + (3 : Int32)).toNatClampNeg) (sx (l3 + (4 : Int32)).toNatClampNeg) (sx (l3 + (5 : Int32)).toNatClampNeg) M2 (fun r6 M5 => (r3 = r6 → (wL_1953 sl sx k18 (some a1) (some a4) l3 M5)) ∧ (¬ (r3 = r6) → ((0 : Int32) = 1))))))))))))))))
theorem tL_1352 {sl : Nat} {sx : Nat → Int32} {k18 : Option Nat → Option Nat → Int32 → MM → Prop} (hk : ∀ (l1 l2 : Option Nat) (l3 : Int32) (M : MM), k18 l1 l2 l3 M → RL sl sx 18 [some vS, some (vR l1), some (vR l2), some (vI l3)] [] M) (l1 : Option Nat) (l2 : Option Nat) (l3 : Int32) (M : MM) (h : wL_1352 sl sx k18 l1 l2 l3 M) : RL sl sx 1352 [some (vS), some (vR l1), some (vR l2), some (vI l3)] [] M := by
  refine RN_k (callX_det _) 6 _ _ _ _ (show vp_in (l3 + (1 : Int32)) sl ∧ RL sl sx 1358 [some (vS), some (vR l1), some (vR l2), some (vI l3)] [vI (sx (l3 + (1 : Int32)).toNatClampNeg), vR l1] M from ⟨h.1, ?_⟩)
  replace h := h.2
  refine RN_k (callX_det _) 5 _ _ _ _ (show vp_in (l3 + (2 : Int32)) sl ∧ RL sl sx 1363 [some (vS), some (vR l1), some (vR l2), some (vI l3)] [vI (sx (l3 + (2 : Int32)).toNatClampNeg), vI (sx (l3 + (1 : Int32)).toNatClampNeg), vR l1] M from ⟨h.1, ?_⟩)
  replace h := h.2
  refine RN_k (callX_det _) 5 _ _ _ _ (show vp_in (l3 + (3 : Int32)) sl ∧ RL sl sx 1368 [some (vS), some (vR l1), some (vR l2), some (vI l3)] [vI (sx (l3 + (3 : Int32)).toNatClampNeg), vI (sx (l3 + (2 : Int32)).toNatClampNeg), vI (sx (l3 + (1 : Int32)).toNatClampNeg), vR l1] M from ⟨h.1, ?_⟩)
  replace h := h.2
  refine RN_k (callX_det _) 5 _ _ _ _ (show vp_in (l3 + (4 : Int32)) sl ∧ RL sl sx 1373 [some (vS), some (vR l1), some (vR l2), some (vI l3)] [vI (sx (l3 + (4 : Int32)).toNatClampNeg), vI (sx (l3 + (3 : Int32)).toNatClampNeg), vI (sx (l3 + (2 : Int32)).toNatClampNeg), vI (sx (l3 + (1 : Int32)).toNatClampNeg), vR l1] M from ⟨h.1, ?_⟩)
  replace h := h.2
  refine RN_k (callX_det _) 5 _ _ _ _ (show vp_in (l3 + (5 : Int32)) sl ∧ RL sl sx 1378 [some (vS), some (vR l1), some (vR l2), some (vI l3)] [vI (sx (l3 + (5 : Int32)).toNatClampNeg), vI (sx (l3 + (4 : Int32)).toNatClampNeg), vI (sx (l3 + (3 : Int32)).toNatClampNeg), vI (sx (l3 + (2 : Int32)).toNatClampNeg), vI (sx (l3 + (1 : Int32)).toNatClampNeg), vR l1] M from ⟨h.1, ?_⟩)
  replace h := h.2
  obtain ⟨a1, he, h⟩ := h
  subst he
  refine RN_k (callX_det _) 1 _ _ _ _ (show kd M a1 9 ∧ callX TBg sl sx 300 123 [vR (some a1), vI (sx (l3 + (1 : Int32)).toNatClampNeg), vI (sx (l3 + (2 : Int32)).toNatClampNeg), vI (sx (l3 + (3 : Int32)).toNatClampNeg), vI (sx (l3 + (4 : Int32)).toNatClampNeg), vI (sx (l3 + (5 : Int32)).toNatClampNeg)] M (fun v M9 => RL sl sx 1381 [some (vS), some (vR (some a1)), some (vR l2), some (vI l3)] (pushO v []) M9) from ⟨h.1, ?_⟩)
  replace h := h.2
  refine callX_mono (d := 300) (c123 (d := 294) h) ?_
  clear h
  rintro v9 M2 ⟨r3, rfl, h⟩
  show RL sl sx 1381 [some (vS), some (vR (some a1)), some (vR l2), some (vI l3)] [vI r3] M2
  refine RN_k (callX_det _) 6 _ _ _ _ (show vp_in (l3 + (1 : Int32)) sl ∧ RL sl sx 1387 [some (vS), some (vR (some a1)), some (vR l2), some (vI l3)] [vI (sx (l3 + (1 : Int32)).toNatClampNeg), vR l2, vI r3] M2 from ⟨h.1, ?_⟩)
  replace h := h.2
  refine RN_k (callX_det _) 5 _ _ _ _ (show vp_in (l3 + (2 : Int32)) sl ∧ RL sl sx 1392 [some (vS), some (vR (some a1)), some (vR l2), some (vI l3)] [vI (sx (l3 + (2 : Int32)).toNatClampNeg), vI (sx (l3 + (1 : Int32)).toNatClampNeg), vR l2, vI r3] M2 from ⟨h.1, ?_⟩)
  replace h := h.2
  refine RN_k (callX_det _) 5 _ _ _ _ (show vp_in (l3 + (3 : Int32)) sl ∧ RL sl sx 1397 [some (vS), some (vR (some a1)), some (vR l2), some (vI l3)] [vI (sx (l3 + (3 : Int32)).toNatClampNeg), vI (sx (l3 + (2 : Int32)).toNatClampNeg), vI (sx (l3 + (1 : Int32)).toNatClampNeg), vR l2, vI r3] M2 from ⟨h.1, ?_⟩)
  replace h := h.2
  refine RN_k (callX_det _) 5 _ _ _ _ (show vp_in (l3 + (4 : Int32)) sl ∧ RL sl sx 1402 [some (vS), some (vR (some a1)), some (vR l2), some (vI l3)] [vI (sx (l3 + (4 : Int32)).toNatClampNeg), vI (sx (l3 + (3 : Int32)).toNatClampNeg), vI (sx (l3 + (2 : Int32)).toNatClampNeg), vI (sx (l3 + (1 : Int32)).toNatClampNeg), vR l2, vI r3] M2 from ⟨h.1, ?_⟩)
  replace h := h.2
  refine RN_k (callX_det _) 5 _ _ _ _ (show vp_in (l3 + (5 : Int32)) sl ∧ RL sl sx 1407 [some (vS), some (vR (some a1)), some (vR l2), some (vI l3)] [vI (sx (l3 + (5 : Int32)).toNatClampNeg), vI (sx (l3 + (4 : Int32)).toNatClampNeg), vI (sx (l3 + (3 : Int32)).toNatClampNeg), vI (sx (l3 + (2 : Int32)).toNatClampNeg), vI (sx (l3 + (1 : Int32)).toNatClampNeg), vR l2, vI r3] M2 from ⟨h.1, ?_⟩)
  replace h := h.2
  obtain ⟨a4, he, h⟩ := h
  subst he
  refine RN_k (callX_det _) 1 _ _ _ _ (show kd M2 a4 10 ∧ callX TBg sl sx 300 259 [vR (some a4), vI (sx (l3 + (1 : Int32)).toNatClampNeg), vI (sx (l3 + (2 : Int32)).toNatClampNeg), vI (sx (l3 + (3 : Int32)).toNatClampNeg), vI (sx (l3 + (4 : Int32)).toNatClampNeg), vI (sx (l3 + (5 : Int32)).toNatClampNeg)] M2 (fun v M9 => RL sl sx 1410 [some (vS), some (vR (some a1)), some (vR (some a4)), some (vI l3)] (pushO v [vI r3]) M9) from ⟨h.1, ?_⟩)
  replace h := h.2
  refine callX_mono (d := 300) (c259 (d := 291) h) ?_
  clear h
  rintro v9 M5 ⟨r6, rfl, h⟩
  show RL sl sx 1410 [some (vS), some (vR (some a1)), some (vR (some a4)), some (vI l3)] [vI r6, vI r3] M5
  refine RN_k (callX_det _) 1 _ _ _ _ (show (r3 = r6 → RL sl sx 1953 [some (vS), some (vR (some a1)), some (vR (some a4)), some (vI l3)] [] M5) ∧ (¬ (r3 = r6) → RL sl sx 1413 [some (vS), some (vR (some a1)), some (vR (some a4)), some (vI l3)] [] M5) from ⟨fun hc => ?_, fun hc => ?_⟩)
  · replace h := h.1 hc
    exact RN_weak (K := [some (vS), some (vR (some a1)), some (vR (some a4)), some (vI l3)]) (callX_det _) (show _ ∧ _ ∧ _ ∧ _ ∧ True from ⟨rfl, rfl, rfl, rfl, trivial⟩) (tL_1953 hk (some a1) (some a4) l3 _ h)
  · replace h := h.2 hc
    exact RN_k (callX_det _) 2 _ _ _ _ (show some (vI (0 : Int32)) = some (vI 1) from by rw [h])
def wL_1309 (sl : Nat) (sx : Nat → Int32) (k18 : Option Nat → Option Nat → Int32 → MM → Prop) (l1 : Option Nat) (l2 : Option Nat) (l3 : Int32) (M : MM) : Prop := vp_in (l3 + (1 : Int32)) sl ∧ (vp_in (l3 + (2 : Int32)) sl ∧ (vp_in (l3 + (3 : Int32)) sl ∧ (∃ a1, l1 = some a1 ∧ (kd M a1 9 ∧ w120 a1 (sx (l3 + (1 : Int32)).toNatClampNeg) (sx (l3 + (2 : Int32)).toNatClampNeg) (sx (l3 + (3 : Int32)).toNatClampNeg) M (fun r3 M2 => vp_in (l3 + (1 : Int32)) sl ∧ (vp_in (l3 + (2 : Int32)) sl ∧ (vp_in (l3 + (3 : Int32)) sl ∧ (∃ a4, l2 = some a4 ∧ (kd M2 a4 10 ∧ w257 a4 (sx (l3 + (1 : Int32)).toNatClampNeg) (sx (l3 + (2 : Int32)).toNatClampNeg) (sx (l3 + (3 : Int32)).toNatClampNeg) M2 (fun r6 M5 => (r3 = r6 → (wL_1953 sl sx k18 (some a1) (some a4) l3 M5)) ∧ (¬ (r3 = r6) → ((0 : Int32) = 1))))))))))))
theorem tL_1309 {sl : Nat} {sx : Nat → Int32} {k18 : Option Nat → Option Nat → Int32 → MM → Prop} (hk : ∀ (l1 l2 : Option Nat) (l3 : Int32) (M : MM), k18 l1 l2 l3 M → RL sl sx 18 [some vS, some (vR l1), some (vR l2), some (vI l3)] [] M) (l1 : Option Nat) (l2 : Option Nat) (l3 : Int32) (M : MM) (h : wL_1309 sl sx k18 l1 l2 l3 M) : RL sl sx 1309 [some (vS), some (vR l1), some (vR l2), some (vI l3)] [] M := by
  refine RN_k (callX_det _) 6 _ _ _ _ (show vp_in (l3 + (1 : Int32)) sl ∧ RL sl sx 1315 [some (vS), some (vR l1), some (vR l2), some (vI l3)] [vI (sx (l3 + (1 : Int32)).toNatClampNeg), vR l1] M from ⟨h.1, ?_⟩)
  replace h := h.2
  refine RN_k (callX_det _) 5 _ _ _ _ (show vp_in (l3 + (2 : Int32)) sl ∧ RL sl sx 1320 [some (vS), some (vR l1), some (vR l2), some (vI l3)] [vI (sx (l3 + (2 : Int32)).toNatClampNeg), vI (sx (l3 + (1 : Int32)).toNatClampNeg), vR l1] M from ⟨h.1, ?_⟩)
  replace h := h.2
  refine RN_k (callX_det _) 5 _ _ _ _ (show vp_in (l3 + (3 : Int32)) sl ∧ RL sl sx 1325 [some (vS), some (vR l1), some (vR l2), some (vI l3)] [vI (sx (l3 + (3 : Int32)).toNatClampNeg), vI (sx (l3 + (2 : Int32)).toNatClampNeg), vI (sx (l3 + (1 : Int32)).toNatClampNeg), vR l1] M from ⟨h.1, ?_⟩)
  replace h := h.2
  obtain ⟨a1, he, h⟩ := h
  subst he
  refine RN_k (callX_det _) 1 _ _ _ _ (show kd M a1 9 ∧ callX TBg sl sx 300 120 [vR (some a1), vI (sx (l3 + (1 : Int32)).toNatClampNeg), vI (sx (l3 + (2 : Int32)).toNatClampNeg), vI (sx (l3 + (3 : Int32)).toNatClampNeg)] M (fun v M9 => RL sl sx 1328 [some (vS), some (vR (some a1)), some (vR l2), some (vI l3)] (pushO v []) M9) from ⟨h.1, ?_⟩)
  replace h := h.2
  refine callX_mono (d := 300) (c120 (d := 296) h) ?_
  clear h
  rintro v9 M2 ⟨r3, rfl, h⟩
  show RL sl sx 1328 [some (vS), some (vR (some a1)), some (vR l2), some (vI l3)] [vI r3] M2
  refine RN_k (callX_det _) 6 _ _ _ _ (show vp_in (l3 + (1 : Int32)) sl ∧ RL sl sx 1334 [some (vS), some (vR (some a1)), some (vR l2), some (vI l3)] [vI (sx (l3 + (1 : Int32)).toNatClampNeg), vR l2, vI r3] M2 from ⟨h.1, ?_⟩)
  replace h := h.2
  refine RN_k (callX_det _) 5 _ _ _ _ (show vp_in (l3 + (2 : Int32)) sl ∧ RL sl sx 1339 [some (vS), some (vR (some a1)), some (vR l2), some (vI l3)] [vI (sx (l3 + (2 : Int32)).toNatClampNeg), vI (sx (l3 + (1 : Int32)).toNatClampNeg), vR l2, vI r3] M2 from ⟨h.1, ?_⟩)
  replace h := h.2
  refine RN_k (callX_det _) 5 _ _ _ _ (show vp_in (l3 + (3 : Int32)) sl ∧ RL sl sx 1344 [some (vS), some (vR (some a1)), some (vR l2), some (vI l3)] [vI (sx (l3 + (3 : Int32)).toNatClampNeg), vI (sx (l3 + (2 : Int32)).toNatClampNeg), vI (sx (l3 + (1 : Int32)).toNatClampNeg), vR l2, vI r3] M2 from ⟨h.1, ?_⟩)
  replace h := h.2
  obtain ⟨a4, he, h⟩ := h
  subst he
  refine RN_k (callX_det _) 1 _ _ _ _ (show kd M2 a4 10 ∧ callX TBg sl sx 300 257 [vR (some a4), vI (sx (l3 + (1 : Int32)).toNatClampNeg), vI (sx (l3 + (2 : Int32)).toNatClampNeg), vI (sx (l3 + (3 : Int32)).toNatClampNeg)] M2 (fun v M9 => RL sl sx 1347 [some (vS), some (vR (some a1)), some (vR (some a4)), some (vI l3)] (pushO v [vI r3]) M9) from ⟨h.1, ?_⟩)
  replace h := h.2
  refine callX_mono (d := 300) (c257 (d := 294) h) ?_
  clear h
  rintro v9 M5 ⟨r6, rfl, h⟩
  show RL sl sx 1347 [some (vS), some (vR (some a1)), some (vR (some a4)), some (vI l3)] [vI r6, vI r3] M5
  refine RN_k (callX_det _) 1 _ _ _ _ (show (r3 = r6 → RL sl sx 1953 [some (vS), some (vR (some a1)), some (vR (some a4)), some (vI l3)] [] M5) ∧ (¬ (r3 = r6) → RL sl sx 1350 [some (vS), some (vR (some a1)), some (vR (some a4)), some (vI l3)] [] M5) from ⟨fun hc => ?_, fun hc => ?_⟩)
  · replace h := h.1 hc
    exact RN_weak (K := [some (vS), some (vR (some a1)), some (vR (some a4)), some (vI l3)]) (callX_det _) (show _ ∧ _ ∧ _ ∧ _ ∧ True from ⟨rfl, rfl, rfl, rfl, trivial⟩) (tL_1953 hk (some a1) (some a4) l3 _ h)
  · replace h := h.2 hc
    exact RN_k (callX_det _) 2 _ _ _ _ (show some (vI (0 : Int32)) = some (vI 1) from by rw [h])
def wL_1301 (sl : Nat) (sx : Nat → Int32) (k18 : Option Nat → Option Nat → Int32 → MM → Prop) (l1 : Option Nat) (l2 : Option Nat) (l3 : Int32) (s0 : Int32) (s1 : Option Nat) (s2 : Int32) (s3 : Int32) (s4 : Int32) (s5 : Int32) (M : MM) : Prop := ∃ a1, s1 = some a1 ∧ (kd M a1 10 ∧ w255 a1 s2 s3 s4 s5 M (fun r3 M2 => (s0 = r3 → (wL_1953 sl sx k18 l1 l2 l3 M2)) ∧ (¬ (s0 = r3) → ((0 : Int32) = 1))))
theorem tL_1301 {sl : Nat} {sx : Nat → Int32} {k18 : Option Nat → Option Nat → Int32 → MM → Prop} (hk : ∀ (l1 l2 : Option Nat) (l3 : Int32) (M : MM), k18 l1 l2 l3 M → RL sl sx 18 [some vS, some (vR l1), some (vR l2), some (vI l3)] [] M) (l1 : Option Nat) (l2 : Option Nat) (l3 : Int32) (s0 : Int32) (s1 : Option Nat) (s2 : Int32) (s3 : Int32) (s4 : Int32) (s5 : Int32) (M : MM) (h : wL_1301 sl sx k18 l1 l2 l3 s0 s1 s2 s3 s4 s5 M) : RL sl sx 1301 [some (vS), some (vR l1), some (vR l2), some (vI l3)] [vI s5, vI s4, vI s3, vI s2, vR s1, vI s0] M := by
  obtain ⟨a1, he, h⟩ := h
  subst he
  refine RN_k (callX_det _) 1 _ _ _ _ (show kd M a1 10 ∧ callX TBg sl sx 300 255 [vR (some a1), vI s2, vI s3, vI s4, vI s5] M (fun v M9 => RL sl sx 1304 [some (vS), some (vR l1), some (vR l2), some (vI l3)] (pushO v [vI s0]) M9) from ⟨h.1, ?_⟩)
  replace h := h.2
  refine callX_mono (d := 300) (c255 (d := 294) h) ?_
  clear h
  rintro v9 M2 ⟨r3, rfl, h⟩
  show RL sl sx 1304 [some (vS), some (vR l1), some (vR l2), some (vI l3)] [vI r3, vI s0] M2
  refine RN_k (callX_det _) 1 _ _ _ _ (show (s0 = r3 → RL sl sx 1953 [some (vS), some (vR l1), some (vR l2), some (vI l3)] [] M2) ∧ (¬ (s0 = r3) → RL sl sx 1307 [some (vS), some (vR l1), some (vR l2), some (vI l3)] [] M2) from ⟨fun hc => ?_, fun hc => ?_⟩)
  · replace h := h.1 hc
    exact RN_weak (K := [some (vS), some (vR l1), some (vR l2), some (vI l3)]) (callX_det _) (show _ ∧ _ ∧ _ ∧ _ ∧ True from ⟨rfl, rfl, rfl, rfl, trivial⟩) (tL_1953 hk l1 l2 l3 _ h)
  · replace h := h.2 hc
    exact RN_k (callX_det _) 2 _ _ _ _ (show some (vI (0 : Int32)) = some (vI 1) from by rw [h])
def wL_1269 (sl : Nat) (sx : Nat → Int32) (k18 : Option Nat → Option Nat → Int32 → MM → Prop) (l1 : Option Nat) (l2 : Option Nat) (l3 : Int32) (s0 : Option Nat) (s1 : Int32) (s2 : Int32) (s3 : Int32) (s4 : Int32) (M : MM) : Prop := ∃ a1, s0 = some a1 ∧ (kd M a1 9 ∧ w118 a1 s1 s2 s3 s4 M (fun r3 M2 => vp_in (l3 + (1 : Int32)) sl ∧ (vp_in (l3 + (2 : Int32)) sl ∧ (vp_in (l3 + (3 : Int32)) sl ∧ (vp_in (l3 + (4 : Int32)) sl ∧ (((sx (l3 + (4 : Int32)).toNatClampNeg) = 0 → (wL_1301 sl sx k18 l1 l2 l3 r3 l2 (sx (l3 + (1 : Int32)).toNatClampNeg) (sx (l3 + (2 : Int32)).toNatClampNeg) (sx (l3 + (3 : Int32)).toNatClampNeg) (0 : Int32) M2)) ∧ (¬ ((sx (l3 + (4 : Int32)).toNatClampNeg) = 0) → (wL_1301 sl sx k18 l1 l2 l3 r3 l2 (sx (l3 + (1 : Int32)).toNatClampNeg) (sx (l3 + (2 : Int32)).toNatClampNeg) (sx (l3 + (3 : Int32)).toNatClampNeg) (1 : Int32) M2))))))))
theorem tL_1269 {sl : Nat} {sx : Nat → Int32} {k18 : Option Nat → Option Nat → Int32 → MM → Prop} (hk : ∀ (l1 l2 : Option Nat) (l3 : Int32) (M : MM), k18 l1 l2 l3 M → RL sl sx 18 [some vS, some (vR l1), some (vR l2), some (vI l3)] [] M) (l1 : Option Nat) (l2 : Option Nat) (l3 : Int32) (s0 : Option Nat) (s1 : Int32) (s2 : Int32) (s3 : Int32) (s4 : Int32) (M : MM) (h : wL_1269 sl sx k18 l1 l2 l3 s0 s1 s2 s3 s4 M) : RL sl sx 1269 [some (vS), some (vR l1), some (vR l2), some (vI l3)] [vI s4, vI s3, vI s2, vI s1, vR s0] M := by
  obtain ⟨a1, he, h⟩ := h
  subst he
  refine RN_k (callX_det _) 1 _ _ _ _ (show kd M a1 9 ∧ callX TBg sl sx 300 118 [vR (some a1), vI s1, vI s2, vI s3, vI s4] M (fun v M9 => RL sl sx 1272 [some (vS), some (vR l1), some (vR l2), some (vI l3)] (pushO v []) M9) from ⟨h.1, ?_⟩)
  replace h := h.2
  refine callX_mono (d := 300) (c118 (d := 296) h) ?_
  clear h
  rintro v9 M2 ⟨r3, rfl, h⟩
  show RL sl sx 1272 [some (vS), some (vR l1), some (vR l2), some (vI l3)] [vI r3] M2
  refine RN_k (callX_det _) 6 _ _ _ _ (show vp_in (l3 + (1 : Int32)) sl ∧ RL sl sx 1278 [some (vS), some (vR l1), some (vR l2), some (vI l3)] [vI (sx (l3 + (1 : Int32)).toNatClampNeg), vR l2, vI r3] M2 from ⟨h.1, ?_⟩)
  replace h := h.2
  refine RN_k (callX_det _) 5 _ _ _ _ (show vp_in (l3 + (2 : Int32)) sl ∧ RL sl sx 1283 [some (vS), some (vR l1), some (vR l2), some (vI l3)] [vI (sx (l3 + (2 : Int32)).toNatClampNeg), vI (sx (l3 + (1 : Int32)).toNatClampNeg), vR l2, vI r3] M2 from ⟨h.1, ?_⟩)
  replace h := h.2
  refine RN_k (callX_det _) 5 _ _ _ _ (show vp_in (l3 + (3 : Int32)) sl ∧ RL sl sx 1288 [some (vS), some (vR l1), some (vR l2), some (vI l3)] [vI (sx (l3 + (3 : Int32)).toNatClampNeg), vI (sx (l3 + (2 : Int32)).toNatClampNeg), vI (sx (l3 + (1 : Int32)).toNatClampNeg), vR l2, vI r3] M2 from ⟨h.1, ?_⟩)
  replace h := h.2
  refine RN_k (callX_det _) 5 _ _ _ _ (show vp_in (l3 + (4 : Int32)) sl ∧ RL sl sx 1293 [some (vS), some (vR l1), some (vR l2), some (vI l3)] [vI (sx (l3 + (4 : Int32)).toNatClampNeg), vI (sx (l3 + (3 : Int32)).toNatClampNeg), vI (sx (l3 + (2 : Int32)).toNatClampNeg), vI (sx (l3 + (1 : Int32)).toNatClampNeg), vR l2, vI r3] M2 from ⟨h.1, ?_⟩)
  replace h := h.2
  refine RN_k (callX_det _) 1 _ _ _ _ (show ((sx (l3 + (4 : Int32)).toNatClampNeg) = 0 → RL sl sx 1300 [some (vS), some (vR l1), some (vR l2), some (vI l3)] [vI (sx (l3 + (3 : Int32)).toNatClampNeg), vI (sx (l3 + (2 : Int32)).toNatClampNeg), vI (sx (l3 + (1 : Int32)).toNatClampNeg), vR l2, vI r3] M2) ∧ (¬ ((sx (l3 + (4 : Int32)).toNatClampNeg) = 0) → RL sl sx 1296 [some (vS), some (vR l1), some (vR l2), some (vI l3)] [vI (sx (l3 + (3 : Int32)).toNatClampNeg), vI (sx (l3 + (2 : Int32)).toNatClampNeg), vI (sx (l3 + (1 : Int32)).toNatClampNeg), vR l2, vI r3] M2) from ⟨fun hc => ?_, fun hc => ?_⟩)
  · replace h := h.1 hc
    refine RN_k (callX_det _) 1 _ _ _ _ (show RL sl sx 1301 [some (vS), some (vR l1), some (vR l2), some (vI l3)] [vI (0 : Int32), vI (sx (l3 + (3 : Int32)).toNatClampNeg), vI (sx (l3 + (2 : Int32)).toNatClampNeg), vI (sx (l3 + (1 : Int32)).toNatClampNeg), vR l2, vI r3] M2 from ?_)
    exact RN_weak (K := [some (vS), some (vR l1), some (vR l2), some (vI l3)]) (callX_det _) (show _ ∧ _ ∧ _ ∧ _ ∧ True from ⟨rfl, rfl, rfl, rfl, trivial⟩) (tL_1301 hk l1 l2 l3 r3 l2 (sx (l3 + (1 : Int32)).toNatClampNeg) (sx (l3 + (2 : Int32)).toNatClampNeg) (sx (l3 + (3 : Int32)).toNatClampNeg) (0 : Int32) _ h)
  · replace h := h.2 hc
    refine RN_k (callX_det _) 2 _ _ _ _ (show RL sl sx 1301 [some (vS), some (vR l1), some (vR l2), some (vI l3)] [vI (1 : Int32), vI (sx (l3 + (3 : Int32)).toNatClampNeg), vI (sx (l3 + (2 : Int32)).toNatClampNeg), vI (sx (l3 + (1 : Int32)).toNatClampNeg), vR l2, vI r3] M2 from ?_)
    exact RN_weak (K := [some (vS), some (vR l1), some (vR l2), some (vI l3)]) (callX_det _) (show _ ∧ _ ∧ _ ∧ _ ∧ True from ⟨rfl, rfl, rfl, rfl, trivial⟩) (tL_1301 hk l1 l2 l3 r3 l2 (sx (l3 + (1 : Int32)).toNatClampNeg) (sx (l3 + (2 : Int32)).toNatClampNeg) (sx (l3 + (3 : Int32)).toNatClampNeg) (1 : Int32) _ h)
def wL_1240 (sl : Nat) (sx : Nat → Int32) (k18 : Option Nat → Option Nat → Int32 → MM → Prop) (l1 : Option Nat) (l2 : Option Nat) (l3 : Int32) (M : MM) : Prop := vp_in (l3 + (1 : Int32)) sl ∧ (vp_in (l3 + (2 : Int32)) sl ∧ (vp_in (l3 + (3 : Int32)) sl ∧ (vp_in (l3 + (4 : Int32)) sl ∧ (((sx (l3 + (4 : Int32)).toNatClampNeg) = 0 → (wL_1269 sl sx k18 l1 l2 l3 l1 (sx (l3 + (1 : Int32)).toNatClampNeg) (sx (l3 + (2 : Int32)).toNatClampNeg) (sx (l3 + (3 : Int32)).toNatClampNeg) (0 : Int32) M)) ∧ (¬ ((sx (l3 + (4 : Int32)).toNatClampNeg) = 0) → (wL_1269 sl sx k18 l1 l2 l3 l1 (sx (l3 + (1 : Int32)).toNatClampNeg) (sx (l3 + (2 : Int32)).toNatClampNeg) (sx (l3 + (3 : Int32)).toNatClampNeg) (1 : Int32) M))))))
theorem tL_1240 {sl : Nat} {sx : Nat → Int32} {k18 : Option Nat → Option Nat → Int32 → MM → Prop} (hk : ∀ (l1 l2 : Option Nat) (l3 : Int32) (M : MM), k18 l1 l2 l3 M → RL sl sx 18 [some vS, some (vR l1), some (vR l2), some (vI l3)] [] M) (l1 : Option Nat) (l2 : Option Nat) (l3 : Int32) (M : MM) (h : wL_1240 sl sx k18 l1 l2 l3 M) : RL sl sx 1240 [some (vS), some (vR l1), some (vR l2), some (vI l3)] [] M := by
  refine RN_k (callX_det _) 6 _ _ _ _ (show vp_in (l3 + (1 : Int32)) sl ∧ RL sl sx 1246 [some (vS), some (vR l1), some (vR l2), some (vI l3)] [vI (sx (l3 + (1 : Int32)).toNatClampNeg), vR l1] M from ⟨h.1, ?_⟩)
  replace h := h.2
  refine RN_k (callX_det _) 5 _ _ _ _ (show vp_in (l3 + (2 : Int32)) sl ∧ RL sl sx 1251 [some (vS), some (vR l1), some (vR l2), some (vI l3)] [vI (sx (l3 + (2 : Int32)).toNatClampNeg), vI (sx (l3 + (1 : Int32)).toNatClampNeg), vR l1] M from ⟨h.1, ?_⟩)
  replace h := h.2
  refine RN_k (callX_det _) 5 _ _ _ _ (show vp_in (l3 + (3 : Int32)) sl ∧ RL sl sx 1256 [some (vS), some (vR l1), some (vR l2), some (vI l3)] [vI (sx (l3 + (3 : Int32)).toNatClampNeg), vI (sx (l3 + (2 : Int32)).toNatClampNeg), vI (sx (l3 + (1 : Int32)).toNatClampNeg), vR l1] M from ⟨h.1, ?_⟩)
  replace h := h.2
  refine RN_k (callX_det _) 5 _ _ _ _ (show vp_in (l3 + (4 : Int32)) sl ∧ RL sl sx 1261 [some (vS), some (vR l1), some (vR l2), some (vI l3)] [vI (sx (l3 + (4 : Int32)).toNatClampNeg), vI (sx (l3 + (3 : Int32)).toNatClampNeg), vI (sx (l3 + (2 : Int32)).toNatClampNeg), vI (sx (l3 + (1 : Int32)).toNatClampNeg), vR l1] M from ⟨h.1, ?_⟩)
  replace h := h.2
  refine RN_k (callX_det _) 1 _ _ _ _ (show ((sx (l3 + (4 : Int32)).toNatClampNeg) = 0 → RL sl sx 1268 [some (vS), some (vR l1), some (vR l2), some (vI l3)] [vI (sx (l3 + (3 : Int32)).toNatClampNeg), vI (sx (l3 + (2 : Int32)).toNatClampNeg), vI (sx (l3 + (1 : Int32)).toNatClampNeg), vR l1] M) ∧ (¬ ((sx (l3 + (4 : Int32)).toNatClampNeg) = 0) → RL sl sx 1264 [some (vS), some (vR l1), some (vR l2), some (vI l3)] [vI (sx (l3 + (3 : Int32)).toNatClampNeg), vI (sx (l3 + (2 : Int32)).toNatClampNeg), vI (sx (l3 + (1 : Int32)).toNatClampNeg), vR l1] M) from ⟨fun hc => ?_, fun hc => ?_⟩)
  · replace h := h.1 hc
    refine RN_k (callX_det _) 1 _ _ _ _ (show RL sl sx 1269 [some (vS), some (vR l1), some (vR l2), some (vI l3)] [vI (0 : Int32), vI (sx (l3 + (3 : Int32)).toNatClampNeg), vI (sx (l3 + (2 : Int32)).toNatClampNeg), vI (sx (l3 + (1 : Int32)).toNatClampNeg), vR l1] M from ?_)
    exact RN_weak (K := [some (vS), some (vR l1), some (vR l2), some (vI l3)]) (callX_det _) (show _ ∧ _ ∧ _ ∧ _ ∧ True from ⟨rfl, rfl, rfl, rfl, trivial⟩) (tL_1269 hk l1 l2 l3 l1 (sx (l3 + (1 : Int32)).toNatClampNeg) (sx (l3 + (2 : Int32)).toNatClampNeg) (sx (l3 + (3 : Int32)).toNatClampNeg) (0 : Int32) _ h)
  · replace h := h.2 hc
    refine RN_k (callX_det _) 2 _ _ _ _ (show RL sl sx 1269 [some (vS), some (vR l1), some (vR l2), some (vI l3)] [vI (1 : Int32), vI (sx (l3 + (3 : Int32)).toNatClampNeg), vI (sx (l3 + (2 : Int32)).toNatClampNeg), vI (sx (l3 + (1 : Int32)).toNatClampNeg), vR l1] M from ?_)
    exact RN_weak (K := [some (vS), some (vR l1), some (vR l2), some (vI l3)]) (callX_det _) (show _ ∧ _ ∧ _ ∧ _ ∧ True from ⟨rfl, rfl, rfl, rfl, trivial⟩) (tL_1269 hk l1 l2 l3 l1 (sx (l3 + (1 : Int32)).toNatClampNeg) (sx (l3 + (2 : Int32)).toNatClampNeg) (sx (l3 + (3 : Int32)).toNatClampNeg) (1 : Int32) _ h)
def wL_1232 (sl : Nat) (sx : Nat → Int32) (k18 : Option Nat → Option Nat → Int32 → MM → Prop) (l1 : Option Nat) (l2 : Option Nat) (l3 : Int32) (s0 : Int32) (s1 : Option Nat) (s2 : Int32) (s3 : Int32) (s4 : Int32) (s5 : Int32) (s6 : Int32) (s7 : Int32) (M : MM) : Prop := ∃ a1, s1 = some a1 ∧ (kd M a1 10 ∧ w252 a1 s2 s3 s4 s5 s6 s7 M (fun r3 M2 => (s0 = r3 → (wL_1953 sl sx k18 l1 l2 l3 M2)) ∧ (¬ (s0 = r3) → ((0 : Int32) = 1))))
theorem tL_1232 {sl : Nat} {sx : Nat → Int32} {k18 : Option Nat → Option Nat → Int32 → MM → Prop} (hk : ∀ (l1 l2 : Option Nat) (l3 : Int32) (M : MM), k18 l1 l2 l3 M → RL sl sx 18 [some vS, some (vR l1), some (vR l2), some (vI l3)] [] M) (l1 : Option Nat) (l2 : Option Nat) (l3 : Int32) (s0 : Int32) (s1 : Option Nat) (s2 : Int32) (s3 : Int32) (s4 : Int32) (s5 : Int32) (s6 : Int32) (s7 : Int32) (M : MM) (h : wL_1232 sl sx k18 l1 l2 l3 s0 s1 s2 s3 s4 s5 s6 s7 M) : RL sl sx 1232 [some (vS), some (vR l1), some (vR l2), some (vI l3)] [vI s7, vI s6, vI s5, vI s4, vI s3, vI s2, vR s1, vI s0] M := by
  obtain ⟨a1, he, h⟩ := h
  subst he
  refine RN_k (callX_det _) 1 _ _ _ _ (show kd M a1 10 ∧ callX TBg sl sx 300 252 [vR (some a1), vI s2, vI s3, vI s4, vI s5, vI s6, vI s7] M (fun v M9 => RL sl sx 1235 [some (vS), some (vR l1), some (vR l2), some (vI l3)] (pushO v [vI s0]) M9) from ⟨h.1, ?_⟩)
  replace h := h.2
  refine callX_mono (d := 300) (c252 (d := 290) h) ?_
  clear h
  rintro v9 M2 ⟨r3, rfl, h⟩
  show RL sl sx 1235 [some (vS), some (vR l1), some (vR l2), some (vI l3)] [vI r3, vI s0] M2
  refine RN_k (callX_det _) 1 _ _ _ _ (show (s0 = r3 → RL sl sx 1953 [some (vS), some (vR l1), some (vR l2), some (vI l3)] [] M2) ∧ (¬ (s0 = r3) → RL sl sx 1238 [some (vS), some (vR l1), some (vR l2), some (vI l3)] [] M2) from ⟨fun hc => ?_, fun hc => ?_⟩)
  · replace h := h.1 hc
    exact RN_weak (K := [some (vS), some (vR l1), some (vR l2), some (vI l3)]) (callX_det _) (show _ ∧ _ ∧ _ ∧ _ ∧ True from ⟨rfl, rfl, rfl, rfl, trivial⟩) (tL_1953 hk l1 l2 l3 _ h)
  · replace h := h.2 hc
    exact RN_k (callX_det _) 2 _ _ _ _ (show some (vI (0 : Int32)) = some (vI 1) from by rw [h])
def wL_1189 (sl : Nat) (sx : Nat → Int32) (k18 : Option Nat → Option Nat → Int32 → MM → Prop) (l1 : Option Nat) (l2 : Option Nat) (l3 : Int32) (s0 : Option Nat) (s1 : Int32) (s2 : Int32) (s3 : Int32) (s4 : Int32) (s5 : Int32) (s6 : Int32) (M : MM) : Prop := ∃ a1, s0 = some a1 ∧ (kd M a1 9 ∧ w116 a1 s1 s2 s3 s4 s5 s6 M (fun r3 M2 => vp_in (l3 + (1 : Int32)) sl ∧ (vp_in (l3 + (2 : Int32)) sl ∧ (vp_in (l3 + (3 : Int32)) sl ∧ (vp_in (l3 + (4 : Int32)) sl ∧ (vp_in (l3 + (5 : Int32)) sl ∧ (vp_in (l3 + (6 : Int32)) sl ∧ (((sx (l3 + (6 : Int32)).toNatClampNeg) = 0 → (wL_1232 sl sx k18 l1 l2 l3 r3 l2 (sx (l3 + (1 : Int32)).toNatClampNeg) (sx (l3 + (2 : Int32)).toNatClampNeg) (sx (l3 + (3 : Int32)).toNatClampNeg) (sx (l3 + (4 : Int32)).toNatClampNeg) (sx (l3 + (5 : Int32)).toNatClampNeg) (0 : Int32) M2)) ∧ (¬ ((sx (l3 + (6 : Int32)).toNatClampNeg) = 0) → (wL_1232 sl sx k18 l1 l2 l3 r3 l2 (sx (l3 + (1 : Int32)).toNatClampNeg) (sx (l3 + (2 : Int32)).toNatClampNeg) (sx (l3 + (3 : Int32)).toNatClampNeg) (sx (l3 + (4 : Int32)).toNatClampNeg) (sx (l3 + (5 : Int32)).toNatClampNeg) (1 : Int32) M2))))))))))
theorem tL_1189 {sl : Nat} {sx : Nat → Int32} {k18 : Option Nat → Option Nat → Int32 → MM → Prop} (hk : ∀ (l1 l2 : Option Nat) (l3 : Int32) (M : MM), k18 l1 l2 l3 M → RL sl sx 18 [some vS, some (vR l1), some (vR l2), some (vI l3)] [] M) (l1 : Option Nat) (l2 : Option Nat) (l3 : Int32) (s0 : Option Nat) (s1 : Int32) (s2 : Int32) (s3 : Int32) (s4 : Int32) (s5 : Int32) (s6 : Int32) (M : MM) (h : wL_1189 sl sx k18 l1 l2 l3 s0 s1 s2 s3 s4 s5 s6 M) : RL sl sx 1189 [some (vS), some (vR l1), some (vR l2), some (vI l3)] [vI s6, vI s5, vI s4, vI s3, vI s2, vI s1, vR s0] M := by
  obtain ⟨a1, he, h⟩ := h
  subst he
  refine RN_k (callX_det _) 1 _ _ _ _ (show kd M a1 9 ∧ callX TBg sl sx 300 116 [vR (some a1), vI s1, vI s2, vI s3, vI s4, vI s5, vI s6] M (fun v M9 => RL sl sx 1192 [some (vS), some (vR l1), some (vR l2), some (vI l3)] (pushO v []) M9) from ⟨h.1, ?_⟩)
  replace h := h.2
  refine callX_mono (d := 300) (c116 (d := 294) h) ?_
  clear h
  rintro v9 M2 ⟨r3, rfl, h⟩
  show RL sl sx 1192 [some (vS), some (vR l1), some (vR l2), some (vI l3)] [vI r3] M2
  refine RN_k (callX_det _) 6 _ _ _ _ (show vp_in (l3 + (1 : Int32)) sl ∧ RL sl sx 1198 [some (vS), some (vR l1), some (vR l2), some (vI l3)] [vI (sx (l3 + (1 : Int32)).toNatClampNeg), vR l2, vI r3] M2 from ⟨h.1, ?_⟩)
  replace h := h.2
  refine RN_k (callX_det _) 5 _ _ _ _ (show vp_in (l3 + (2 : Int32)) sl ∧ RL sl sx 1203 [some (vS), some (vR l1), some (vR l2), some (vI l3)] [vI (sx (l3 + (2 : Int32)).toNatClampNeg), vI (sx (l3 + (1 : Int32)).toNatClampNeg), vR l2, vI r3] M2 from ⟨h.1, ?_⟩)
  replace h := h.2
  refine RN_k (callX_det _) 5 _ _ _ _ (show vp_in (l3 + (3 : Int32)) sl ∧ RL sl sx 1208 [some (vS), some (vR l1), some (vR l2), some (vI l3)] [vI (sx (l3 + (3 : Int32)).toNatClampNeg), vI (sx (l3 + (2 : Int32)).toNatClampNeg), vI (sx (l3 + (1 : Int32)).toNatClampNeg), vR l2, vI r3] M2 from ⟨h.1, ?_⟩)
  replace h := h.2
  refine RN_k (callX_det _) 5 _ _ _ _ (show vp_in (l3 + (4 : Int32)) sl ∧ RL sl sx 1213 [some (vS), some (vR l1), some (vR l2), some (vI l3)] [vI (sx (l3 + (4 : Int32)).toNatClampNeg), vI (sx (l3 + (3 : Int32)).toNatClampNeg), vI (sx (l3 + (2 : Int32)).toNatClampNeg), vI (sx (l3 + (1 : Int32)).toNatClampNeg), vR l2, vI r3] M2 from ⟨h.1, ?_⟩)
  replace h := h.2
  refine RN_k (callX_det _) 5 _ _ _ _ (show vp_in (l3 + (5 : Int32)) sl ∧ RL sl sx 1218 [some (vS), some (vR l1), some (vR l2), some (vI l3)] [vI (sx (l3 + (5 : Int32)).toNatClampNeg), vI (sx (l3 + (4 : Int32)).toNatClampNeg), vI (sx (l3 + (3 : Int32)).toNatClampNeg), vI (sx (l3 + (2 : Int32)).toNatClampNeg), vI (sx (l3 + (1 : Int32)).toNatClampNeg), vR l2, vI r3] M2 from ⟨h.1, ?_⟩)
  replace h := h.2
  refine RN_k (callX_det _) 5 _ _ _ _ (show vp_in (l3 + (6 : Int32)) sl ∧ RL sl sx 1224 [some (vS), some (vR l1), some (vR l2), some (vI l3)] [vI (sx (l3 + (6 : Int32)).toNatClampNeg), vI (sx (l3 + (5 : Int32)).toNatClampNeg), vI (sx (l3 + (4 : Int32)).toNatClampNeg), vI (sx (l3 + (3 : Int32)).toNatClampNeg), vI (sx (l3 + (2 : Int32)).toNatClampNeg), vI (sx (l3 + (1 : Int32)).toNatClampNeg), vR l2, vI r3] M2 from ⟨h.1, ?_⟩)
  replace h := h.2
  refine RN_k (callX_det _) 1 _ _ _ _ (show ((sx (l3 + (6 : Int32)).toNatClampNeg) = 0 → RL sl sx 1231 [some (vS), some (vR l1), some (vR l2), some (vI l3)] [vI (sx (l3 + (5 : Int32)).toNatClampNeg), vI (sx (l3 + (4 : Int32)).toNatClampNeg), vI (sx (l3 + (3 : Int32)).toNatClampNeg), vI (sx (l3 + (2 : Int32)).toNatClampNeg), vI (sx (l3 + (1 : Int32)).toNatClampNeg), vR l2, vI r3] M2) ∧ (¬ ((sx (l3 + (6 : Int32)).toNatClampNeg) = 0) → RL sl sx 1227 [some (vS), some (vR l1), some (vR l2), some (vI l3)] [vI (sx (l3 + (5 : Int32)).toNatClampNeg), vI (sx (l3 + (4 : Int32)).toNatClampNeg), vI (sx (l3 + (3 : Int32)).toNatClampNeg), vI (sx (l3 + (2 : Int32)).toNatClampNeg), vI (sx (l3 + (1 : Int32)).toNatClampNeg), vR l2, vI r3] M2) from ⟨fun hc => ?_, fun hc => ?_⟩)
  · replace h := h.1 hc
    refine RN_k (callX_det _) 1 _ _ _ _ (show RL sl sx 1232 [some (vS), some (vR l1), some (vR l2), some (vI l3)] [vI (0 : Int32), vI (sx (l3 + (5 : Int32)).toNatClampNeg), vI (sx (l3 + (4 : Int32)).toNatClampNeg), vI (sx (l3 + (3 : Int32)).toNatClampNeg), vI (sx (l3 + (2 : Int32)).toNatClampNeg), vI (sx (l3 + (1 : Int32)).toNatClampNeg), vR l2, vI r3] M2 from ?_)
    exact RN_weak (K := [some (vS), some (vR l1), some (vR l2), some (vI l3)]) (callX_det _) (show _ ∧ _ ∧ _ ∧ _ ∧ True from ⟨rfl, rfl, rfl, rfl, trivial⟩) (tL_1232 hk l1 l2 l3 r3 l2 (sx (l3 + (1 : Int32)).toNatClampNeg) (sx (l3 + (2 : Int32)).toNatClampNeg) (sx (l3 + (3 : Int32)).toNatClampNeg) (sx (l3 + (4 : Int32)).toNatClampNeg) (sx (l3 + (5 : Int32)).toNatClampNeg) (0 : Int32) _ h)
  · replace h := h.2 hc
    refine RN_k (callX_det _) 2 _ _ _ _ (show RL sl sx 1232 [some (vS), some (vR l1), some (vR l2), some (vI l3)] [vI (1 : Int32), vI (sx (l3 + (5 : Int32)).toNatClampNeg), vI (sx (l3 + (4 : Int32)).toNatClampNeg), vI (sx (l3 + (3 : Int32)).toNatClampNeg), vI (sx (l3 + (2 : Int32)).toNatClampNeg), vI (sx (l3 + (1 : Int32)).toNatClampNeg), vR l2, vI r3] M2 from ?_)
    exact RN_weak (K := [some (vS), some (vR l1), some (vR l2), some (vI l3)]) (callX_det _) (show _ ∧ _ ∧ _ ∧ _ ∧ True from ⟨rfl, rfl, rfl, rfl, trivial⟩) (tL_1232 hk l1 l2 l3 r3 l2 (sx (l3 + (1 : Int32)).toNatClampNeg) (sx (l3 + (2 : Int32)).toNatClampNeg) (sx (l3 + (3 : Int32)).toNatClampNeg) (sx (l3 + (4 : Int32)).toNatClampNeg) (sx (l3 + (5 : Int32)).toNatClampNeg) (1 : Int32) _ h)
def wL_1149 (sl : Nat) (sx : Nat → Int32) (k18 : Option Nat → Option Nat → Int32 → MM → Prop) (l1 : Option Nat) (l2 : Option Nat) (l3 : Int32) (M : MM) : Prop := vp_in (l3 + (1 : Int32)) sl ∧ (vp_in (l3 + (2 : Int32)) sl ∧ (vp_in (l3 + (3 : Int32)) sl ∧ (vp_in (l3 + (4 : Int32)) sl ∧ (vp_in (l3 + (5 : Int32)) sl ∧ (vp_in (l3 + (6 : Int32)) sl ∧ (((sx (l3 + (6 : Int32)).toNatClampNeg) = 0 → (wL_1189 sl sx k18 l1 l2 l3 l1 (sx (l3 + (1 : Int32)).toNatClampNeg) (sx (l3 + (2 : Int32)).toNatClampNeg) (sx (l3 + (3 : Int32)).toNatClampNeg) (sx (l3 + (4 : Int32)).toNatClampNeg) (sx (l3 + (5 : Int32)).toNatClampNeg) (0 : Int32) M)) ∧ (¬ ((sx (l3 + (6 : Int32)).toNatClampNeg) = 0) → (wL_1189 sl sx k18 l1 l2 l3 l1 (sx (l3 + (1 : Int32)).toNatClampNeg) (sx (l3 + (2 : Int32)).toNatClampNeg) (sx (l3 + (3 : Int32)).toNatClampNeg) (sx (l3 + (4 : Int32)).toNatClampNeg) (sx (l3 + (5 : Int32)).toNatClampNeg) (1 : Int32) M))))))))
theorem tL_1149 {sl : Nat} {sx : Nat → Int32} {k18 : Option Nat → Option Nat → Int32 → MM → Prop} (hk : ∀ (l1 l2 : Option Nat) (l3 : Int32) (M : MM), k18 l1 l2 l3 M → RL sl sx 18 [some vS, some (vR l1), some (vR l2), some (vI l3)] [] M) (l1 : Option Nat) (l2 : Option Nat) (l3 : Int32) (M : MM) (h : wL_1149 sl sx k18 l1 l2 l3 M) : RL sl sx 1149 [some (vS), some (vR l1), some (vR l2), some (vI l3)] [] M := by
  refine RN_k (callX_det _) 6 _ _ _ _ (show vp_in (l3 + (1 : Int32)) sl ∧ RL sl sx 1155 [some (vS), some (vR l1), some (vR l2), some (vI l3)] [vI (sx (l3 + (1 : Int32)).toNatClampNeg), vR l1] M from ⟨h.1, ?_⟩)
  replace h := h.2
  refine RN_k (callX_det _) 5 _ _ _ _ (show vp_in (l3 + (2 : Int32)) sl ∧ RL sl sx 1160 [some (vS), some (vR l1), some (vR l2), some (vI l3)] [vI (sx (l3 + (2 : Int32)).toNatClampNeg), vI (sx (l3 + (1 : Int32)).toNatClampNeg), vR l1] M from ⟨h.1, ?_⟩)
  replace h := h.2
  refine RN_k (callX_det _) 5 _ _ _ _ (show vp_in (l3 + (3 : Int32)) sl ∧ RL sl sx 1165 [some (vS), some (vR l1), some (vR l2), some (vI l3)] [vI (sx (l3 + (3 : Int32)).toNatClampNeg), vI (sx (l3 + (2 : Int32)).toNatClampNeg), vI (sx (l3 + (1 : Int32)).toNatClampNeg), vR l1] M from ⟨h.1, ?_⟩)
  replace h := h.2
  refine RN_k (callX_det _) 5 _ _ _ _ (show vp_in (l3 + (4 : Int32)) sl ∧ RL sl sx 1170 [some (vS), some (vR l1), some (vR l2), some (vI l3)] [vI (sx (l3 + (4 : Int32)).toNatClampNeg), vI (sx (l3 + (3 : Int32)).toNatClampNeg), vI (sx (l3 + (2 : Int32)).toNatClampNeg), vI (sx (l3 + (1 : Int32)).toNatClampNeg), vR l1] M from ⟨h.1, ?_⟩)
  replace h := h.2
  refine RN_k (callX_det _) 5 _ _ _ _ (show vp_in (l3 + (5 : Int32)) sl ∧ RL sl sx 1175 [some (vS), some (vR l1), some (vR l2), some (vI l3)] [vI (sx (l3 + (5 : Int32)).toNatClampNeg), vI (sx (l3 + (4 : Int32)).toNatClampNeg), vI (sx (l3 + (3 : Int32)).toNatClampNeg), vI (sx (l3 + (2 : Int32)).toNatClampNeg), vI (sx (l3 + (1 : Int32)).toNatClampNeg), vR l1] M from ⟨h.1, ?_⟩)
  replace h := h.2
  refine RN_k (callX_det _) 5 _ _ _ _ (show vp_in (l3 + (6 : Int32)) sl ∧ RL sl sx 1181 [some (vS), some (vR l1), some (vR l2), some (vI l3)] [vI (sx (l3 + (6 : Int32)).toNatClampNeg), vI (sx (l3 + (5 : Int32)).toNatClampNeg), vI (sx (l3 + (4 : Int32)).toNatClampNeg), vI (sx (l3 + (3 : Int32)).toNatClampNeg), vI (sx (l3 + (2 : Int32)).toNatClampNeg), vI (sx (l3 + (1 : Int32)).toNatClampNeg), vR l1] M from ⟨h.1, ?_⟩)
  replace h := h.2
  refine RN_k (callX_det _) 1 _ _ _ _ (show ((sx (l3 + (6 : Int32)).toNatClampNeg) = 0 → RL sl sx 1188 [some (vS), some (vR l1), some (vR l2), some (vI l3)] [vI (sx (l3 + (5 : Int32)).toNatClampNeg), vI (sx (l3 + (4 : Int32)).toNatClampNeg), vI (sx (l3 + (3 : Int32)).toNatClampNeg), vI (sx (l3 + (2 : Int32)).toNatClampNeg), vI (sx (l3 + (1 : Int32)).toNatClampNeg), vR l1] M) ∧ (¬ ((sx (l3 + (6 : Int32)).toNatClampNeg) = 0) → RL sl sx 1184 [some (vS), some (vR l1), some (vR l2), some (vI l3)] [vI (sx (l3 + (5 : Int32)).toNatClampNeg), vI (sx (l3 + (4 : Int32)).toNatClampNeg), vI (sx (l3 + (3 : Int32)).toNatClampNeg), vI (sx (l3 + (2 : Int32)).toNatClampNeg), vI (sx (l3 + (1 : Int32)).toNatClampNeg), vR l1] M) from ⟨fun hc => ?_, fun hc => ?_⟩)
  · replace h := h.1 hc
    refine RN_k (callX_det _) 1 _ _ _ _ (show RL sl sx 1189 [some (vS), some (vR l1), some (vR l2), some (vI l3)] [vI (0 : Int32), vI (sx (l3 + (5 : Int32)).toNatClampNeg), vI (sx (l3 + (4 : Int32)).toNatClampNeg), vI (sx (l3 + (3 : Int32)).toNatClampNeg), vI (sx (l3 + (2 : Int32)).toNatClampNeg), vI (sx (l3 + (1 : Int32)).toNatClampNeg), vR l1] M from ?_)
    exact RN_weak (K := [some (vS), some (vR l1), some (vR l2), some (vI l3)]) (callX_det _) (show _ ∧ _ ∧ _ ∧ _ ∧ True from ⟨rfl, rfl, rfl, rfl, trivial⟩) (tL_1189 hk l1 l2 l3 l1 (sx (l3 + (1 : Int32)).toNatClampNeg) (sx (l3 + (2 : Int32)).toNatClampNeg) (sx (l3 + (3 : Int32)).toNatClampNeg) (sx (l3 + (4 : Int32)).toNatClampNeg) (sx (l3 + (5 : Int32)).toNatClampNeg) (0 : Int32) _ h)
  · replace h := h.2 hc
    refine RN_k (callX_det _) 2 _ _ _ _ (show RL sl sx 1189 [some (vS), some (vR l1), some (vR l2), some (vI l3)] [vI (1 : Int32), vI (sx (l3 + (5 : Int32)).toNatClampNeg), vI (sx (l3 + (4 : Int32)).toNatClampNeg), vI (sx (l3 + (3 : Int32)).toNatClampNeg), vI (sx (l3 + (2 : Int32)).toNatClampNeg), vI (sx (l3 + (1 : Int32)).toNatClampNeg), vR l1] M from ?_)
    exact RN_weak (K := [some (vS), some (vR l1), some (vR l2), some (vI l3)]) (callX_det _) (show _ ∧ _ ∧ _ ∧ _ ∧ True from ⟨rfl, rfl, rfl, rfl, trivial⟩) (tL_1189 hk l1 l2 l3 l1 (sx (l3 + (1 : Int32)).toNatClampNeg) (sx (l3 + (2 : Int32)).toNatClampNeg) (sx (l3 + (3 : Int32)).toNatClampNeg) (sx (l3 + (4 : Int32)).toNatClampNeg) (sx (l3 + (5 : Int32)).toNatClampNeg) (1 : Int32) _ h)
def wL_1106 (sl : Nat) (sx : Nat → Int32) (k18 : Option Nat → Option Nat → Int32 → MM → Prop) (l1 : Option Nat) (l2 : Option Nat) (l3 : Int32) (M : MM) : Prop := vp_in (l3 + (1 : Int32)) sl ∧ (vp_in (l3 + (2 : Int32)) sl ∧ (vp_in (l3 + (3 : Int32)) sl ∧ (∃ a1, l1 = some a1 ∧ (kd M a1 9 ∧ w115 a1 (sx (l3 + (1 : Int32)).toNatClampNeg) (sx (l3 + (2 : Int32)).toNatClampNeg) (sx (l3 + (3 : Int32)).toNatClampNeg) M (fun r3 M2 => vp_in (l3 + (1 : Int32)) sl ∧ (vp_in (l3 + (2 : Int32)) sl ∧ (vp_in (l3 + (3 : Int32)) sl ∧ (∃ a4, l2 = some a4 ∧ (kd M2 a4 10 ∧ w251 a4 (sx (l3 + (1 : Int32)).toNatClampNeg) (sx (l3 + (2 : Int32)).toNatClampNeg) (sx (l3 + (3 : Int32)).toNatClampNeg) M2 (fun r6 M5 => (r3 = r6 → (wL_1953 sl sx k18 (some a1) (some a4) l3 M5)) ∧ (¬ (r3 = r6) → ((0 : Int32) = 1))))))))))))
theorem tL_1106 {sl : Nat} {sx : Nat → Int32} {k18 : Option Nat → Option Nat → Int32 → MM → Prop} (hk : ∀ (l1 l2 : Option Nat) (l3 : Int32) (M : MM), k18 l1 l2 l3 M → RL sl sx 18 [some vS, some (vR l1), some (vR l2), some (vI l3)] [] M) (l1 : Option Nat) (l2 : Option Nat) (l3 : Int32) (M : MM) (h : wL_1106 sl sx k18 l1 l2 l3 M) : RL sl sx 1106 [some (vS), some (vR l1), some (vR l2), some (vI l3)] [] M := by
  refine RN_k (callX_det _) 6 _ _ _ _ (show vp_in (l3 + (1 : Int32)) sl ∧ RL sl sx 1112 [some (vS), some (vR l1), some (vR l2), some (vI l3)] [vI (sx (l3 + (1 : Int32)).toNatClampNeg), vR l1] M from ⟨h.1, ?_⟩)
  replace h := h.2
  refine RN_k (callX_det _) 5 _ _ _ _ (show vp_in (l3 + (2 : Int32)) sl ∧ RL sl sx 1117 [some (vS), some (vR l1), some (vR l2), some (vI l3)] [vI (sx (l3 + (2 : Int32)).toNatClampNeg), vI (sx (l3 + (1 : Int32)).toNatClampNeg), vR l1] M from ⟨h.1, ?_⟩)
  replace h := h.2
  refine RN_k (callX_det _) 5 _ _ _ _ (show vp_in (l3 + (3 : Int32)) sl ∧ RL sl sx 1122 [some (vS), some (vR l1), some (vR l2), some (vI l3)] [vI (sx (l3 + (3 : Int32)).toNatClampNeg), vI (sx (l3 + (2 : Int32)).toNatClampNeg), vI (sx (l3 + (1 : Int32)).toNatClampNeg), vR l1] M from ⟨h.1, ?_⟩)
  replace h := h.2
  obtain ⟨a1, he, h⟩ := h
  subst he
  refine RN_k (callX_det _) 1 _ _ _ _ (show kd M a1 9 ∧ callX TBg sl sx 300 115 [vR (some a1), vI (sx (l3 + (1 : Int32)).toNatClampNeg), vI (sx (l3 + (2 : Int32)).toNatClampNeg), vI (sx (l3 + (3 : Int32)).toNatClampNeg)] M (fun v M9 => RL sl sx 1125 [some (vS), some (vR (some a1)), some (vR l2), some (vI l3)] (pushO v []) M9) from ⟨h.1, ?_⟩)
  replace h := h.2
  refine callX_mono (d := 300) (c115 (d := 295) h) ?_
  clear h
  rintro v9 M2 ⟨r3, rfl, h⟩
  show RL sl sx 1125 [some (vS), some (vR (some a1)), some (vR l2), some (vI l3)] [vI r3] M2
  refine RN_k (callX_det _) 6 _ _ _ _ (show vp_in (l3 + (1 : Int32)) sl ∧ RL sl sx 1131 [some (vS), some (vR (some a1)), some (vR l2), some (vI l3)] [vI (sx (l3 + (1 : Int32)).toNatClampNeg), vR l2, vI r3] M2 from ⟨h.1, ?_⟩)
  replace h := h.2
  refine RN_k (callX_det _) 5 _ _ _ _ (show vp_in (l3 + (2 : Int32)) sl ∧ RL sl sx 1136 [some (vS), some (vR (some a1)), some (vR l2), some (vI l3)] [vI (sx (l3 + (2 : Int32)).toNatClampNeg), vI (sx (l3 + (1 : Int32)).toNatClampNeg), vR l2, vI r3] M2 from ⟨h.1, ?_⟩)
  replace h := h.2
  refine RN_k (callX_det _) 5 _ _ _ _ (show vp_in (l3 + (3 : Int32)) sl ∧ RL sl sx 1141 [some (vS), some (vR (some a1)), some (vR l2), some (vI l3)] [vI (sx (l3 + (3 : Int32)).toNatClampNeg), vI (sx (l3 + (2 : Int32)).toNatClampNeg), vI (sx (l3 + (1 : Int32)).toNatClampNeg), vR l2, vI r3] M2 from ⟨h.1, ?_⟩)
  replace h := h.2
  obtain ⟨a4, he, h⟩ := h
  subst he
  refine RN_k (callX_det _) 1 _ _ _ _ (show kd M2 a4 10 ∧ callX TBg sl sx 300 251 [vR (some a4), vI (sx (l3 + (1 : Int32)).toNatClampNeg), vI (sx (l3 + (2 : Int32)).toNatClampNeg), vI (sx (l3 + (3 : Int32)).toNatClampNeg)] M2 (fun v M9 => RL sl sx 1144 [some (vS), some (vR (some a1)), some (vR (some a4)), some (vI l3)] (pushO v [vI r3]) M9) from ⟨h.1, ?_⟩)
  replace h := h.2
  refine callX_mono (d := 300) (c251 (d := 195) h) ?_
  clear h
  rintro v9 M5 ⟨r6, rfl, h⟩
  show RL sl sx 1144 [some (vS), some (vR (some a1)), some (vR (some a4)), some (vI l3)] [vI r6, vI r3] M5
  refine RN_k (callX_det _) 1 _ _ _ _ (show (r3 = r6 → RL sl sx 1953 [some (vS), some (vR (some a1)), some (vR (some a4)), some (vI l3)] [] M5) ∧ (¬ (r3 = r6) → RL sl sx 1147 [some (vS), some (vR (some a1)), some (vR (some a4)), some (vI l3)] [] M5) from ⟨fun hc => ?_, fun hc => ?_⟩)
  · replace h := h.1 hc
    exact RN_weak (K := [some (vS), some (vR (some a1)), some (vR (some a4)), some (vI l3)]) (callX_det _) (show _ ∧ _ ∧ _ ∧ _ ∧ True from ⟨rfl, rfl, rfl, rfl, trivial⟩) (tL_1953 hk (some a1) (some a4) l3 _ h)
  · replace h := h.2 hc
    exact RN_k (callX_det _) 2 _ _ _ _ (show some (vI (0 : Int32)) = some (vI 1) from by rw [h])
def wL_1063 (sl : Nat) (sx : Nat → Int32) (k18 : Option Nat → Option Nat → Int32 → MM → Prop) (l1 : Option Nat) (l2 : Option Nat) (l3 : Int32) (M : MM) : Prop := vp_in (l3 + (1 : Int32)) sl ∧ (vp_in (l3 + (2 : Int32)) sl ∧ (vp_in (l3 + (3 : Int32)) sl ∧ (∃ a1, l1 = some a1 ∧ (kd M a1 9 ∧ w112 a1 (sx (l3 + (1 : Int32)).toNatClampNeg) (sx (l3 + (2 : Int32)).toNatClampNeg) (sx (l3 + (3 : Int32)).toNatClampNeg) M (fun r3 M2 => vp_in (l3 + (1 : Int32)) sl ∧ (vp_in (l3 + (2 : Int32)) sl ∧ (vp_in (l3 + (3 : Int32)) sl ∧ (∃ a4, l2 = some a4 ∧ (kd M2 a4 10 ∧ w250 a4 (sx (l3 + (1 : Int32)).toNatClampNeg) (sx (l3 + (2 : Int32)).toNatClampNeg) (sx (l3 + (3 : Int32)).toNatClampNeg) M2 (fun r6 M5 => (r3 = r6 → (wL_1953 sl sx k18 (some a1) (some a4) l3 M5)) ∧ (¬ (r3 = r6) → ((0 : Int32) = 1))))))))))))
theorem tL_1063 {sl : Nat} {sx : Nat → Int32} {k18 : Option Nat → Option Nat → Int32 → MM → Prop} (hk : ∀ (l1 l2 : Option Nat) (l3 : Int32) (M : MM), k18 l1 l2 l3 M → RL sl sx 18 [some vS, some (vR l1), some (vR l2), some (vI l3)] [] M) (l1 : Option Nat) (l2 : Option Nat) (l3 : Int32) (M : MM) (h : wL_1063 sl sx k18 l1 l2 l3 M) : RL sl sx 1063 [some (vS), some (vR l1), some (vR l2), some (vI l3)] [] M := by
  refine RN_k (callX_det _) 6 _ _ _ _ (show vp_in (l3 + (1 : Int32)) sl ∧ RL sl sx 1069 [some (vS), some (vR l1), some (vR l2), some (vI l3)] [vI (sx (l3 + (1 : Int32)).toNatClampNeg), vR l1] M from ⟨h.1, ?_⟩)
  replace h := h.2
  refine RN_k (callX_det _) 5 _ _ _ _ (show vp_in (l3 + (2 : Int32)) sl ∧ RL sl sx 1074 [some (vS), some (vR l1), some (vR l2), some (vI l3)] [vI (sx (l3 + (2 : Int32)).toNatClampNeg), vI (sx (l3 + (1 : Int32)).toNatClampNeg), vR l1] M from ⟨h.1, ?_⟩)
  replace h := h.2
  refine RN_k (callX_det _) 5 _ _ _ _ (show vp_in (l3 + (3 : Int32)) sl ∧ RL sl sx 1079 [some (vS), some (vR l1), some (vR l2), some (vI l3)] [vI (sx (l3 + (3 : Int32)).toNatClampNeg), vI (sx (l3 + (2 : Int32)).toNatClampNeg), vI (sx (l3 + (1 : Int32)).toNatClampNeg), vR l1] M from ⟨h.1, ?_⟩)
  replace h := h.2
  obtain ⟨a1, he, h⟩ := h
  subst he
  refine RN_k (callX_det _) 1 _ _ _ _ (show kd M a1 9 ∧ callX TBg sl sx 300 112 [vR (some a1), vI (sx (l3 + (1 : Int32)).toNatClampNeg), vI (sx (l3 + (2 : Int32)).toNatClampNeg), vI (sx (l3 + (3 : Int32)).toNatClampNeg)] M (fun v M9 => RL sl sx 1082 [some (vS), some (vR (some a1)), some (vR l2), some (vI l3)] (pushO v []) M9) from ⟨h.1, ?_⟩)
  replace h := h.2
  refine callX_mono (d := 300) (c112 (d := 294) h) ?_
  clear h
  rintro v9 M2 ⟨r3, rfl, h⟩
  show RL sl sx 1082 [some (vS), some (vR (some a1)), some (vR l2), some (vI l3)] [vI r3] M2
  refine RN_k (callX_det _) 6 _ _ _ _ (show vp_in (l3 + (1 : Int32)) sl ∧ RL sl sx 1088 [some (vS), some (vR (some a1)), some (vR l2), some (vI l3)] [vI (sx (l3 + (1 : Int32)).toNatClampNeg), vR l2, vI r3] M2 from ⟨h.1, ?_⟩)
  replace h := h.2
  refine RN_k (callX_det _) 5 _ _ _ _ (show vp_in (l3 + (2 : Int32)) sl ∧ RL sl sx 1093 [some (vS), some (vR (some a1)), some (vR l2), some (vI l3)] [vI (sx (l3 + (2 : Int32)).toNatClampNeg), vI (sx (l3 + (1 : Int32)).toNatClampNeg), vR l2, vI r3] M2 from ⟨h.1, ?_⟩)
  replace h := h.2
  refine RN_k (callX_det _) 5 _ _ _ _ (show vp_in (l3 + (3 : Int32)) sl ∧ RL sl sx 1098 [some (vS), some (vR (some a1)), some (vR l2), some (vI l3)] [vI (sx (l3 + (3 : Int32)).toNatClampNeg), vI (sx (l3 + (2 : Int32)).toNatClampNeg), vI (sx (l3 + (1 : Int32)).toNatClampNeg), vR l2, vI r3] M2 from ⟨h.1, ?_⟩)
  replace h := h.2
  obtain ⟨a4, he, h⟩ := h
  subst he
  refine RN_k (callX_det _) 1 _ _ _ _ (show kd M2 a4 10 ∧ callX TBg sl sx 300 250 [vR (some a4), vI (sx (l3 + (1 : Int32)).toNatClampNeg), vI (sx (l3 + (2 : Int32)).toNatClampNeg), vI (sx (l3 + (3 : Int32)).toNatClampNeg)] M2 (fun v M9 => RL sl sx 1101 [some (vS), some (vR (some a1)), some (vR (some a4)), some (vI l3)] (pushO v [vI r3]) M9) from ⟨h.1, ?_⟩)
  replace h := h.2
  refine callX_mono (d := 300) (c250 (d := 194) h) ?_
  clear h
  rintro v9 M5 ⟨r6, rfl, h⟩
  show RL sl sx 1101 [some (vS), some (vR (some a1)), some (vR (some a4)), some (vI l3)] [vI r6, vI r3] M5
  refine RN_k (callX_det _) 1 _ _ _ _ (show (r3 = r6 → RL sl sx 1953 [some (vS), some (vR (some a1)), some (vR (some a4)), some (vI l3)] [] M5) ∧ (¬ (r3 = r6) → RL sl sx 1104 [some (vS), some (vR (some a1)), some (vR (some a4)), some (vI l3)] [] M5) from ⟨fun hc => ?_, fun hc => ?_⟩)
  · replace h := h.1 hc
    exact RN_weak (K := [some (vS), some (vR (some a1)), some (vR (some a4)), some (vI l3)]) (callX_det _) (show _ ∧ _ ∧ _ ∧ _ ∧ True from ⟨rfl, rfl, rfl, rfl, trivial⟩) (tL_1953 hk (some a1) (some a4) l3 _ h)
  · replace h := h.2 hc
    exact RN_k (callX_det _) 2 _ _ _ _ (show some (vI (0 : Int32)) = some (vI 1) from by rw [h])
def wL_1020 (sl : Nat) (sx : Nat → Int32) (k18 : Option Nat → Option Nat → Int32 → MM → Prop) (l1 : Option Nat) (l2 : Option Nat) (l3 : Int32) (M : MM) : Prop := vp_in (l3 + (1 : Int32)) sl ∧ (vp_in (l3 + (2 : Int32)) sl ∧ (vp_in (l3 + (3 : Int32)) sl ∧ (∃ a1, l1 = some a1 ∧ (kd M a1 9 ∧ w105 a1 (sx (l3 + (1 : Int32)).toNatClampNeg) (sx (l3 + (2 : Int32)).toNatClampNeg) (sx (l3 + (3 : Int32)).toNatClampNeg) M (fun r3 M2 => vp_in (l3 + (1 : Int32)) sl ∧ (vp_in (l3 + (2 : Int32)) sl ∧ (vp_in (l3 + (3 : Int32)) sl ∧ (∃ a4, l2 = some a4 ∧ (kd M2 a4 10 ∧ w244 a4 (sx (l3 + (1 : Int32)).toNatClampNeg) (sx (l3 + (2 : Int32)).toNatClampNeg) (sx (l3 + (3 : Int32)).toNatClampNeg) M2 (fun r6 M5 => (r3 = r6 → (wL_1953 sl sx k18 (some a1) (some a4) l3 M5)) ∧ (¬ (r3 = r6) → ((0 : Int32) = 1))))))))))))
theorem tL_1020 {sl : Nat} {sx : Nat → Int32} {k18 : Option Nat → Option Nat → Int32 → MM → Prop} (hk : ∀ (l1 l2 : Option Nat) (l3 : Int32) (M : MM), k18 l1 l2 l3 M → RL sl sx 18 [some vS, some (vR l1), some (vR l2), some (vI l3)] [] M) (l1 : Option Nat) (l2 : Option Nat) (l3 : Int32) (M : MM) (h : wL_1020 sl sx k18 l1 l2 l3 M) : RL sl sx 1020 [some (vS), some (vR l1), some (vR l2), some (vI l3)] [] M := by
  refine RN_k (callX_det _) 6 _ _ _ _ (show vp_in (l3 + (1 : Int32)) sl ∧ RL sl sx 1026 [some (vS), some (vR l1), some (vR l2), some (vI l3)] [vI (sx (l3 + (1 : Int32)).toNatClampNeg), vR l1] M from ⟨h.1, ?_⟩)
  replace h := h.2
  refine RN_k (callX_det _) 5 _ _ _ _ (show vp_in (l3 + (2 : Int32)) sl ∧ RL sl sx 1031 [some (vS), some (vR l1), some (vR l2), some (vI l3)] [vI (sx (l3 + (2 : Int32)).toNatClampNeg), vI (sx (l3 + (1 : Int32)).toNatClampNeg), vR l1] M from ⟨h.1, ?_⟩)
  replace h := h.2
  refine RN_k (callX_det _) 5 _ _ _ _ (show vp_in (l3 + (3 : Int32)) sl ∧ RL sl sx 1036 [some (vS), some (vR l1), some (vR l2), some (vI l3)] [vI (sx (l3 + (3 : Int32)).toNatClampNeg), vI (sx (l3 + (2 : Int32)).toNatClampNeg), vI (sx (l3 + (1 : Int32)).toNatClampNeg), vR l1] M from ⟨h.1, ?_⟩)
  replace h := h.2
  obtain ⟨a1, he, h⟩ := h
  subst he
  refine RN_k (callX_det _) 1 _ _ _ _ (show kd M a1 9 ∧ callX TBg sl sx 300 105 [vR (some a1), vI (sx (l3 + (1 : Int32)).toNatClampNeg), vI (sx (l3 + (2 : Int32)).toNatClampNeg), vI (sx (l3 + (3 : Int32)).toNatClampNeg)] M (fun v M9 => RL sl sx 1039 [some (vS), some (vR (some a1)), some (vR l2), some (vI l3)] (pushO v []) M9) from ⟨h.1, ?_⟩)
  replace h := h.2
  refine callX_mono (d := 300) (c105 (d := 294) h) ?_
  clear h
  rintro v9 M2 ⟨r3, rfl, h⟩
  show RL sl sx 1039 [some (vS), some (vR (some a1)), some (vR l2), some (vI l3)] [vI r3] M2
  refine RN_k (callX_det _) 6 _ _ _ _ (show vp_in (l3 + (1 : Int32)) sl ∧ RL sl sx 1045 [some (vS), some (vR (some a1)), some (vR l2), some (vI l3)] [vI (sx (l3 + (1 : Int32)).toNatClampNeg), vR l2, vI r3] M2 from ⟨h.1, ?_⟩)
  replace h := h.2
  refine RN_k (callX_det _) 5 _ _ _ _ (show vp_in (l3 + (2 : Int32)) sl ∧ RL sl sx 1050 [some (vS), some (vR (some a1)), some (vR l2), some (vI l3)] [vI (sx (l3 + (2 : Int32)).toNatClampNeg), vI (sx (l3 + (1 : Int32)).toNatClampNeg), vR l2, vI r3] M2 from ⟨h.1, ?_⟩)
  replace h := h.2
  refine RN_k (callX_det _) 5 _ _ _ _ (show vp_in (l3 + (3 : Int32)) sl ∧ RL sl sx 1055 [some (vS), some (vR (some a1)), some (vR l2), some (vI l3)] [vI (sx (l3 + (3 : Int32)).toNatClampNeg), vI (sx (l3 + (2 : Int32)).toNatClampNeg), vI (sx (l3 + (1 : Int32)).toNatClampNeg), vR l2, vI r3] M2 from ⟨h.1, ?_⟩)
  replace h := h.2
  obtain ⟨a4, he, h⟩ := h
  subst he
  refine RN_k (callX_det _) 1 _ _ _ _ (show kd M2 a4 10 ∧ callX TBg sl sx 300 244 [vR (some a4), vI (sx (l3 + (1 : Int32)).toNatClampNeg), vI (sx (l3 + (2 : Int32)).toNatClampNeg), vI (sx (l3 + (3 : Int32)).toNatClampNeg)] M2 (fun v M9 => RL sl sx 1058 [some (vS), some (vR (some a1)), some (vR (some a4)), some (vI l3)] (pushO v [vI r3]) M9) from ⟨h.1, ?_⟩)
  replace h := h.2
  refine callX_mono (d := 300) (c244 (d := 194) h) ?_
  clear h
  rintro v9 M5 ⟨r6, rfl, h⟩
  show RL sl sx 1058 [some (vS), some (vR (some a1)), some (vR (some a4)), some (vI l3)] [vI r6, vI r3] M5
  refine RN_k (callX_det _) 1 _ _ _ _ (show (r3 = r6 → RL sl sx 1953 [some (vS), some (vR (some a1)), some (vR (some a4)), some (vI l3)] [] M5) ∧ (¬ (r3 = r6) → RL sl sx 1061 [some (vS), some (vR (some a1)), some (vR (some a4)), some (vI l3)] [] M5) from ⟨fun hc => ?_, fun hc => ?_⟩)
  · replace h := h.1 hc
    exact RN_weak (K := [some (vS), some (vR (some a1)), some (vR (some a4)), some (vI l3)]) (callX_det _) (show _ ∧ _ ∧ _ ∧ _ ∧ True from ⟨rfl, rfl, rfl, rfl, trivial⟩) (tL_1953 hk (some a1) (some a4) l3 _ h)
  · replace h := h.2 hc
    exact RN_k (callX_det _) 2 _ _ _ _ (show some (vI (0 : Int32)) = some (vI 1) from by rw [h])
def wL_957 (sl : Nat) (sx : Nat → Int32) (k18 : Option Nat → Option Nat → Int32 → MM → Prop) (l1 : Option Nat) (l2 : Option Nat) (l3 : Int32) (M : MM) : Prop := vp_in (l3 + (1 : Int32)) sl ∧ (vp_in (l3 + (2 : Int32)) sl ∧ (vp_in (l3 + (3 : Int32)) sl ∧ (vp_in (l3 + (4 : Int32)) sl ∧ (vp_in (l3 + (5 : Int32)) sl ∧ (∃ a1, l1 = some a1 ∧ (kd M a1 9 ∧ w93 a1 (sx (l3 + (1 : Int32)).toNatClampNeg) (sx (l3 + (2 : Int32)).toNatClampNeg) (sx (l3 + (3 : Int32)).toNatClampNeg) (sx (l3 + (4 : Int32)).toNatClampNeg) (sx (l3 + (5 : Int32)).toNatClampNeg) M (fun r3 M2 => vp_in (l3 + (1 : Int32)) sl ∧ (vp_in (l3 + (2 : Int32)) sl ∧ (vp_in (l3 + (3 : Int32)) sl ∧ (vp_in (l3 + (4 : Int32)) sl ∧ (vp_in (l3 + (5 : Int32)) sl ∧ (∃ a4, l2 = some a4 ∧ (kd M2 a4 10 ∧ w238 a4 (sx (l3 + (1 : Int32)).toNatClampNeg) (sx (l3 + (2 : Int32)).toNatClampNeg) (sx (l3 + (3 : Int32)).toNatClampNeg) (sx (l3 + (4 : Int32)).toNatClampNeg) (sx (l3 + (5 : Int32)).toNatClampNeg) M2 (fun r6 M5 => (r3 = r6 → (wL_1953 sl sx k18 (some a1) (some a4) l3 M5)) ∧ (¬ (r3 = r6) → ((0 : Int32) = 1))))))))))))))))
theorem tL_957 {sl : Nat} {sx : Nat → Int32} {k18 : Option Nat → Option Nat → Int32 → MM → Prop} (hk : ∀ (l1 l2 : Option Nat) (l3 : Int32) (M : MM), k18 l1 l2 l3 M → RL sl sx 18 [some vS, some (vR l1), some (vR l2), some (vI l3)] [] M) (l1 : Option Nat) (l2 : Option Nat) (l3 : Int32) (M : MM) (h : wL_957 sl sx k18 l1 l2 l3 M) : RL sl sx 957 [some (vS), some (vR l1), some (vR l2), some (vI l3)] [] M := by
  refine RN_k (callX_det _) 6 _ _ _ _ (show vp_in (l3 + (1 : Int32)) sl ∧ RL sl sx 963 [some (vS), some (vR l1), some (vR l2), some (vI l3)] [vI (sx (l3 + (1 : Int32)).toNatClampNeg), vR l1] M from ⟨h.1, ?_⟩)
  replace h := h.2
  refine RN_k (callX_det _) 5 _ _ _ _ (show vp_in (l3 + (2 : Int32)) sl ∧ RL sl sx 968 [some (vS), some (vR l1), some (vR l2), some (vI l3)] [vI (sx (l3 + (2 : Int32)).toNatClampNeg), vI (sx (l3 + (1 : Int32)).toNatClampNeg), vR l1] M from ⟨h.1, ?_⟩)
  replace h := h.2
  refine RN_k (callX_det _) 5 _ _ _ _ (show vp_in (l3 + (3 : Int32)) sl ∧ RL sl sx 973 [some (vS), some (vR l1), some (vR l2), some (vI l3)] [vI (sx (l3 + (3 : Int32)).toNatClampNeg), vI (sx (l3 + (2 : Int32)).toNatClampNeg), vI (sx (l3 + (1 : Int32)).toNatClampNeg), vR l1] M from ⟨h.1, ?_⟩)
  replace h := h.2
  refine RN_k (callX_det _) 5 _ _ _ _ (show vp_in (l3 + (4 : Int32)) sl ∧ RL sl sx 978 [some (vS), some (vR l1), some (vR l2), some (vI l3)] [vI (sx (l3 + (4 : Int32)).toNatClampNeg), vI (sx (l3 + (3 : Int32)).toNatClampNeg), vI (sx (l3 + (2 : Int32)).toNatClampNeg), vI (sx (l3 + (1 : Int32)).toNatClampNeg), vR l1] M from ⟨h.1, ?_⟩)
  replace h := h.2
  refine RN_k (callX_det _) 5 _ _ _ _ (show vp_in (l3 + (5 : Int32)) sl ∧ RL sl sx 983 [some (vS), some (vR l1), some (vR l2), some (vI l3)] [vI (sx (l3 + (5 : Int32)).toNatClampNeg), vI (sx (l3 + (4 : Int32)).toNatClampNeg), vI (sx (l3 + (3 : Int32)).toNatClampNeg), vI (sx (l3 + (2 : Int32)).toNatClampNeg), vI (sx (l3 + (1 : Int32)).toNatClampNeg), vR l1] M from ⟨h.1, ?_⟩)
  replace h := h.2
  obtain ⟨a1, he, h⟩ := h
  subst he
  refine RN_k (callX_det _) 1 _ _ _ _ (show kd M a1 9 ∧ callX TBg sl sx 300 93 [vR (some a1), vI (sx (l3 + (1 : Int32)).toNatClampNeg), vI (sx (l3 + (2 : Int32)).toNatClampNeg), vI (sx (l3 + (3 : Int32)).toNatClampNeg), vI (sx (l3 + (4 : Int32)).toNatClampNeg), vI (sx (l3 + (5 : Int32)).toNatClampNeg)] M (fun v M9 => RL sl sx 986 [some (vS), some (vR (some a1)), some (vR l2), some (vI l3)] (pushO v []) M9) from ⟨h.1, ?_⟩)
  replace h := h.2
  refine callX_mono (d := 300) (c93 (d := 294) h) ?_
  clear h
  rintro v9 M2 ⟨r3, rfl, h⟩
  show RL sl sx 986 [some (vS), some (vR (some a1)), some (vR l2), some (vI l3)] [vI r3] M2
  refine RN_k (callX_det _) 6 _ _ _ _ (show vp_in (l3 + (1 : Int32)) sl ∧ RL sl sx 992 [some (vS), some (vR (some a1)), some (vR l2), some (vI l3)] [vI (sx (l3 + (1 : Int32)).toNatClampNeg), vR l2, vI r3] M2 from ⟨h.1, ?_⟩)
  replace h := h.2
  refine RN_k (callX_det _) 5 _ _ _ _ (show vp_in (l3 + (2 : Int32)) sl ∧ RL sl sx 997 [some (vS), some (vR (some a1)), some (vR l2), some (vI l3)] [vI (sx (l3 + (2 : Int32)).toNatClampNeg), vI (sx (l3 + (1 : Int32)).toNatClampNeg), vR l2, vI r3] M2 from ⟨h.1, ?_⟩)
  replace h := h.2
  refine RN_k (callX_det _) 5 _ _ _ _ (show vp_in (l3 + (3 : Int32)) sl ∧ RL sl sx 1002 [some (vS), some (vR (some a1)), some (vR l2), some (vI l3)] [vI (sx (l3 + (3 : Int32)).toNatClampNeg), vI (sx (l3 + (2 : Int32)).toNatClampNeg), vI (sx (l3 + (1 : Int32)).toNatClampNeg), vR l2, vI r3] M2 from ⟨h.1, ?_⟩)
  replace h := h.2
  refine RN_k (callX_det _) 5 _ _ _ _ (show vp_in (l3 + (4 : Int32)) sl ∧ RL sl sx 1007 [some (vS), some (vR (some a1)), some (vR l2), some (vI l3)] [vI (sx (l3 + (4 : Int32)).toNatClampNeg), vI (sx (l3 + (3 : Int32)).toNatClampNeg), vI (sx (l3 + (2 : Int32)).toNatClampNeg), vI (sx (l3 + (1 : Int32)).toNatClampNeg), vR l2, vI r3] M2 from ⟨h.1, ?_⟩)
  replace h := h.2
  refine RN_k (callX_det _) 5 _ _ _ _ (show vp_in (l3 + (5 : Int32)) sl ∧ RL sl sx 1012 [some (vS), some (vR (some a1)), some (vR l2), some (vI l3)] [vI (sx (l3 + (5 : Int32)).toNatClampNeg), vI (sx (l3 + (4 : Int32)).toNatClampNeg), vI (sx (l3 + (3 : Int32)).toNatClampNeg), vI (sx (l3 + (2 : Int32)).toNatClampNeg), vI (sx (l3 + (1 : Int32)).toNatClampNeg), vR l2, vI r3] M2 from ⟨h.1, ?_⟩)
  replace h := h.2
  obtain ⟨a4, he, h⟩ := h
  subst he
  refine RN_k (callX_det _) 1 _ _ _ _ (show kd M2 a4 10 ∧ callX TBg sl sx 300 238 [vR (some a4), vI (sx (l3 + (1 : Int32)).toNatClampNeg), vI (sx (l3 + (2 : Int32)).toNatClampNeg), vI (sx (l3 + (3 : Int32)).toNatClampNeg), vI (sx (l3 + (4 : Int32)).toNatClampNeg), vI (sx (l3 + (5 : Int32)).toNatClampNeg)] M2 (fun v M9 => RL sl sx 1015 [some (vS), some (vR (some a1)), some (vR (some a4)), some (vI l3)] (pushO v [vI r3]) M9) from ⟨h.1, ?_⟩)
  replace h := h.2
  refine callX_mono (d := 300) (c238 (d := 290) h) ?_
  clear h
  rintro v9 M5 ⟨r6, rfl, h⟩
  show RL sl sx 1015 [some (vS), some (vR (some a1)), some (vR (some a4)), some (vI l3)] [vI r6, vI r3] M5
  refine RN_k (callX_det _) 1 _ _ _ _ (show (r3 = r6 → RL sl sx 1953 [some (vS), some (vR (some a1)), some (vR (some a4)), some (vI l3)] [] M5) ∧ (¬ (r3 = r6) → RL sl sx 1018 [some (vS), some (vR (some a1)), some (vR (some a4)), some (vI l3)] [] M5) from ⟨fun hc => ?_, fun hc => ?_⟩)
  · replace h := h.1 hc
    exact RN_weak (K := [some (vS), some (vR (some a1)), some (vR (some a4)), some (vI l3)]) (callX_det _) (show _ ∧ _ ∧ _ ∧ _ ∧ True from ⟨rfl, rfl, rfl, rfl, trivial⟩) (tL_1953 hk (some a1) (some a4) l3 _ h)
  · replace h := h.2 hc
    exact RN_k (callX_det _) 2 _ _ _ _ (show some (vI (0 : Int32)) = some (vI 1) from by rw [h])
def wL_894 (sl : Nat) (sx : Nat → Int32) (k18 : Option Nat → Option Nat → Int32 → MM → Prop) (l1 : Option Nat) (l2 : Option Nat) (l3 : Int32) (M : MM) : Prop := vp_in (l3 + (1 : Int32)) sl ∧ (vp_in (l3 + (2 : Int32)) sl ∧ (vp_in (l3 + (3 : Int32)) sl ∧ (vp_in (l3 + (4 : Int32)) sl ∧ (vp_in (l3 + (5 : Int32)) sl ∧ (∃ a1, l1 = some a1 ∧ (kd M a1 9 ∧ w91 a1 (sx (l3 + (1 : Int32)).toNatClampNeg) (sx (l3 + (2 : Int32)).toNatClampNeg) (sx (l3 + (3 : Int32)).toNatClampNeg) (sx (l3 + (4 : Int32)).toNatClampNeg) (sx (l3 + (5 : Int32)).toNatClampNeg) M (fun r3 M2 => vp_in (l3 + (1 : Int32)) sl ∧ (vp_in (l3 + (2 : Int32)) sl ∧ (vp_in (l3 + (3 : Int32)) sl ∧ (vp_in (l3 + (4 : Int32)) sl ∧ (vp_in (l3 + (5 : Int32)) sl ∧ (∃ a4, l2 = some a4 ∧ (kd M2 a4 10 ∧ w236 a4 (sx (l3 + (1 : Int32)).toNatClampNeg) (sx (l3 + (2 : Int32)).toNatClampNeg) (sx (l3 + (3 : Int32)).toNatClampNeg) (sx (l3 + (4 : Int32)).toNatClampNeg) (sx (l3 + (5 : Int32)).toNatClampNeg) M2 (fun r6 M5 => (r3 = r6 → (wL_1953 sl sx k18 (some a1) (some a4) l3 M5)) ∧ (¬ (r3 = r6) → ((0 : Int32) = 1))))))))))))))))
theorem tL_894 {sl : Nat} {sx : Nat → Int32} {k18 : Option Nat → Option Nat → Int32 → MM → Prop} (hk : ∀ (l1 l2 : Option Nat) (l3 : Int32) (M : MM), k18 l1 l2 l3 M → RL sl sx 18 [some vS, some (vR l1), some (vR l2), some (vI l3)] [] M) (l1 : Option Nat) (l2 : Option Nat) (l3 : Int32) (M : MM) (h : wL_894 sl sx k18 l1 l2 l3 M) : RL sl sx 894 [some (vS), some (vR l1), some (vR l2), some (vI l3)] [] M := by
  refine RN_k (callX_det _) 6 _ _ _ _ (show vp_in (l3 + (1 : Int32)) sl ∧ RL sl sx 900 [some (vS), some (vR l1), some (vR l2), some (vI l3)] [vI (sx (l3 + (1 : Int32)).toNatClampNeg), vR l1] M from ⟨h.1, ?_⟩)
  replace h := h.2
  refine RN_k (callX_det _) 5 _ _ _ _ (show vp_in (l3 + (2 : Int32)) sl ∧ RL sl sx 905 [some (vS), some (vR l1), some (vR l2), some (vI l3)] [vI (sx (l3 + (2 : Int32)).toNatClampNeg), vI (sx (l3 + (1 : Int32)).toNatClampNeg), vR l1] M from ⟨h.1, ?_⟩)
  replace h := h.2
  refine RN_k (callX_det _) 5 _ _ _ _ (show vp_in (l3 + (3 : Int32)) sl ∧ RL sl sx 910 [some (vS), some (vR l1), some (vR l2), some (vI l3)] [vI (sx (l3 + (3 : Int32)).toNatClampNeg), vI (sx (l3 + (2 : Int32)).toNatClampNeg), vI (sx (l3 + (1 : Int32)).toNatClampNeg), vR l1] M from ⟨h.1, ?_⟩)
  replace h := h.2
  refine RN_k (callX_det _) 5 _ _ _ _ (show vp_in (l3 + (4 : Int32)) sl ∧ RL sl sx 915 [some (vS), some (vR l1), some (vR l2), some (vI l3)] [vI (sx (l3 + (4 : Int32)).toNatClampNeg), vI (sx (l3 + (3 : Int32)).toNatClampNeg), vI (sx (l3 + (2 : Int32)).toNatClampNeg), vI (sx (l3 + (1 : Int32)).toNatClampNeg), vR l1] M from ⟨h.1, ?_⟩)
  replace h := h.2
  refine RN_k (callX_det _) 5 _ _ _ _ (show vp_in (l3 + (5 : Int32)) sl ∧ RL sl sx 920 [some (vS), some (vR l1), some (vR l2), some (vI l3)] [vI (sx (l3 + (5 : Int32)).toNatClampNeg), vI (sx (l3 + (4 : Int32)).toNatClampNeg), vI (sx (l3 + (3 : Int32)).toNatClampNeg), vI (sx (l3 + (2 : Int32)).toNatClampNeg), vI (sx (l3 + (1 : Int32)).toNatClampNeg), vR l1] M from ⟨h.1, ?_⟩)
  replace h := h.2
  obtain ⟨a1, he, h⟩ := h
  subst he
  refine RN_k (callX_det _) 1 _ _ _ _ (show kd M a1 9 ∧ callX TBg sl sx 300 91 [vR (some a1), vI (sx (l3 + (1 : Int32)).toNatClampNeg), vI (sx (l3 + (2 : Int32)).toNatClampNeg), vI (sx (l3 + (3 : Int32)).toNatClampNeg), vI (sx (l3 + (4 : Int32)).toNatClampNeg), vI (sx (l3 + (5 : Int32)).toNatClampNeg)] M (fun v M9 => RL sl sx 923 [some (vS), some (vR (some a1)), some (vR l2), some (vI l3)] (pushO v []) M9) from ⟨h.1, ?_⟩)
  replace h := h.2
  refine callX_mono (d := 300) (c91 (d := 294) h) ?_
  clear h
  rintro v9 M2 ⟨r3, rfl, h⟩
  show RL sl sx 923 [some (vS), some (vR (some a1)), some (vR l2), some (vI l3)] [vI r3] M2
  refine RN_k (callX_det _) 6 _ _ _ _ (show vp_in (l3 + (1 : Int32)) sl ∧ RL sl sx 929 [some (vS), some (vR (some a1)), some (vR l2), some (vI l3)] [vI (sx (l3 + (1 : Int32)).toNatClampNeg), vR l2, vI r3] M2 from ⟨h.1, ?_⟩)
  replace h := h.2
  refine RN_k (callX_det _) 5 _ _ _ _ (show vp_in (l3 + (2 : Int32)) sl ∧ RL sl sx 934 [some (vS), some (vR (some a1)), some (vR l2), some (vI l3)] [vI (sx (l3 + (2 : Int32)).toNatClampNeg), vI (sx (l3 + (1 : Int32)).toNatClampNeg), vR l2, vI r3] M2 from ⟨h.1, ?_⟩)
  replace h := h.2
  refine RN_k (callX_det _) 5 _ _ _ _ (show vp_in (l3 + (3 : Int32)) sl ∧ RL sl sx 939 [some (vS), some (vR (some a1)), some (vR l2), some (vI l3)] [vI (sx (l3 + (3 : Int32)).toNatClampNeg), vI (sx (l3 + (2 : Int32)).toNatClampNeg), vI (sx (l3 + (1 : Int32)).toNatClampNeg), vR l2, vI r3] M2 from ⟨h.1, ?_⟩)
  replace h := h.2
  refine RN_k (callX_det _) 5 _ _ _ _ (show vp_in (l3 + (4 : Int32)) sl ∧ RL sl sx 944 [some (vS), some (vR (some a1)), some (vR l2), some (vI l3)] [vI (sx (l3 + (4 : Int32)).toNatClampNeg), vI (sx (l3 + (3 : Int32)).toNatClampNeg), vI (sx (l3 + (2 : Int32)).toNatClampNeg), vI (sx (l3 + (1 : Int32)).toNatClampNeg), vR l2, vI r3] M2 from ⟨h.1, ?_⟩)
  replace h := h.2
  refine RN_k (callX_det _) 5 _ _ _ _ (show vp_in (l3 + (5 : Int32)) sl ∧ RL sl sx 949 [some (vS), some (vR (some a1)), some (vR l2), some (vI l3)] [vI (sx (l3 + (5 : Int32)).toNatClampNeg), vI (sx (l3 + (4 : Int32)).toNatClampNeg), vI (sx (l3 + (3 : Int32)).toNatClampNeg), vI (sx (l3 + (2 : Int32)).toNatClampNeg), vI (sx (l3 + (1 : Int32)).toNatClampNeg), vR l2, vI r3] M2 from ⟨h.1, ?_⟩)
  replace h := h.2
  obtain ⟨a4, he, h⟩ := h
  subst he
  refine RN_k (callX_det _) 1 _ _ _ _ (show kd M2 a4 10 ∧ callX TBg sl sx 300 236 [vR (some a4), vI (sx (l3 + (1 : Int32)).toNatClampNeg), vI (sx (l3 + (2 : Int32)).toNatClampNeg), vI (sx (l3 + (3 : Int32)).toNatClampNeg), vI (sx (l3 + (4 : Int32)).toNatClampNeg), vI (sx (l3 + (5 : Int32)).toNatClampNeg)] M2 (fun v M9 => RL sl sx 952 [some (vS), some (vR (some a1)), some (vR (some a4)), some (vI l3)] (pushO v [vI r3]) M9) from ⟨h.1, ?_⟩)
  replace h := h.2
  refine callX_mono (d := 300) (c236 (d := 291) h) ?_
  clear h
  rintro v9 M5 ⟨r6, rfl, h⟩
  show RL sl sx 952 [some (vS), some (vR (some a1)), some (vR (some a4)), some (vI l3)] [vI r6, vI r3] M5
  refine RN_k (callX_det _) 1 _ _ _ _ (show (r3 = r6 → RL sl sx 1953 [some (vS), some (vR (some a1)), some (vR (some a4)), some (vI l3)] [] M5) ∧ (¬ (r3 = r6) → RL sl sx 955 [some (vS), some (vR (some a1)), some (vR (some a4)), some (vI l3)] [] M5) from ⟨fun hc => ?_, fun hc => ?_⟩)
  · replace h := h.1 hc
    exact RN_weak (K := [some (vS), some (vR (some a1)), some (vR (some a4)), some (vI l3)]) (callX_det _) (show _ ∧ _ ∧ _ ∧ _ ∧ True from ⟨rfl, rfl, rfl, rfl, trivial⟩) (tL_1953 hk (some a1) (some a4) l3 _ h)
  · replace h := h.2 hc
    exact RN_k (callX_det _) 2 _ _ _ _ (show some (vI (0 : Int32)) = some (vI 1) from by rw [h])
def wL_864 (sl : Nat) (sx : Nat → Int32) (k18 : Option Nat → Option Nat → Int32 → MM → Prop) (l1 : Option Nat) (l2 : Option Nat) (l3 : Int32) (s0 : Int32) (s1 : Option Nat) (s2 : Int32) (s3 : Int32) (s4 : Int32) (M : MM) : Prop := vp_in (l3 + (4 : Int32)) sl ∧ (vp_in (l3 + (5 : Int32)) sl ∧ (vp_in (l3 + (6 : Int32)) sl ∧ (vp_in (l3 + (7 : Int32)) sl ∧ (∃ a1, s1 = some a1 ∧ (kd M a1 10 ∧ w229 a1 s2 s3 s4 (sx (l3 + (4 : Int32)).toNatClampNeg) (sx (l3 + (5 : Int32)).toNatClampNeg) (sx (l3 + (6 : Int32)).toNatClampNeg) (sx (l3 + (7 : Int32)).toNatClampNeg) M (fun r3 M2 => (s0 = r3 → (wL_1953 sl sx k18 l1 l2 l3 M2)) ∧ (¬ (s0 = r3) → ((0 : Int32) = 1))))))))
theorem tL_864 {sl : Nat} {sx : Nat → Int32} {k18 : Option Nat → Option Nat → Int32 → MM → Prop} (hk : ∀ (l1 l2 : Option Nat) (l3 : Int32) (M : MM), k18 l1 l2 l3 M → RL sl sx 18 [some vS, some (vR l1), some (vR l2), some (vI l3)] [] M) (l1 : Option Nat) (l2 : Option Nat) (l3 : Int32) (s0 : Int32) (s1 : Option Nat) (s2 : Int32) (s3 : Int32) (s4 : Int32) (M : MM) (h : wL_864 sl sx k18 l1 l2 l3 s0 s1 s2 s3 s4 M) : RL sl sx 864 [some (vS), some (vR l1), some (vR l2), some (vI l3)] [vI s4, vI s3, vI s2, vR s1, vI s0] M := by
  refine RN_k (callX_det _) 5 _ _ _ _ (show vp_in (l3 + (4 : Int32)) sl ∧ RL sl sx 869 [some (vS), some (vR l1), some (vR l2), some (vI l3)] [vI (sx (l3 + (4 : Int32)).toNatClampNeg), vI s4, vI s3, vI s2, vR s1, vI s0] M from ⟨h.1, ?_⟩)
  replace h := h.2
  refine RN_k (callX_det _) 5 _ _ _ _ (show vp_in (l3 + (5 : Int32)) sl ∧ RL sl sx 874 [some (vS), some (vR l1), some (vR l2), some (vI l3)] [vI (sx (l3 + (5 : Int32)).toNatClampNeg), vI (sx (l3 + (4 : Int32)).toNatClampNeg), vI s4, vI s3, vI s2, vR s1, vI s0] M from ⟨h.1, ?_⟩)
  replace h := h.2
  refine RN_k (callX_det _) 5 _ _ _ _ (show vp_in (l3 + (6 : Int32)) sl ∧ RL sl sx 880 [some (vS), some (vR l1), some (vR l2), some (vI l3)] [vI (sx (l3 + (6 : Int32)).toNatClampNeg), vI (sx (l3 + (5 : Int32)).toNatClampNeg), vI (sx (l3 + (4 : Int32)).toNatClampNeg), vI s4, vI s3, vI s2, vR s1, vI s0] M from ⟨h.1, ?_⟩)
  replace h := h.2
  refine RN_k (callX_det _) 5 _ _ _ _ (show vp_in (l3 + (7 : Int32)) sl ∧ RL sl sx 886 [some (vS), some (vR l1), some (vR l2), some (vI l3)] [vI (sx (l3 + (7 : Int32)).toNatClampNeg), vI (sx (l3 + (6 : Int32)).toNatClampNeg), vI (sx (l3 + (5 : Int32)).toNatClampNeg), vI (sx (l3 + (4 : Int32)).toNatClampNeg), vI s4, vI s3, vI s2, vR s1, vI s0] M from ⟨h.1, ?_⟩)
  replace h := h.2
  obtain ⟨a1, he, h⟩ := h
  subst he
  refine RN_k (callX_det _) 1 _ _ _ _ (show kd M a1 10 ∧ callX TBg sl sx 300 229 [vR (some a1), vI s2, vI s3, vI s4, vI (sx (l3 + (4 : Int32)).toNatClampNeg), vI (sx (l3 + (5 : Int32)).toNatClampNeg), vI (sx (l3 + (6 : Int32)).toNatClampNeg), vI (sx (l3 + (7 : Int32)).toNatClampNeg)] M (fun v M9 => RL sl sx 889 [some (vS), some (vR l1), some (vR l2), some (vI l3)] (pushO v [vI s0]) M9) from ⟨h.1, ?_⟩)
  replace h := h.2
  refine callX_mono (d := 300) (c229 (d := 291) h) ?_
  clear h
  rintro v9 M2 ⟨r3, rfl, h⟩
  show RL sl sx 889 [some (vS), some (vR l1), some (vR l2), some (vI l3)] [vI r3, vI s0] M2
  refine RN_k (callX_det _) 1 _ _ _ _ (show (s0 = r3 → RL sl sx 1953 [some (vS), some (vR l1), some (vR l2), some (vI l3)] [] M2) ∧ (¬ (s0 = r3) → RL sl sx 892 [some (vS), some (vR l1), some (vR l2), some (vI l3)] [] M2) from ⟨fun hc => ?_, fun hc => ?_⟩)
  · replace h := h.1 hc
    exact RN_weak (K := [some (vS), some (vR l1), some (vR l2), some (vI l3)]) (callX_det _) (show _ ∧ _ ∧ _ ∧ _ ∧ True from ⟨rfl, rfl, rfl, rfl, trivial⟩) (tL_1953 hk l1 l2 l3 _ h)
  · replace h := h.2 hc
    exact RN_k (callX_det _) 2 _ _ _ _ (show some (vI (0 : Int32)) = some (vI 1) from by rw [h])
def wL_815 (sl : Nat) (sx : Nat → Int32) (k18 : Option Nat → Option Nat → Int32 → MM → Prop) (l1 : Option Nat) (l2 : Option Nat) (l3 : Int32) (s0 : Option Nat) (s1 : Int32) (s2 : Int32) (s3 : Int32) (M : MM) : Prop := vp_in (l3 + (4 : Int32)) sl ∧ (vp_in (l3 + (5 : Int32)) sl ∧ (vp_in (l3 + (6 : Int32)) sl ∧ (vp_in (l3 + (7 : Int32)) sl ∧ (∃ a1, s0 = some a1 ∧ (kd M a1 9 ∧ w90 a1 s1 s2 s3 (sx (l3 + (4 : Int32)).toNatClampNeg) (sx (l3 + (5 : Int32)).toNatClampNeg) (sx (l3 + (6 : Int32)).toNatClampNeg) (sx (l3 + (7 : Int32)).toNatClampNeg) M (fun r3 M2 => vp_in (l3 + (1 : Int32)) sl ∧ (vp_in (l3 + (2 : Int32)) sl ∧ (vp_in (l3 + (3 : Int32)) sl ∧ (((sx (l3 + (3 : Int32)).toNatClampNeg) = 0 → (wL_864 sl sx k18 l1 l2 l3 r3 l2 (sx (l3 + (1 : Int32)).toNatClampNeg) (sx (l3 + (2 : Int32)).toNatClampNeg) (0 : Int32) M2)) ∧ (¬ ((sx (l3 + (3 : Int32)).toNatClampNeg) = 0) → (wL_864 sl sx k18 l1 l2 l3 r3 l2 (sx (l3 + (1 : Int32)).toNatClampNeg) (sx (l3 + (2 : Int32)).toNatClampNeg) (1 : Int32) M2)))))))))))
theorem tL_815 {sl : Nat} {sx : Nat → Int32} {k18 : Option Nat → Option Nat → Int32 → MM → Prop} (hk : ∀ (l1 l2 : Option Nat) (l3 : Int32) (M : MM), k18 l1 l2 l3 M → RL sl sx 18 [some vS, some (vR l1), some (vR l2), some (vI l3)] [] M) (l1 : Option Nat) (l2 : Option Nat) (l3 : Int32) (s0 : Option Nat) (s1 : Int32) (s2 : Int32) (s3 : Int32) (M : MM) (h : wL_815 sl sx k18 l1 l2 l3 s0 s1 s2 s3 M) : RL sl sx 815 [some (vS), some (vR l1), some (vR l2), some (vI l3)] [vI s3, vI s2, vI s1, vR s0] M := by
  refine RN_k (callX_det _) 5 _ _ _ _ (show vp_in (l3 + (4 : Int32)) sl ∧ RL sl sx 820 [some (vS), some (vR l1), some (vR l2), some (vI l3)] [vI (sx (l3 + (4 : Int32)).toNatClampNeg), vI s3, vI s2, vI s1, vR s0] M from ⟨h.1, ?_⟩)
  replace h := h.2
  refine RN_k (callX_det _) 5 _ _ _ _ (show vp_in (l3 + (5 : Int32)) sl ∧ RL sl sx 825 [some (vS), some (vR l1), some (vR l2), some (vI l3)] [vI (sx (l3 + (5 : Int32)).toNatClampNeg), vI (sx (l3 + (4 : Int32)).toNatClampNeg), vI s3, vI s2, vI s1, vR s0] M from ⟨h.1, ?_⟩)
  replace h := h.2
  refine RN_k (callX_det _) 5 _ _ _ _ (show vp_in (l3 + (6 : Int32)) sl ∧ RL sl sx 831 [some (vS), some (vR l1), some (vR l2), some (vI l3)] [vI (sx (l3 + (6 : Int32)).toNatClampNeg), vI (sx (l3 + (5 : Int32)).toNatClampNeg), vI (sx (l3 + (4 : Int32)).toNatClampNeg), vI s3, vI s2, vI s1, vR s0] M from ⟨h.1, ?_⟩)
  replace h := h.2
  refine RN_k (callX_det _) 5 _ _ _ _ (show vp_in (l3 + (7 : Int32)) sl ∧ RL sl sx 837 [some (vS), some (vR l1), some (vR l2), some (vI l3)] [vI (sx (l3 + (7 : Int32)).toNatClampNeg), vI (sx (l3 + (6 : Int32)).toNatClampNeg), vI (sx (l3 + (5 : Int32)).toNatClampNeg), vI (sx (l3 + (4 : Int32)).toNatClampNeg), vI s3, vI s2, vI s1, vR s0] M from ⟨h.1, ?_⟩)
  replace h := h.2
  obtain ⟨a1, he, h⟩ := h
  subst he
  refine RN_k (callX_det _) 1 _ _ _ _ (show kd M a1 9 ∧ callX TBg sl sx 300 90 [vR (some a1), vI s1, vI s2, vI s3, vI (sx (l3 + (4 : Int32)).toNatClampNeg), vI (sx (l3 + (5 : Int32)).toNatClampNeg), vI (sx (l3 + (6 : Int32)).toNatClampNeg), vI (sx (l3 + (7 : Int32)).toNatClampNeg)] M (fun v M9 => RL sl sx 840 [some (vS), some (vR l1), some (vR l2), some (vI l3)] (pushO v []) M9) from ⟨h.1, ?_⟩)
  replace h := h.2
  refine callX_mono (d := 300) (c90 (d := 293) h) ?_
  clear h
  rintro v9 M2 ⟨r3, rfl, h⟩
  show RL sl sx 840 [some (vS), some (vR l1), some (vR l2), some (vI l3)] [vI r3] M2
  refine RN_k (callX_det _) 6 _ _ _ _ (show vp_in (l3 + (1 : Int32)) sl ∧ RL sl sx 846 [some (vS), some (vR l1), some (vR l2), some (vI l3)] [vI (sx (l3 + (1 : Int32)).toNatClampNeg), vR l2, vI r3] M2 from ⟨h.1, ?_⟩)
  replace h := h.2
  refine RN_k (callX_det _) 5 _ _ _ _ (show vp_in (l3 + (2 : Int32)) sl ∧ RL sl sx 851 [some (vS), some (vR l1), some (vR l2), some (vI l3)] [vI (sx (l3 + (2 : Int32)).toNatClampNeg), vI (sx (l3 + (1 : Int32)).toNatClampNeg), vR l2, vI r3] M2 from ⟨h.1, ?_⟩)
  replace h := h.2
  refine RN_k (callX_det _) 5 _ _ _ _ (show vp_in (l3 + (3 : Int32)) sl ∧ RL sl sx 856 [some (vS), some (vR l1), some (vR l2), some (vI l3)] [vI (sx (l3 + (3 : Int32)).toNatClampNeg), vI (sx (l3 + (2 : Int32)).toNatClampNeg), vI (sx (l3 + (1 : Int32)).toNatClampNeg), vR l2, vI r3] M2 from ⟨h.1, ?_⟩)
  replace h := h.2
  refine RN_k (callX_det _) 1 _ _ _ _ (show ((sx (l3 + (3 : Int32)).toNatClampNeg) = 0 → RL sl sx 863 [some (vS), some (vR l1), some (vR l2), some (vI l3)] [vI (sx (l3 + (2 : Int32)).toNatClampNeg), vI (sx (l3 + (1 : Int32)).toNatClampNeg), vR l2, vI r3] M2) ∧ (¬ ((sx (l3 + (3 : Int32)).toNatClampNeg) = 0) → RL sl sx 859 [some (vS), some (vR l1), some (vR l2), some (vI l3)] [vI (sx (l3 + (2 : Int32)).toNatClampNeg), vI (sx (l3 + (1 : Int32)).toNatClampNeg), vR l2, vI r3] M2) from ⟨fun hc => ?_, fun hc => ?_⟩)
  · replace h := h.1 hc
    refine RN_k (callX_det _) 1 _ _ _ _ (show RL sl sx 864 [some (vS), some (vR l1), some (vR l2), some (vI l3)] [vI (0 : Int32), vI (sx (l3 + (2 : Int32)).toNatClampNeg), vI (sx (l3 + (1 : Int32)).toNatClampNeg), vR l2, vI r3] M2 from ?_)
    exact RN_weak (K := [some (vS), some (vR l1), some (vR l2), some (vI l3)]) (callX_det _) (show _ ∧ _ ∧ _ ∧ _ ∧ True from ⟨rfl, rfl, rfl, rfl, trivial⟩) (tL_864 hk l1 l2 l3 r3 l2 (sx (l3 + (1 : Int32)).toNatClampNeg) (sx (l3 + (2 : Int32)).toNatClampNeg) (0 : Int32) _ h)
  · replace h := h.2 hc
    refine RN_k (callX_det _) 2 _ _ _ _ (show RL sl sx 864 [some (vS), some (vR l1), some (vR l2), some (vI l3)] [vI (1 : Int32), vI (sx (l3 + (2 : Int32)).toNatClampNeg), vI (sx (l3 + (1 : Int32)).toNatClampNeg), vR l2, vI r3] M2 from ?_)
    exact RN_weak (K := [some (vS), some (vR l1), some (vR l2), some (vI l3)]) (callX_det _) (show _ ∧ _ ∧ _ ∧ _ ∧ True from ⟨rfl, rfl, rfl, rfl, trivial⟩) (tL_864 hk l1 l2 l3 r3 l2 (sx (l3 + (1 : Int32)).toNatClampNeg) (sx (l3 + (2 : Int32)).toNatClampNeg) (1 : Int32) _ h)
def wL_791 (sl : Nat) (sx : Nat → Int32) (k18 : Option Nat → Option Nat → Int32 → MM → Prop) (l1 : Option Nat) (l2 : Option Nat) (l3 : Int32) (M : MM) : Prop := vp_in (l3 + (1 : Int32)) sl ∧ (vp_in (l3 + (2 : Int32)) sl ∧ (vp_in (l3 + (3 : Int32)) sl ∧ (((sx (l3 + (3 : Int32)).toNatClampNeg) = 0 → (wL_815 sl sx k18 l1 l2 l3 l1 (sx (l3 + (1 : Int32)).toNatClampNeg) (sx (l3 + (2 : Int32)).toNatClampNeg) (0 : Int32) M)) ∧ (¬ ((sx (l3 + (3 : Int32)).toNatClampNeg) = 0) → (wL_815 sl sx k18 l1 l2 l3 l1 (sx (l3 + (1 : Int32)).toNatClampNeg) (sx (l3 + (2 : Int32)).toNatClampNeg) (1 : Int32) M)))))
theorem tL_791 {sl : Nat} {sx : Nat → Int32} {k18 : Option Nat → Option Nat → Int32 → MM → Prop} (hk : ∀ (l1 l2 : Option Nat) (l3 : Int32) (M : MM), k18 l1 l2 l3 M → RL sl sx 18 [some vS, some (vR l1), some (vR l2), some (vI l3)] [] M) (l1 : Option Nat) (l2 : Option Nat) (l3 : Int32) (M : MM) (h : wL_791 sl sx k18 l1 l2 l3 M) : RL sl sx 791 [some (vS), some (vR l1), some (vR l2), some (vI l3)] [] M := by
  refine RN_k (callX_det _) 6 _ _ _ _ (show vp_in (l3 + (1 : Int32)) sl ∧ RL sl sx 797 [some (vS), some (vR l1), some (vR l2), some (vI l3)] [vI (sx (l3 + (1 : Int32)).toNatClampNeg), vR l1] M from ⟨h.1, ?_⟩)
  replace h := h.2
  refine RN_k (callX_det _) 5 _ _ _ _ (show vp_in (l3 + (2 : Int32)) sl ∧ RL sl sx 802 [some (vS), some (vR l1), some (vR l2), some (vI l3)] [vI (sx (l3 + (2 : Int32)).toNatClampNeg), vI (sx (l3 + (1 : Int32)).toNatClampNeg), vR l1] M from ⟨h.1, ?_⟩)
  replace h := h.2
  refine RN_k (callX_det _) 5 _ _ _ _ (show vp_in (l3 + (3 : Int32)) sl ∧ RL sl sx 807 [some (vS), some (vR l1), some (vR l2), some (vI l3)] [vI (sx (l3 + (3 : Int32)).toNatClampNeg), vI (sx (l3 + (2 : Int32)).toNatClampNeg), vI (sx (l3 + (1 : Int32)).toNatClampNeg), vR l1] M from ⟨h.1, ?_⟩)
  replace h := h.2
  refine RN_k (callX_det _) 1 _ _ _ _ (show ((sx (l3 + (3 : Int32)).toNatClampNeg) = 0 → RL sl sx 814 [some (vS), some (vR l1), some (vR l2), some (vI l3)] [vI (sx (l3 + (2 : Int32)).toNatClampNeg), vI (sx (l3 + (1 : Int32)).toNatClampNeg), vR l1] M) ∧ (¬ ((sx (l3 + (3 : Int32)).toNatClampNeg) = 0) → RL sl sx 810 [some (vS), some (vR l1), some (vR l2), some (vI l3)] [vI (sx (l3 + (2 : Int32)).toNatClampNeg), vI (sx (l3 + (1 : Int32)).toNatClampNeg), vR l1] M) from ⟨fun hc => ?_, fun hc => ?_⟩)
  · replace h := h.1 hc
    refine RN_k (callX_det _) 1 _ _ _ _ (show RL sl sx 815 [some (vS), some (vR l1), some (vR l2), some (vI l3)] [vI (0 : Int32), vI (sx (l3 + (2 : Int32)).toNatClampNeg), vI (sx (l3 + (1 : Int32)).toNatClampNeg), vR l1] M from ?_)
    exact RN_weak (K := [some (vS), some (vR l1), some (vR l2), some (vI l3)]) (callX_det _) (show _ ∧ _ ∧ _ ∧ _ ∧ True from ⟨rfl, rfl, rfl, rfl, trivial⟩) (tL_815 hk l1 l2 l3 l1 (sx (l3 + (1 : Int32)).toNatClampNeg) (sx (l3 + (2 : Int32)).toNatClampNeg) (0 : Int32) _ h)
  · replace h := h.2 hc
    refine RN_k (callX_det _) 2 _ _ _ _ (show RL sl sx 815 [some (vS), some (vR l1), some (vR l2), some (vI l3)] [vI (1 : Int32), vI (sx (l3 + (2 : Int32)).toNatClampNeg), vI (sx (l3 + (1 : Int32)).toNatClampNeg), vR l1] M from ?_)
    exact RN_weak (K := [some (vS), some (vR l1), some (vR l2), some (vI l3)]) (callX_det _) (show _ ∧ _ ∧ _ ∧ _ ∧ True from ⟨rfl, rfl, rfl, rfl, trivial⟩) (tL_815 hk l1 l2 l3 l1 (sx (l3 + (1 : Int32)).toNatClampNeg) (sx (l3 + (2 : Int32)).toNatClampNeg) (1 : Int32) _ h)
def wL_755 (sl : Nat) (sx : Nat → Int32) (k18 : Option Nat → Option Nat → Int32 → MM → Prop) (l1 : Option Nat) (l2 : Option Nat) (l3 : Int32) (s0 : Int32) (s1 : Option Nat) (s2 : Int32) (s3 : Int32) (s4 : Int32) (M : MM) : Prop := vp_in (l3 + (4 : Int32)) sl ∧ (vp_in (l3 + (5 : Int32)) sl ∧ (vp_in (l3 + (6 : Int32)) sl ∧ (vp_in (l3 + (7 : Int32)) sl ∧ (vp_in (l3 + (8 : Int32)) sl ∧ (∃ a1, s1 = some a1 ∧ (kd M a1 10 ∧ w208 a1 s2 s3 s4 (sx (l3 + (4 : Int32)).toNatClampNeg) (sx (l3 + (5 : Int32)).toNatClampNeg) (sx (l3 + (6 : Int32)).toNatClampNeg) (sx (l3 + (7 : Int32)).toNatClampNeg) (sx (l3 + (8 : Int32)).toNatClampNeg) M (fun r3 M2 => (s0 = r3 → (wL_1953 sl sx k18 l1 l2 l3 M2)) ∧ (¬ (s0 = r3) → ((0 : Int32) = 1)))))))))
theorem tL_755 {sl : Nat} {sx : Nat → Int32} {k18 : Option Nat → Option Nat → Int32 → MM → Prop} (hk : ∀ (l1 l2 : Option Nat) (l3 : Int32) (M : MM), k18 l1 l2 l3 M → RL sl sx 18 [some vS, some (vR l1), some (vR l2), some (vI l3)] [] M) (l1 : Option Nat) (l2 : Option Nat) (l3 : Int32) (s0 : Int32) (s1 : Option Nat) (s2 : Int32) (s3 : Int32) (s4 : Int32) (M : MM) (h : wL_755 sl sx k18 l1 l2 l3 s0 s1 s2 s3 s4 M) : RL sl sx 755 [some (vS), some (vR l1), some (vR l2), some (vI l3)] [vI s4, vI s3, vI s2, vR s1, vI s0] M := by
  refine RN_k (callX_det _) 5 _ _ _ _ (show vp_in (l3 + (4 : Int32)) sl ∧ RL sl sx 760 [some (vS), some (vR l1), some (vR l2), some (vI l3)] [vI (sx (l3 + (4 : Int32)).toNatClampNeg), vI s4, vI s3, vI s2, vR s1, vI s0] M from ⟨h.1, ?_⟩)
  replace h := h.2
  refine RN_k (callX_det _) 5 _ _ _ _ (show vp_in (l3 + (5 : Int32)) sl ∧ RL sl sx 765 [some (vS), some (vR l1), some (vR l2), some (vI l3)] [vI (sx (l3 + (5 : Int32)).toNatClampNeg), vI (sx (l3 + (4 : Int32)).toNatClampNeg), vI s4, vI s3, vI s2, vR s1, vI s0] M from ⟨h.1, ?_⟩)
  replace h := h.2
  refine RN_k (callX_det _) 5 _ _ _ _ (show vp_in (l3 + (6 : Int32)) sl ∧ RL sl sx 771 [some (vS), some (vR l1), some (vR l2), some (vI l3)] [vI (sx (l3 + (6 : Int32)).toNatClampNeg), vI (sx (l3 + (5 : Int32)).toNatClampNeg), vI (sx (l3 + (4 : Int32)).toNatClampNeg), vI s4, vI s3, vI s2, vR s1, vI s0] M from ⟨h.1, ?_⟩)
  replace h := h.2
  refine RN_k (callX_det _) 5 _ _ _ _ (show vp_in (l3 + (7 : Int32)) sl ∧ RL sl sx 777 [some (vS), some (vR l1), some (vR l2), some (vI l3)] [vI (sx (l3 + (7 : Int32)).toNatClampNeg), vI (sx (l3 + (6 : Int32)).toNatClampNeg), vI (sx (l3 + (5 : Int32)).toNatClampNeg), vI (sx (l3 + (4 : Int32)).toNatClampNeg), vI s4, vI s3, vI s2, vR s1, vI s0] M from ⟨h.1, ?_⟩)
  replace h := h.2
  refine RN_k (callX_det _) 5 _ _ _ _ (show vp_in (l3 + (8 : Int32)) sl ∧ RL sl sx 783 [some (vS), some (vR l1), some (vR l2), some (vI l3)] [vI (sx (l3 + (8 : Int32)).toNatClampNeg), vI (sx (l3 + (7 : Int32)).toNatClampNeg), vI (sx (l3 + (6 : Int32)).toNatClampNeg), vI (sx (l3 + (5 : Int32)).toNatClampNeg), vI (sx (l3 + (4 : Int32)).toNatClampNeg), vI s4, vI s3, vI s2, vR s1, vI s0] M from ⟨h.1, ?_⟩)
  replace h := h.2
  obtain ⟨a1, he, h⟩ := h
  subst he
  refine RN_k (callX_det _) 1 _ _ _ _ (show kd M a1 10 ∧ callX TBg sl sx 300 208 [vR (some a1), vI s2, vI s3, vI s4, vI (sx (l3 + (4 : Int32)).toNatClampNeg), vI (sx (l3 + (5 : Int32)).toNatClampNeg), vI (sx (l3 + (6 : Int32)).toNatClampNeg), vI (sx (l3 + (7 : Int32)).toNatClampNeg), vI (sx (l3 + (8 : Int32)).toNatClampNeg)] M (fun v M9 => RL sl sx 786 [some (vS), some (vR l1), some (vR l2), some (vI l3)] (pushO v [vI s0]) M9) from ⟨h.1, ?_⟩)
  replace h := h.2
  refine callX_mono (d := 300) (c208 (d := 292) h) ?_
  clear h
  rintro v9 M2 ⟨r3, rfl, h⟩
  show RL sl sx 786 [some (vS), some (vR l1), some (vR l2), some (vI l3)] [vI r3, vI s0] M2
  refine RN_k (callX_det _) 1 _ _ _ _ (show (s0 = r3 → RL sl sx 1953 [some (vS), some (vR l1), some (vR l2), some (vI l3)] [] M2) ∧ (¬ (s0 = r3) → RL sl sx 789 [some (vS), some (vR l1), some (vR l2), some (vI l3)] [] M2) from ⟨fun hc => ?_, fun hc => ?_⟩)
  · replace h := h.1 hc
    exact RN_weak (K := [some (vS), some (vR l1), some (vR l2), some (vI l3)]) (callX_det _) (show _ ∧ _ ∧ _ ∧ _ ∧ True from ⟨rfl, rfl, rfl, rfl, trivial⟩) (tL_1953 hk l1 l2 l3 _ h)
  · replace h := h.2 hc
    exact RN_k (callX_det _) 2 _ _ _ _ (show some (vI (0 : Int32)) = some (vI 1) from by rw [h])
def wL_700 (sl : Nat) (sx : Nat → Int32) (k18 : Option Nat → Option Nat → Int32 → MM → Prop) (l1 : Option Nat) (l2 : Option Nat) (l3 : Int32) (s0 : Option Nat) (s1 : Int32) (s2 : Int32) (s3 : Int32) (M : MM) : Prop := vp_in (l3 + (4 : Int32)) sl ∧ (vp_in (l3 + (5 : Int32)) sl ∧ (vp_in (l3 + (6 : Int32)) sl ∧ (vp_in (l3 + (7 : Int32)) sl ∧ (vp_in (l3 + (8 : Int32)) sl ∧ (∃ a1, s0 = some a1 ∧ (kd M a1 9 ∧ w73 a1 s1 s2 s3 (sx (l3 + (4 : Int32)).toNatClampNeg) (sx (l3 + (5 : Int32)).toNatClampNeg) (sx (l3 + (6 : Int32)).toNatClampNeg) (sx (l3 + (7 : Int32)).toNatClampNeg) (sx (l3 + (8 : Int32)).toNatClampNeg) M (fun r3 M2 => vp_in (l3 + (1 : Int32)) sl ∧ (vp_in (l3 + (2 : Int32)) sl ∧ (vp_in (l3 + (3 : Int32)) sl ∧ (((sx (l3 + (3 : Int32)).toNatClampNeg) = 0 → (wL_755 sl sx k18 l1 l2 l3 r3 l2 (sx (l3 + (1 : Int32)).toNatClampNeg) (sx (l3 + (2 : Int32)).toNatClampNeg) (0 : Int32) M2)) ∧ (¬ ((sx (l3 + (3 : Int32)).toNatClampNeg) = 0) → (wL_755 sl sx k18 l1 l2 l3 r3 l2 (sx (l3 + (1 : Int32)).toNatClampNeg) (sx (l3 + (2 : Int32)).toNatClampNeg) (1 : Int32) M2))))))))))))
theorem tL_700 {sl : Nat} {sx : Nat → Int32} {k18 : Option Nat → Option Nat → Int32 → MM → Prop} (hk : ∀ (l1 l2 : Option Nat) (l3 : Int32) (M : MM), k18 l1 l2 l3 M → RL sl sx 18 [some vS, some (vR l1), some (vR l2), some (vI l3)] [] M) (l1 : Option Nat) (l2 : Option Nat) (l3 : Int32) (s0 : Option Nat) (s1 : Int32) (s2 : Int32) (s3 : Int32) (M : MM) (h : wL_700 sl sx k18 l1 l2 l3 s0 s1 s2 s3 M) : RL sl sx 700 [some (vS), some (vR l1), some (vR l2), some (vI l3)] [vI s3, vI s2, vI s1, vR s0] M := by
  refine RN_k (callX_det _) 5 _ _ _ _ (show vp_in (l3 + (4 : Int32)) sl ∧ RL sl sx 705 [some (vS), some (vR l1), some (vR l2), some (vI l3)] [vI (sx (l3 + (4 : Int32)).toNatClampNeg), vI s3, vI s2, vI s1, vR s0] M from ⟨h.1, ?_⟩)
  replace h := h.2
  refine RN_k (callX_det _) 5 _ _ _ _ (show vp_in (l3 + (5 : Int32)) sl ∧ RL sl sx 710 [some (vS), some (vR l1), some (vR l2), some (vI l3)] [vI (sx (l3 + (5 : Int32)).toNatClampNeg), vI (sx (l3 + (4 : Int32)).toNatClampNeg), vI s3, vI s2, vI s1, vR s0] M from ⟨h.1, ?_⟩)
  replace h := h.2
  refine RN_k (callX_det _) 5 _ _ _ _ (show vp_in (l3 + (6 : Int32)) sl ∧ RL sl sx 716 [some (vS), some (vR l1), some (vR l2), some (vI l3)] [vI (sx (l3 + (6 : Int32)).toNatClampNeg), vI (sx (l3 + (5 : Int32)).toNatClampNeg), vI (sx (l3 + (4 : Int32)).toNatClampNeg), vI s3, vI s2, vI s1, vR s0] M from ⟨h.1, ?_⟩)
  replace h := h.2
  refine RN_k (callX_det _) 5 _ _ _ _ (show vp_in (l3 + (7 : Int32)) sl ∧ RL sl sx 722 [some (vS), some (vR l1), some (vR l2), some (vI l3)] [vI (sx (l3 + (7 : Int32)).toNatClampNeg), vI (sx (l3 + (6 : Int32)).toNatClampNeg), vI (sx (l3 + (5 : Int32)).toNatClampNeg), vI (sx (l3 + (4 : Int32)).toNatClampNeg), vI s3, vI s2, vI s1, vR s0] M from ⟨h.1, ?_⟩)
  replace h := h.2
  refine RN_k (callX_det _) 5 _ _ _ _ (show vp_in (l3 + (8 : Int32)) sl ∧ RL sl sx 728 [some (vS), some (vR l1), some (vR l2), some (vI l3)] [vI (sx (l3 + (8 : Int32)).toNatClampNeg), vI (sx (l3 + (7 : Int32)).toNatClampNeg), vI (sx (l3 + (6 : Int32)).toNatClampNeg), vI (sx (l3 + (5 : Int32)).toNatClampNeg), vI (sx (l3 + (4 : Int32)).toNatClampNeg), vI s3, vI s2, vI s1, vR s0] M from ⟨h.1, ?_⟩)
  replace h := h.2
  obtain ⟨a1, he, h⟩ := h
  subst he
  refine RN_k (callX_det _) 1 _ _ _ _ (show kd M a1 9 ∧ callX TBg sl sx 300 73 [vR (some a1), vI s1, vI s2, vI s3, vI (sx (l3 + (4 : Int32)).toNatClampNeg), vI (sx (l3 + (5 : Int32)).toNatClampNeg), vI (sx (l3 + (6 : Int32)).toNatClampNeg), vI (sx (l3 + (7 : Int32)).toNatClampNeg), vI (sx (l3 + (8 : Int32)).toNatClampNeg)] M (fun v M9 => RL sl sx 731 [some (vS), some (vR l1), some (vR l2), some (vI l3)] (pushO v []) M9) from ⟨h.1, ?_⟩)
  replace h := h.2
  refine callX_mono (d := 300) (c73 (d := 293) h) ?_
  clear h
  rintro v9 M2 ⟨r3, rfl, h⟩
  show RL sl sx 731 [some (vS), some (vR l1), some (vR l2), some (vI l3)] [vI r3] M2
  refine RN_k (callX_det _) 6 _ _ _ _ (show vp_in (l3 + (1 : Int32)) sl ∧ RL sl sx 737 [some (vS), some (vR l1), some (vR l2), some (vI l3)] [vI (sx (l3 + (1 : Int32)).toNatClampNeg), vR l2, vI r3] M2 from ⟨h.1, ?_⟩)
  replace h := h.2
  refine RN_k (callX_det _) 5 _ _ _ _ (show vp_in (l3 + (2 : Int32)) sl ∧ RL sl sx 742 [some (vS), some (vR l1), some (vR l2), some (vI l3)] [vI (sx (l3 + (2 : Int32)).toNatClampNeg), vI (sx (l3 + (1 : Int32)).toNatClampNeg), vR l2, vI r3] M2 from ⟨h.1, ?_⟩)
  replace h := h.2
  refine RN_k (callX_det _) 5 _ _ _ _ (show vp_in (l3 + (3 : Int32)) sl ∧ RL sl sx 747 [some (vS), some (vR l1), some (vR l2), some (vI l3)] [vI (sx (l3 + (3 : Int32)).toNatClampNeg), vI (sx (l3 + (2 : Int32)).toNatClampNeg), vI (sx (l3 + (1 : Int32)).toNatClampNeg), vR l2, vI r3] M2 from ⟨h.1, ?_⟩)
  replace h := h.2
  refine RN_k (callX_det _) 1 _ _ _ _ (show ((sx (l3 + (3 : Int32)).toNatClampNeg) = 0 → RL sl sx 754 [some (vS), some (vR l1), some (vR l2), some (vI l3)] [vI (sx (l3 + (2 : Int32)).toNatClampNeg), vI (sx (l3 + (1 : Int32)).toNatClampNeg), vR l2, vI r3] M2) ∧ (¬ ((sx (l3 + (3 : Int32)).toNatClampNeg) = 0) → RL sl sx 750 [some (vS), some (vR l1), some (vR l2), some (vI l3)] [vI (sx (l3 + (2 : Int32)).toNatClampNeg), vI (sx (l3 + (1 : Int32)).toNatClampNeg), vR l2, vI r3] M2) from ⟨fun hc => ?_, fun hc => ?_⟩)
  · replace h := h.1 hc
    refine RN_k (callX_det _) 1 _ _ _ _ (show RL sl sx 755 [some (vS), some (vR l1), some (vR l2), some (vI l3)] [vI (0 : Int32), vI (sx (l3 + (2 : Int32)).toNatClampNeg), vI (sx (l3 + (1 : Int32)).toNatClampNeg), vR l2, vI r3] M2 from ?_)
    exact RN_weak (K := [some (vS), some (vR l1), some (vR l2), some (vI l3)]) (callX_det _) (show _ ∧ _ ∧ _ ∧ _ ∧ True from ⟨rfl, rfl, rfl, rfl, trivial⟩) (tL_755 hk l1 l2 l3 r3 l2 (sx (l3 + (1 : Int32)).toNatClampNeg) (sx (l3 + (2 : Int32)).toNatClampNeg) (0 : Int32) _ h)
  · replace h := h.2 hc
    refine RN_k (callX_det _) 2 _ _ _ _ (show RL sl sx 755 [some (vS), some (vR l1), some (vR l2), some (vI l3)] [vI (1 : Int32), vI (sx (l3 + (2 : Int32)).toNatClampNeg), vI (sx (l3 + (1 : Int32)).toNatClampNeg), vR l2, vI r3] M2 from ?_)
    exact RN_weak (K := [some (vS), some (vR l1), some (vR l2), some (vI l3)]) (callX_det _) (show _ ∧ _ ∧ _ ∧ _ ∧ True from ⟨rfl, rfl, rfl, rfl, trivial⟩) (tL_755 hk l1 l2 l3 r3 l2 (sx (l3 + (1 : Int32)).toNatClampNeg) (sx (l3 + (2 : Int32)).toNatClampNeg) (1 : Int32) _ h)
def wL_676 (sl : Nat) (sx : Nat → Int32) (k18 : Option Nat → Option Nat → Int32 → MM → Prop) (l1 : Option Nat) (l2 : Option Nat) (l3 : Int32) (M : MM) : Prop := vp_in (l3 + (1 : Int32)) sl ∧ (vp_in (l3 + (2 : Int32)) sl ∧ (vp_in (l3 + (3 : Int32)) sl ∧ (((sx (l3 + (3 : Int32)).toNatClampNeg) = 0 → (wL_700 sl sx k18 l1 l2 l3 l1 (sx (l3 + (1 : Int32)).toNatClampNeg) (sx (l3 + (2 : Int32)).toNatClampNeg) (0 : Int32) M)) ∧ (¬ ((sx (l3 + (3 : Int32)).toNatClampNeg) = 0) → (wL_700 sl sx k18 l1 l2 l3 l1 (sx (l3 + (1 : Int32)).toNatClampNeg) (sx (l3 + (2 : Int32)).toNatClampNeg) (1 : Int32) M)))))
theorem tL_676 {sl : Nat} {sx : Nat → Int32} {k18 : Option Nat → Option Nat → Int32 → MM → Prop} (hk : ∀ (l1 l2 : Option Nat) (l3 : Int32) (M : MM), k18 l1 l2 l3 M → RL sl sx 18 [some vS, some (vR l1), some (vR l2), some (vI l3)] [] M) (l1 : Option Nat) (l2 : Option Nat) (l3 : Int32) (M : MM) (h : wL_676 sl sx k18 l1 l2 l3 M) : RL sl sx 676 [some (vS), some (vR l1), some (vR l2), some (vI l3)] [] M := by
  refine RN_k (callX_det _) 6 _ _ _ _ (show vp_in (l3 + (1 : Int32)) sl ∧ RL sl sx 682 [some (vS), some (vR l1), some (vR l2), some (vI l3)] [vI (sx (l3 + (1 : Int32)).toNatClampNeg), vR l1] M from ⟨h.1, ?_⟩)
  replace h := h.2
  refine RN_k (callX_det _) 5 _ _ _ _ (show vp_in (l3 + (2 : Int32)) sl ∧ RL sl sx 687 [some (vS), some (vR l1), some (vR l2), some (vI l3)] [vI (sx (l3 + (2 : Int32)).toNatClampNeg), vI (sx (l3 + (1 : Int32)).toNatClampNeg), vR l1] M from ⟨h.1, ?_⟩)
  replace h := h.2
  refine RN_k (callX_det _) 5 _ _ _ _ (show vp_in (l3 + (3 : Int32)) sl ∧ RL sl sx 692 [some (vS), some (vR l1), some (vR l2), some (vI l3)] [vI (sx (l3 + (3 : Int32)).toNatClampNeg), vI (sx (l3 + (2 : Int32)).toNatClampNeg), vI (sx (l3 + (1 : Int32)).toNatClampNeg), vR l1] M from ⟨h.1, ?_⟩)
  replace h := h.2
  refine RN_k (callX_det _) 1 _ _ _ _ (show ((sx (l3 + (3 : Int32)).toNatClampNeg) = 0 → RL sl sx 699 [some (vS), some (vR l1), some (vR l2), some (vI l3)] [vI (sx (l3 + (2 : Int32)).toNatClampNeg), vI (sx (l3 + (1 : Int32)).toNatClampNeg), vR l1] M) ∧ (¬ ((sx (l3 + (3 : Int32)).toNatClampNeg) = 0) → RL sl sx 695 [some (vS), some (vR l1), some (vR l2), some (vI l3)] [vI (sx (l3 + (2 : Int32)).toNatClampNeg), vI (sx (l3 + (1 : Int32)).toNatClampNeg), vR l1] M) from ⟨fun hc => ?_, fun hc => ?_⟩)
  · replace h := h.1 hc
    refine RN_k (callX_det _) 1 _ _ _ _ (show RL sl sx 700 [some (vS), some (vR l1), some (vR l2), some (vI l3)] [vI (0 : Int32), vI (sx (l3 + (2 : Int32)).toNatClampNeg), vI (sx (l3 + (1 : Int32)).toNatClampNeg), vR l1] M from ?_)
    exact RN_weak (K := [some (vS), some (vR l1), some (vR l2), some (vI l3)]) (callX_det _) (show _ ∧ _ ∧ _ ∧ _ ∧ True from ⟨rfl, rfl, rfl, rfl, trivial⟩) (tL_700 hk l1 l2 l3 l1 (sx (l3 + (1 : Int32)).toNatClampNeg) (sx (l3 + (2 : Int32)).toNatClampNeg) (0 : Int32) _ h)
  · replace h := h.2 hc
    refine RN_k (callX_det _) 2 _ _ _ _ (show RL sl sx 700 [some (vS), some (vR l1), some (vR l2), some (vI l3)] [vI (1 : Int32), vI (sx (l3 + (2 : Int32)).toNatClampNeg), vI (sx (l3 + (1 : Int32)).toNatClampNeg), vR l1] M from ?_)
    exact RN_weak (K := [some (vS), some (vR l1), some (vR l2), some (vI l3)]) (callX_det _) (show _ ∧ _ ∧ _ ∧ _ ∧ True from ⟨rfl, rfl, rfl, rfl, trivial⟩) (tL_700 hk l1 l2 l3 l1 (sx (l3 + (1 : Int32)).toNatClampNeg) (sx (l3 + (2 : Int32)).toNatClampNeg) (1 : Int32) _ h)
def wL_643 (sl : Nat) (sx : Nat → Int32) (k18 : Option Nat → Option Nat → Int32 → MM → Prop) (l1 : Option Nat) (l2 : Option Nat) (l3 : Int32) (M : MM) : Prop := vp_in (l3 + (1 : Int32)) sl ∧ (vp_in (l3 + (2 : Int32)) sl ∧ (∃ a1, l1 = some a1 ∧ (kd M a1 9 ∧ w71 a1 (sx (l3 + (1 : Int32)).toNatClampNeg) (sx (l3 + (2 : Int32)).toNatClampNeg) M (fun r3 M2 => vp_in (l3 + (1 : Int32)) sl ∧ (vp_in (l3 + (2 : Int32)) sl ∧ (∃ a4, l2 = some a4 ∧ (kd M2 a4 10 ∧ w207 a4 (sx (l3 + (1 : Int32)).toNatClampNeg) (sx (l3 + (2 : Int32)).toNatClampNeg) M2 (fun r6 M5 => (r3 = r6 → (wL_1953 sl sx k18 (some a1) (some a4) l3 M5)) ∧ (¬ (r3 = r6) → ((0 : Int32) = 1))))))))))
theorem tL_643 {sl : Nat} {sx : Nat → Int32} {k18 : Option Nat → Option Nat → Int32 → MM → Prop} (hk : ∀ (l1 l2 : Option Nat) (l3 : Int32) (M : MM), k18 l1 l2 l3 M → RL sl sx 18 [some vS, some (vR l1), some (vR l2), some (vI l3)] [] M) (l1 : Option Nat) (l2 : Option Nat) (l3 : Int32) (M : MM) (h : wL_643 sl sx k18 l1 l2 l3 M) : RL sl sx 643 [some (vS), some (vR l1), some (vR l2), some (vI l3)] [] M := by
  refine RN_k (callX_det _) 6 _ _ _ _ (show vp_in (l3 + (1 : Int32)) sl ∧ RL sl sx 649 [some (vS), some (vR l1), some (vR l2), some (vI l3)] [vI (sx (l3 + (1 : Int32)).toNatClampNeg), vR l1] M from ⟨h.1, ?_⟩)
  replace h := h.2
  refine RN_k (callX_det _) 5 _ _ _ _ (show vp_in (l3 + (2 : Int32)) sl ∧ RL sl sx 654 [some (vS), some (vR l1), some (vR l2), some (vI l3)] [vI (sx (l3 + (2 : Int32)).toNatClampNeg), vI (sx (l3 + (1 : Int32)).toNatClampNeg), vR l1] M from ⟨h.1, ?_⟩)
  replace h := h.2
  obtain ⟨a1, he, h⟩ := h
  subst he
  refine RN_k (callX_det _) 1 _ _ _ _ (show kd M a1 9 ∧ callX TBg sl sx 300 71 [vR (some a1), vI (sx (l3 + (1 : Int32)).toNatClampNeg), vI (sx (l3 + (2 : Int32)).toNatClampNeg)] M (fun v M9 => RL sl sx 657 [some (vS), some (vR (some a1)), some (vR l2), some (vI l3)] (pushO v []) M9) from ⟨h.1, ?_⟩)
  replace h := h.2
  refine callX_mono (d := 300) (c71 (d := 296) h) ?_
  clear h
  rintro v9 M2 ⟨r3, rfl, h⟩
  show RL sl sx 657 [some (vS), some (vR (some a1)), some (vR l2), some (vI l3)] [vI r3] M2
  refine RN_k (callX_det _) 6 _ _ _ _ (show vp_in (l3 + (1 : Int32)) sl ∧ RL sl sx 663 [some (vS), some (vR (some a1)), some (vR l2), some (vI l3)] [vI (sx (l3 + (1 : Int32)).toNatClampNeg), vR l2, vI r3] M2 from ⟨h.1, ?_⟩)
  replace h := h.2
  refine RN_k (callX_det _) 5 _ _ _ _ (show vp_in (l3 + (2 : Int32)) sl ∧ RL sl sx 668 [some (vS), some (vR (some a1)), some (vR l2), some (vI l3)] [vI (sx (l3 + (2 : Int32)).toNatClampNeg), vI (sx (l3 + (1 : Int32)).toNatClampNeg), vR l2, vI r3] M2 from ⟨h.1, ?_⟩)
  replace h := h.2
  obtain ⟨a4, he, h⟩ := h
  subst he
  refine RN_k (callX_det _) 1 _ _ _ _ (show kd M2 a4 10 ∧ callX TBg sl sx 300 207 [vR (some a4), vI (sx (l3 + (1 : Int32)).toNatClampNeg), vI (sx (l3 + (2 : Int32)).toNatClampNeg)] M2 (fun v M9 => RL sl sx 671 [some (vS), some (vR (some a1)), some (vR (some a4)), some (vI l3)] (pushO v [vI r3]) M9) from ⟨h.1, ?_⟩)
  replace h := h.2
  refine callX_mono (d := 300) (c207 (d := 296) h) ?_
  clear h
  rintro v9 M5 ⟨r6, rfl, h⟩
  show RL sl sx 671 [some (vS), some (vR (some a1)), some (vR (some a4)), some (vI l3)] [vI r6, vI r3] M5
  refine RN_k (callX_det _) 1 _ _ _ _ (show (r3 = r6 → RL sl sx 1953 [some (vS), some (vR (some a1)), some (vR (some a4)), some (vI l3)] [] M5) ∧ (¬ (r3 = r6) → RL sl sx 674 [some (vS), some (vR (some a1)), some (vR (some a4)), some (vI l3)] [] M5) from ⟨fun hc => ?_, fun hc => ?_⟩)
  · replace h := h.1 hc
    exact RN_weak (K := [some (vS), some (vR (some a1)), some (vR (some a4)), some (vI l3)]) (callX_det _) (show _ ∧ _ ∧ _ ∧ _ ∧ True from ⟨rfl, rfl, rfl, rfl, trivial⟩) (tL_1953 hk (some a1) (some a4) l3 _ h)
  · replace h := h.2 hc
    exact RN_k (callX_det _) 2 _ _ _ _ (show some (vI (0 : Int32)) = some (vI 1) from by rw [h])
def wL_600 (sl : Nat) (sx : Nat → Int32) (k18 : Option Nat → Option Nat → Int32 → MM → Prop) (l1 : Option Nat) (l2 : Option Nat) (l3 : Int32) (M : MM) : Prop := vp_in (l3 + (1 : Int32)) sl ∧ (vp_in (l3 + (2 : Int32)) sl ∧ (vp_in (l3 + (3 : Int32)) sl ∧ (∃ a1, l1 = some a1 ∧ (kd M a1 9 ∧ w64 a1 (sx (l3 + (1 : Int32)).toNatClampNeg) (sx (l3 + (2 : Int32)).toNatClampNeg) (sx (l3 + (3 : Int32)).toNatClampNeg) M (fun r3 M2 => vp_in (l3 + (1 : Int32)) sl ∧ (vp_in (l3 + (2 : Int32)) sl ∧ (vp_in (l3 + (3 : Int32)) sl ∧ (∃ a4, l2 = some a4 ∧ (kd M2 a4 10 ∧ w203 a4 (sx (l3 + (1 : Int32)).toNatClampNeg) (sx (l3 + (2 : Int32)).toNatClampNeg) (sx (l3 + (3 : Int32)).toNatClampNeg) M2 (fun r6 M5 => (r3 = r6 → (wL_1953 sl sx k18 (some a1) (some a4) l3 M5)) ∧ (¬ (r3 = r6) → ((0 : Int32) = 1))))))))))))
theorem tL_600 {sl : Nat} {sx : Nat → Int32} {k18 : Option Nat → Option Nat → Int32 → MM → Prop} (hk : ∀ (l1 l2 : Option Nat) (l3 : Int32) (M : MM), k18 l1 l2 l3 M → RL sl sx 18 [some vS, some (vR l1), some (vR l2), some (vI l3)] [] M) (l1 : Option Nat) (l2 : Option Nat) (l3 : Int32) (M : MM) (h : wL_600 sl sx k18 l1 l2 l3 M) : RL sl sx 600 [some (vS), some (vR l1), some (vR l2), some (vI l3)] [] M := by
  refine RN_k (callX_det _) 6 _ _ _ _ (show vp_in (l3 + (1 : Int32)) sl ∧ RL sl sx 606 [some (vS), some (vR l1), some (vR l2), some (vI l3)] [vI (sx (l3 + (1 : Int32)).toNatClampNeg), vR l1] M from ⟨h.1, ?_⟩)
  replace h := h.2
  refine RN_k (callX_det _) 5 _ _ _ _ (show vp_in (l3 + (2 : Int32)) sl ∧ RL sl sx 611 [some (vS), some (vR l1), some (vR l2), some (vI l3)] [vI (sx (l3 + (2 : Int32)).toNatClampNeg), vI (sx (l3 + (1 : Int32)).toNatClampNeg), vR l1] M from ⟨h.1, ?_⟩)
  replace h := h.2
  refine RN_k (callX_det _) 5 _ _ _ _ (show vp_in (l3 + (3 : Int32)) sl ∧ RL sl sx 616 [some (vS), some (vR l1), some (vR l2), some (vI l3)] [vI (sx (l3 + (3 : Int32)).toNatClampNeg), vI (sx (l3 + (2 : Int32)).toNatClampNeg), vI (sx (l3 + (1 : Int32)).toNatClampNeg), vR l1] M from ⟨h.1, ?_⟩)
  replace h := h.2
  obtain ⟨a1, he, h⟩ := h
  subst he
  refine RN_k (callX_det _) 1 _ _ _ _ (show kd M a1 9 ∧ callX TBg sl sx 300 64 [vR (some a1), vI (sx (l3 + (1 : Int32)).toNatClampNeg), vI (sx (l3 + (2 : Int32)).toNatClampNeg), vI (sx (l3 + (3 : Int32)).toNatClampNeg)] M (fun v M9 => RL sl sx 619 [some (vS), some (vR (some a1)), some (vR l2), some (vI l3)] (pushO v []) M9) from ⟨h.1, ?_⟩)
  replace h := h.2
  refine callX_mono (d := 300) (c64 (d := 295) h) ?_
  clear h
  rintro v9 M2 ⟨r3, rfl, h⟩
  show RL sl sx 619 [some (vS), some (vR (some a1)), some (vR l2), some (vI l3)] [vI r3] M2
  refine RN_k (callX_det _) 6 _ _ _ _ (show vp_in (l3 + (1 : Int32)) sl ∧ RL sl sx 625 [some (vS), some (vR (some a1)), some (vR l2), some (vI l3)] [vI (sx (l3 + (1 : Int32)).toNatClampNeg), vR l2, vI r3] M2 from ⟨h.1, ?_⟩)
  replace h := h.2
  refine RN_k (callX_det _) 5 _ _ _ _ (show vp_in (l3 + (2 : Int32)) sl ∧ RL sl sx 630 [some (vS), some (vR (some a1)), some (vR l2), some (vI l3)] [vI (sx (l3 + (2 : Int32)).toNatClampNeg), vI (sx (l3 + (1 : Int32)).toNatClampNeg), vR l2, vI r3] M2 from ⟨h.1, ?_⟩)
  replace h := h.2
  refine RN_k (callX_det _) 5 _ _ _ _ (show vp_in (l3 + (3 : Int32)) sl ∧ RL sl sx 635 [some (vS), some (vR (some a1)), some (vR l2), some (vI l3)] [vI (sx (l3 + (3 : Int32)).toNatClampNeg), vI (sx (l3 + (2 : Int32)).toNatClampNeg), vI (sx (l3 + (1 : Int32)).toNatClampNeg), vR l2, vI r3] M2 from ⟨h.1, ?_⟩)
  replace h := h.2
  obtain ⟨a4, he, h⟩ := h
  subst he
  refine RN_k (callX_det _) 1 _ _ _ _ (show kd M2 a4 10 ∧ callX TBg sl sx 300 203 [vR (some a4), vI (sx (l3 + (1 : Int32)).toNatClampNeg), vI (sx (l3 + (2 : Int32)).toNatClampNeg), vI (sx (l3 + (3 : Int32)).toNatClampNeg)] M2 (fun v M9 => RL sl sx 638 [some (vS), some (vR (some a1)), some (vR (some a4)), some (vI l3)] (pushO v [vI r3]) M9) from ⟨h.1, ?_⟩)
  replace h := h.2
  refine callX_mono (d := 300) (c203 (d := 295) h) ?_
  clear h
  rintro v9 M5 ⟨r6, rfl, h⟩
  show RL sl sx 638 [some (vS), some (vR (some a1)), some (vR (some a4)), some (vI l3)] [vI r6, vI r3] M5
  refine RN_k (callX_det _) 1 _ _ _ _ (show (r3 = r6 → RL sl sx 1953 [some (vS), some (vR (some a1)), some (vR (some a4)), some (vI l3)] [] M5) ∧ (¬ (r3 = r6) → RL sl sx 641 [some (vS), some (vR (some a1)), some (vR (some a4)), some (vI l3)] [] M5) from ⟨fun hc => ?_, fun hc => ?_⟩)
  · replace h := h.1 hc
    exact RN_weak (K := [some (vS), some (vR (some a1)), some (vR (some a4)), some (vI l3)]) (callX_det _) (show _ ∧ _ ∧ _ ∧ _ ∧ True from ⟨rfl, rfl, rfl, rfl, trivial⟩) (tL_1953 hk (some a1) (some a4) l3 _ h)
  · replace h := h.2 hc
    exact RN_k (callX_det _) 2 _ _ _ _ (show some (vI (0 : Int32)) = some (vI 1) from by rw [h])
def wL_567 (sl : Nat) (sx : Nat → Int32) (k18 : Option Nat → Option Nat → Int32 → MM → Prop) (l1 : Option Nat) (l2 : Option Nat) (l3 : Int32) (M : MM) : Prop := vp_in (l3 + (1 : Int32)) sl ∧ (vp_in (l3 + (2 : Int32)) sl ∧ (∃ a1, l1 = some a1 ∧ (kd M a1 9 ∧ w61 a1 (sx (l3 + (1 : Int32)).toNatClampNeg) (sx (l3 + (2 : Int32)).toNatClampNeg) M (fun r3 M2 => vp_in (l3 + (1 : Int32)) sl ∧ (vp_in (l3 + (2 : Int32)) sl ∧ (∃ a4, l2 = some a4 ∧ (kd M2 a4 10 ∧ w201 a4 (sx (l3 + (1 : Int32)).toNatClampNeg) (sx (l3 + (2 : Int32)).toNatClampNeg) M2 (fun r6 M5 => (r3 = r6 → (wL_1953 sl sx k18 (some a1) (some a4) l3 M5)) ∧ (¬ (r3 = r6) → ((0 : Int32) = 1))))))))))
theorem tL_567 {sl : Nat} {sx : Nat → Int32} {k18 : Option Nat → Option Nat → Int32 → MM → Prop} (hk : ∀ (l1 l2 : Option Nat) (l3 : Int32) (M : MM), k18 l1 l2 l3 M → RL sl sx 18 [some vS, some (vR l1), some (vR l2), some (vI l3)] [] M) (l1 : Option Nat) (l2 : Option Nat) (l3 : Int32) (M : MM) (h : wL_567 sl sx k18 l1 l2 l3 M) : RL sl sx 567 [some (vS), some (vR l1), some (vR l2), some (vI l3)] [] M := by
  refine RN_k (callX_det _) 6 _ _ _ _ (show vp_in (l3 + (1 : Int32)) sl ∧ RL sl sx 573 [some (vS), some (vR l1), some (vR l2), some (vI l3)] [vI (sx (l3 + (1 : Int32)).toNatClampNeg), vR l1] M from ⟨h.1, ?_⟩)
  replace h := h.2
  refine RN_k (callX_det _) 5 _ _ _ _ (show vp_in (l3 + (2 : Int32)) sl ∧ RL sl sx 578 [some (vS), some (vR l1), some (vR l2), some (vI l3)] [vI (sx (l3 + (2 : Int32)).toNatClampNeg), vI (sx (l3 + (1 : Int32)).toNatClampNeg), vR l1] M from ⟨h.1, ?_⟩)
  replace h := h.2
  obtain ⟨a1, he, h⟩ := h
  subst he
  refine RN_k (callX_det _) 1 _ _ _ _ (show kd M a1 9 ∧ callX TBg sl sx 300 61 [vR (some a1), vI (sx (l3 + (1 : Int32)).toNatClampNeg), vI (sx (l3 + (2 : Int32)).toNatClampNeg)] M (fun v M9 => RL sl sx 581 [some (vS), some (vR (some a1)), some (vR l2), some (vI l3)] (pushO v []) M9) from ⟨h.1, ?_⟩)
  replace h := h.2
  refine callX_mono (d := 300) (c61 (d := 295) h) ?_
  clear h
  rintro v9 M2 ⟨r3, rfl, h⟩
  show RL sl sx 581 [some (vS), some (vR (some a1)), some (vR l2), some (vI l3)] [vI r3] M2
  refine RN_k (callX_det _) 6 _ _ _ _ (show vp_in (l3 + (1 : Int32)) sl ∧ RL sl sx 587 [some (vS), some (vR (some a1)), some (vR l2), some (vI l3)] [vI (sx (l3 + (1 : Int32)).toNatClampNeg), vR l2, vI r3] M2 from ⟨h.1, ?_⟩)
  replace h := h.2
  refine RN_k (callX_det _) 5 _ _ _ _ (show vp_in (l3 + (2 : Int32)) sl ∧ RL sl sx 592 [some (vS), some (vR (some a1)), some (vR l2), some (vI l3)] [vI (sx (l3 + (2 : Int32)).toNatClampNeg), vI (sx (l3 + (1 : Int32)).toNatClampNeg), vR l2, vI r3] M2 from ⟨h.1, ?_⟩)
  replace h := h.2
  obtain ⟨a4, he, h⟩ := h
  subst he
  refine RN_k (callX_det _) 1 _ _ _ _ (show kd M2 a4 10 ∧ callX TBg sl sx 300 201 [vR (some a4), vI (sx (l3 + (1 : Int32)).toNatClampNeg), vI (sx (l3 + (2 : Int32)).toNatClampNeg)] M2 (fun v M9 => RL sl sx 595 [some (vS), some (vR (some a1)), some (vR (some a4)), some (vI l3)] (pushO v [vI r3]) M9) from ⟨h.1, ?_⟩)
  replace h := h.2
  refine callX_mono (d := 300) (c201 (d := 198) h) ?_
  clear h
  rintro v9 M5 ⟨r6, rfl, h⟩
  show RL sl sx 595 [some (vS), some (vR (some a1)), some (vR (some a4)), some (vI l3)] [vI r6, vI r3] M5
  refine RN_k (callX_det _) 1 _ _ _ _ (show (r3 = r6 → RL sl sx 1953 [some (vS), some (vR (some a1)), some (vR (some a4)), some (vI l3)] [] M5) ∧ (¬ (r3 = r6) → RL sl sx 598 [some (vS), some (vR (some a1)), some (vR (some a4)), some (vI l3)] [] M5) from ⟨fun hc => ?_, fun hc => ?_⟩)
  · replace h := h.1 hc
    exact RN_weak (K := [some (vS), some (vR (some a1)), some (vR (some a4)), some (vI l3)]) (callX_det _) (show _ ∧ _ ∧ _ ∧ _ ∧ True from ⟨rfl, rfl, rfl, rfl, trivial⟩) (tL_1953 hk (some a1) (some a4) l3 _ h)
  · replace h := h.2 hc
    exact RN_k (callX_det _) 2 _ _ _ _ (show some (vI (0 : Int32)) = some (vI 1) from by rw [h])
def wL_524 (sl : Nat) (sx : Nat → Int32) (k18 : Option Nat → Option Nat → Int32 → MM → Prop) (l1 : Option Nat) (l2 : Option Nat) (l3 : Int32) (M : MM) : Prop := vp_in (l3 + (1 : Int32)) sl ∧ (vp_in (l3 + (2 : Int32)) sl ∧ (vp_in (l3 + (3 : Int32)) sl ∧ (∃ a1, l1 = some a1 ∧ (kd M a1 9 ∧ w58 a1 (sx (l3 + (1 : Int32)).toNatClampNeg) (sx (l3 + (2 : Int32)).toNatClampNeg) (sx (l3 + (3 : Int32)).toNatClampNeg) M (fun r3 M2 => vp_in (l3 + (1 : Int32)) sl ∧ (vp_in (l3 + (2 : Int32)) sl ∧ (vp_in (l3 + (3 : Int32)) sl ∧ (∃ a4, l2 = some a4 ∧ (kd M2 a4 10 ∧ w197 a4 (sx (l3 + (1 : Int32)).toNatClampNeg) (sx (l3 + (2 : Int32)).toNatClampNeg) (sx (l3 + (3 : Int32)).toNatClampNeg) M2 (fun r6 M5 => (r3 = r6 → (wL_1953 sl sx k18 (some a1) (some a4) l3 M5)) ∧ (¬ (r3 = r6) → ((0 : Int32) = 1))))))))))))
theorem tL_524 {sl : Nat} {sx : Nat → Int32} {k18 : Option Nat → Option Nat → Int32 → MM → Prop} (hk : ∀ (l1 l2 : Option Nat) (l3 : Int32) (M : MM), k18 l1 l2 l3 M → RL sl sx 18 [some vS, some (vR l1), some (vR l2), some (vI l3)] [] M) (l1 : Option Nat) (l2 : Option Nat) (l3 : Int32) (M : MM) (h : wL_524 sl sx k18 l1 l2 l3 M) : RL sl sx 524 [some (vS), some (vR l1), some (vR l2), some (vI l3)] [] M := by
  refine RN_k (callX_det _) 6 _ _ _ _ (show vp_in (l3 + (1 : Int32)) sl ∧ RL sl sx 530 [some (vS), some (vR l1), some (vR l2), some (vI l3)] [vI (sx (l3 + (1 : Int32)).toNatClampNeg), vR l1] M from ⟨h.1, ?_⟩)
  replace h := h.2
  refine RN_k (callX_det _) 5 _ _ _ _ (show vp_in (l3 + (2 : Int32)) sl ∧ RL sl sx 535 [some (vS), some (vR l1), some (vR l2), some (vI l3)] [vI (sx (l3 + (2 : Int32)).toNatClampNeg), vI (sx (l3 + (1 : Int32)).toNatClampNeg), vR l1] M from ⟨h.1, ?_⟩)
  replace h := h.2
  refine RN_k (callX_det _) 5 _ _ _ _ (show vp_in (l3 + (3 : Int32)) sl ∧ RL sl sx 540 [some (vS), some (vR l1), some (vR l2), some (vI l3)] [vI (sx (l3 + (3 : Int32)).toNatClampNeg), vI (sx (l3 + (2 : Int32)).toNatClampNeg), vI (sx (l3 + (1 : Int32)).toNatClampNeg), vR l1] M from ⟨h.1, ?_⟩)
  replace h := h.2
  obtain ⟨a1, he, h⟩ := h
  subst he
  refine RN_k (callX_det _) 1 _ _ _ _ (show kd M a1 9 ∧ callX TBg sl sx 300 58 [vR (some a1), vI (sx (l3 + (1 : Int32)).toNatClampNeg), vI (sx (l3 + (2 : Int32)).toNatClampNeg), vI (sx (l3 + (3 : Int32)).toNatClampNeg)] M (fun v M9 => RL sl sx 543 [some (vS), some (vR (some a1)), some (vR l2), some (vI l3)] (pushO v []) M9) from ⟨h.1, ?_⟩)
  replace h := h.2
  refine callX_mono (d := 300) (c58 (d := 295) h) ?_
  clear h
  rintro v9 M2 ⟨r3, rfl, h⟩
  show RL sl sx 543 [some (vS), some (vR (some a1)), some (vR l2), some (vI l3)] [vI r3] M2
  refine RN_k (callX_det _) 6 _ _ _ _ (show vp_in (l3 + (1 : Int32)) sl ∧ RL sl sx 549 [some (vS), some (vR (some a1)), some (vR l2), some (vI l3)] [vI (sx (l3 + (1 : Int32)).toNatClampNeg), vR l2, vI r3] M2 from ⟨h.1, ?_⟩)
  replace h := h.2
  refine RN_k (callX_det _) 5 _ _ _ _ (show vp_in (l3 + (2 : Int32)) sl ∧ RL sl sx 554 [some (vS), some (vR (some a1)), some (vR l2), some (vI l3)] [vI (sx (l3 + (2 : Int32)).toNatClampNeg), vI (sx (l3 + (1 : Int32)).toNatClampNeg), vR l2, vI r3] M2 from ⟨h.1, ?_⟩)
  replace h := h.2
  refine RN_k (callX_det _) 5 _ _ _ _ (show vp_in (l3 + (3 : Int32)) sl ∧ RL sl sx 559 [some (vS), some (vR (some a1)), some (vR l2), some (vI l3)] [vI (sx (l3 + (3 : Int32)).toNatClampNeg), vI (sx (l3 + (2 : Int32)).toNatClampNeg), vI (sx (l3 + (1 : Int32)).toNatClampNeg), vR l2, vI r3] M2 from ⟨h.1, ?_⟩)
  replace h := h.2
  obtain ⟨a4, he, h⟩ := h
  subst he
  refine RN_k (callX_det _) 1 _ _ _ _ (show kd M2 a4 10 ∧ callX TBg sl sx 300 197 [vR (some a4), vI (sx (l3 + (1 : Int32)).toNatClampNeg), vI (sx (l3 + (2 : Int32)).toNatClampNeg), vI (sx (l3 + (3 : Int32)).toNatClampNeg)] M2 (fun v M9 => RL sl sx 562 [some (vS), some (vR (some a1)), some (vR (some a4)), some (vI l3)] (pushO v [vI r3]) M9) from ⟨h.1, ?_⟩)
  replace h := h.2
  refine callX_mono (d := 300) (c197 (d := 198) h) ?_
  clear h
  rintro v9 M5 ⟨r6, rfl, h⟩
  show RL sl sx 562 [some (vS), some (vR (some a1)), some (vR (some a4)), some (vI l3)] [vI r6, vI r3] M5
  refine RN_k (callX_det _) 1 _ _ _ _ (show (r3 = r6 → RL sl sx 1953 [some (vS), some (vR (some a1)), some (vR (some a4)), some (vI l3)] [] M5) ∧ (¬ (r3 = r6) → RL sl sx 565 [some (vS), some (vR (some a1)), some (vR (some a4)), some (vI l3)] [] M5) from ⟨fun hc => ?_, fun hc => ?_⟩)
  · replace h := h.1 hc
    exact RN_weak (K := [some (vS), some (vR (some a1)), some (vR (some a4)), some (vI l3)]) (callX_det _) (show _ ∧ _ ∧ _ ∧ _ ∧ True from ⟨rfl, rfl, rfl, rfl, trivial⟩) (tL_1953 hk (some a1) (some a4) l3 _ h)
  · replace h := h.2 hc
    exact RN_k (callX_det _) 2 _ _ _ _ (show some (vI (0 : Int32)) = some (vI 1) from by rw [h])
def wL_471 (sl : Nat) (sx : Nat → Int32) (k18 : Option Nat → Option Nat → Int32 → MM → Prop) (l1 : Option Nat) (l2 : Option Nat) (l3 : Int32) (M : MM) : Prop := vp_in (l3 + (1 : Int32)) sl ∧ (vp_in (l3 + (2 : Int32)) sl ∧ (vp_in (l3 + (3 : Int32)) sl ∧ (vp_in (l3 + (4 : Int32)) sl ∧ (∃ a1, l1 = some a1 ∧ (kd M a1 9 ∧ w46 a1 (sx (l3 + (1 : Int32)).toNatClampNeg) (sx (l3 + (2 : Int32)).toNatClampNeg) (sx (l3 + (3 : Int32)).toNatClampNeg) (sx (l3 + (4 : Int32)).toNatClampNeg) M (fun r3 M2 => vp_in (l3 + (1 : Int32)) sl ∧ (vp_in (l3 + (2 : Int32)) sl ∧ (vp_in (l3 + (3 : Int32)) sl ∧ (vp_in (l3 + (4 : Int32)) sl ∧ (∃ a4, l2 = some a4 ∧ (kd M2 a4 10 ∧ w189 a4 (sx (l3 + (1 : Int32)).toNatClampNeg) (sx (l3 + (2 : Int32)).toNatClampNeg) (sx (l3 + (3 : Int32)).toNatClampNeg) (sx (l3 + (4 : Int32)).toNatClampNeg) M2 (fun r6 M5 => (r3 = r6 → (wL_1953 sl sx k18 (some a1) (some a4) l3 M5)) ∧ (¬ (r3 = r6) → ((0 : Int32) = 1))))))))))))))
theorem tL_471 {sl : Nat} {sx : Nat → Int32} {k18 : Option Nat → Option Nat → Int32 → MM → Prop} (hk : ∀ (l1 l2 : Option Nat) (l3 : Int32) (M : MM), k18 l1 l2 l3 M → RL sl sx 18 [some vS, some (vR l1), some (vR l2), some (vI l3)] [] M) (l1 : Option Nat) (l2 : Option Nat) (l3 : Int32) (M : MM) (h : wL_471 sl sx k18 l1 l2 l3 M) : RL sl sx 471 [some (vS), some (vR l1), some (vR l2), some (vI l3)] [] M := by
  refine RN_k (callX_det _) 6 _ _ _ _ (show vp_in (l3 + (1 : Int32)) sl ∧ RL sl sx 477 [some (vS), some (vR l1), some (vR l2), some (vI l3)] [vI (sx (l3 + (1 : Int32)).toNatClampNeg), vR l1] M from ⟨h.1, ?_⟩)
  replace h := h.2
  refine RN_k (callX_det _) 5 _ _ _ _ (show vp_in (l3 + (2 : Int32)) sl ∧ RL sl sx 482 [some (vS), some (vR l1), some (vR l2), some (vI l3)] [vI (sx (l3 + (2 : Int32)).toNatClampNeg), vI (sx (l3 + (1 : Int32)).toNatClampNeg), vR l1] M from ⟨h.1, ?_⟩)
  replace h := h.2
  refine RN_k (callX_det _) 5 _ _ _ _ (show vp_in (l3 + (3 : Int32)) sl ∧ RL sl sx 487 [some (vS), some (vR l1), some (vR l2), some (vI l3)] [vI (sx (l3 + (3 : Int32)).toNatClampNeg), vI (sx (l3 + (2 : Int32)).toNatClampNeg), vI (sx (l3 + (1 : Int32)).toNatClampNeg), vR l1] M from ⟨h.1, ?_⟩)
  replace h := h.2
  refine RN_k (callX_det _) 5 _ _ _ _ (show vp_in (l3 + (4 : Int32)) sl ∧ RL sl sx 492 [some (vS), some (vR l1), some (vR l2), some (vI l3)] [vI (sx (l3 + (4 : Int32)).toNatClampNeg), vI (sx (l3 + (3 : Int32)).toNatClampNeg), vI (sx (l3 + (2 : Int32)).toNatClampNeg), vI (sx (l3 + (1 : Int32)).toNatClampNeg), vR l1] M from ⟨h.1, ?_⟩)
  replace h := h.2
  obtain ⟨a1, he, h⟩ := h
  subst he
  refine RN_k (callX_det _) 1 _ _ _ _ (show kd M a1 9 ∧ callX TBg sl sx 300 46 [vR (some a1), vI (sx (l3 + (1 : Int32)).toNatClampNeg), vI (sx (l3 + (2 : Int32)).toNatClampNeg), vI (sx (l3 + (3 : Int32)).toNatClampNeg), vI (sx (l3 + (4 : Int32)).toNatClampNeg)] M (fun v M9 => RL sl sx 495 [some (vS), some (vR (some a1)), some (vR l2), some (vI l3)] (pushO v []) M9) from ⟨h.1, ?_⟩)
  replace h := h.2
  refine callX_mono (d := 300) (c46 (d := 297) h) ?_
  clear h
  rintro v9 M2 ⟨r3, rfl, h⟩
  show RL sl sx 495 [some (vS), some (vR (some a1)), some (vR l2), some (vI l3)] [vI r3] M2
  refine RN_k (callX_det _) 6 _ _ _ _ (show vp_in (l3 + (1 : Int32)) sl ∧ RL sl sx 501 [some (vS), some (vR (some a1)), some (vR l2), some (vI l3)] [vI (sx (l3 + (1 : Int32)).toNatClampNeg), vR l2, vI r3] M2 from ⟨h.1, ?_⟩)
  replace h := h.2
  refine RN_k (callX_det _) 5 _ _ _ _ (show vp_in (l3 + (2 : Int32)) sl ∧ RL sl sx 506 [some (vS), some (vR (some a1)), some (vR l2), some (vI l3)] [vI (sx (l3 + (2 : Int32)).toNatClampNeg), vI (sx (l3 + (1 : Int32)).toNatClampNeg), vR l2, vI r3] M2 from ⟨h.1, ?_⟩)
  replace h := h.2
  refine RN_k (callX_det _) 5 _ _ _ _ (show vp_in (l3 + (3 : Int32)) sl ∧ RL sl sx 511 [some (vS), some (vR (some a1)), some (vR l2), some (vI l3)] [vI (sx (l3 + (3 : Int32)).toNatClampNeg), vI (sx (l3 + (2 : Int32)).toNatClampNeg), vI (sx (l3 + (1 : Int32)).toNatClampNeg), vR l2, vI r3] M2 from ⟨h.1, ?_⟩)
  replace h := h.2
  refine RN_k (callX_det _) 5 _ _ _ _ (show vp_in (l3 + (4 : Int32)) sl ∧ RL sl sx 516 [some (vS), some (vR (some a1)), some (vR l2), some (vI l3)] [vI (sx (l3 + (4 : Int32)).toNatClampNeg), vI (sx (l3 + (3 : Int32)).toNatClampNeg), vI (sx (l3 + (2 : Int32)).toNatClampNeg), vI (sx (l3 + (1 : Int32)).toNatClampNeg), vR l2, vI r3] M2 from ⟨h.1, ?_⟩)
  replace h := h.2
  obtain ⟨a4, he, h⟩ := h
  subst he
  refine RN_k (callX_det _) 1 _ _ _ _ (show kd M2 a4 10 ∧ callX TBg sl sx 300 189 [vR (some a4), vI (sx (l3 + (1 : Int32)).toNatClampNeg), vI (sx (l3 + (2 : Int32)).toNatClampNeg), vI (sx (l3 + (3 : Int32)).toNatClampNeg), vI (sx (l3 + (4 : Int32)).toNatClampNeg)] M2 (fun v M9 => RL sl sx 519 [some (vS), some (vR (some a1)), some (vR (some a4)), some (vI l3)] (pushO v [vI r3]) M9) from ⟨h.1, ?_⟩)
  replace h := h.2
  refine callX_mono (d := 300) (c189 (d := 197) h) ?_
  clear h
  rintro v9 M5 ⟨r6, rfl, h⟩
  show RL sl sx 519 [some (vS), some (vR (some a1)), some (vR (some a4)), some (vI l3)] [vI r6, vI r3] M5
  refine RN_k (callX_det _) 1 _ _ _ _ (show (r3 = r6 → RL sl sx 1953 [some (vS), some (vR (some a1)), some (vR (some a4)), some (vI l3)] [] M5) ∧ (¬ (r3 = r6) → RL sl sx 522 [some (vS), some (vR (some a1)), some (vR (some a4)), some (vI l3)] [] M5) from ⟨fun hc => ?_, fun hc => ?_⟩)
  · replace h := h.1 hc
    exact RN_weak (K := [some (vS), some (vR (some a1)), some (vR (some a4)), some (vI l3)]) (callX_det _) (show _ ∧ _ ∧ _ ∧ _ ∧ True from ⟨rfl, rfl, rfl, rfl, trivial⟩) (tL_1953 hk (some a1) (some a4) l3 _ h)
  · replace h := h.2 hc
    exact RN_k (callX_det _) 2 _ _ _ _ (show some (vI (0 : Int32)) = some (vI 1) from by rw [h])
def wL_418 (sl : Nat) (sx : Nat → Int32) (k18 : Option Nat → Option Nat → Int32 → MM → Prop) (l1 : Option Nat) (l2 : Option Nat) (l3 : Int32) (M : MM) : Prop := vp_in (l3 + (1 : Int32)) sl ∧ (vp_in (l3 + (2 : Int32)) sl ∧ (vp_in (l3 + (3 : Int32)) sl ∧ (vp_in (l3 + (4 : Int32)) sl ∧ (∃ a1, l1 = some a1 ∧ (kd M a1 9 ∧ w44 a1 (sx (l3 + (1 : Int32)).toNatClampNeg) (sx (l3 + (2 : Int32)).toNatClampNeg) (sx (l3 + (3 : Int32)).toNatClampNeg) (sx (l3 + (4 : Int32)).toNatClampNeg) M (fun r3 M2 => vp_in (l3 + (1 : Int32)) sl ∧ (vp_in (l3 + (2 : Int32)) sl ∧ (vp_in (l3 + (3 : Int32)) sl ∧ (vp_in (l3 + (4 : Int32)) sl ∧ (∃ a4, l2 = some a4 ∧ (kd M2 a4 10 ∧ w188 a4 (sx (l3 + (1 : Int32)).toNatClampNeg) (sx (l3 + (2 : Int32)).toNatClampNeg) (sx (l3 + (3 : Int32)).toNatClampNeg) (sx (l3 + (4 : Int32)).toNatClampNeg) M2 (fun r6 M5 => (r3 = r6 → (wL_1953 sl sx k18 (some a1) (some a4) l3 M5)) ∧ (¬ (r3 = r6) → ((0 : Int32) = 1))))))))))))))
theorem tL_418 {sl : Nat} {sx : Nat → Int32} {k18 : Option Nat → Option Nat → Int32 → MM → Prop} (hk : ∀ (l1 l2 : Option Nat) (l3 : Int32) (M : MM), k18 l1 l2 l3 M → RL sl sx 18 [some vS, some (vR l1), some (vR l2), some (vI l3)] [] M) (l1 : Option Nat) (l2 : Option Nat) (l3 : Int32) (M : MM) (h : wL_418 sl sx k18 l1 l2 l3 M) : RL sl sx 418 [some (vS), some (vR l1), some (vR l2), some (vI l3)] [] M := by
  refine RN_k (callX_det _) 6 _ _ _ _ (show vp_in (l3 + (1 : Int32)) sl ∧ RL sl sx 424 [some (vS), some (vR l1), some (vR l2), some (vI l3)] [vI (sx (l3 + (1 : Int32)).toNatClampNeg), vR l1] M from ⟨h.1, ?_⟩)
  replace h := h.2
  refine RN_k (callX_det _) 5 _ _ _ _ (show vp_in (l3 + (2 : Int32)) sl ∧ RL sl sx 429 [some (vS), some (vR l1), some (vR l2), some (vI l3)] [vI (sx (l3 + (2 : Int32)).toNatClampNeg), vI (sx (l3 + (1 : Int32)).toNatClampNeg), vR l1] M from ⟨h.1, ?_⟩)
  replace h := h.2
  refine RN_k (callX_det _) 5 _ _ _ _ (show vp_in (l3 + (3 : Int32)) sl ∧ RL sl sx 434 [some (vS), some (vR l1), some (vR l2), some (vI l3)] [vI (sx (l3 + (3 : Int32)).toNatClampNeg), vI (sx (l3 + (2 : Int32)).toNatClampNeg), vI (sx (l3 + (1 : Int32)).toNatClampNeg), vR l1] M from ⟨h.1, ?_⟩)
  replace h := h.2
  refine RN_k (callX_det _) 5 _ _ _ _ (show vp_in (l3 + (4 : Int32)) sl ∧ RL sl sx 439 [some (vS), some (vR l1), some (vR l2), some (vI l3)] [vI (sx (l3 + (4 : Int32)).toNatClampNeg), vI (sx (l3 + (3 : Int32)).toNatClampNeg), vI (sx (l3 + (2 : Int32)).toNatClampNeg), vI (sx (l3 + (1 : Int32)).toNatClampNeg), vR l1] M from ⟨h.1, ?_⟩)
  replace h := h.2
  obtain ⟨a1, he, h⟩ := h
  subst he
  refine RN_k (callX_det _) 1 _ _ _ _ (show kd M a1 9 ∧ callX TBg sl sx 300 44 [vR (some a1), vI (sx (l3 + (1 : Int32)).toNatClampNeg), vI (sx (l3 + (2 : Int32)).toNatClampNeg), vI (sx (l3 + (3 : Int32)).toNatClampNeg), vI (sx (l3 + (4 : Int32)).toNatClampNeg)] M (fun v M9 => RL sl sx 442 [some (vS), some (vR (some a1)), some (vR l2), some (vI l3)] (pushO v []) M9) from ⟨h.1, ?_⟩)
  replace h := h.2
  refine callX_mono (d := 300) (c44 (d := 297) h) ?_
  clear h
  rintro v9 M2 ⟨r3, rfl, h⟩
  show RL sl sx 442 [some (vS), some (vR (some a1)), some (vR l2), some (vI l3)] [vI r3] M2
  refine RN_k (callX_det _) 6 _ _ _ _ (show vp_in (l3 + (1 : Int32)) sl ∧ RL sl sx 448 [some (vS), some (vR (some a1)), some (vR l2), some (vI l3)] [vI (sx (l3 + (1 : Int32)).toNatClampNeg), vR l2, vI r3] M2 from ⟨h.1, ?_⟩)
  replace h := h.2
  refine RN_k (callX_det _) 5 _ _ _ _ (show vp_in (l3 + (2 : Int32)) sl ∧ RL sl sx 453 [some (vS), some (vR (some a1)), some (vR l2), some (vI l3)] [vI (sx (l3 + (2 : Int32)).toNatClampNeg), vI (sx (l3 + (1 : Int32)).toNatClampNeg), vR l2, vI r3] M2 from ⟨h.1, ?_⟩)
  replace h := h.2
  refine RN_k (callX_det _) 5 _ _ _ _ (show vp_in (l3 + (3 : Int32)) sl ∧ RL sl sx 458 [some (vS), some (vR (some a1)), some (vR l2), some (vI l3)] [vI (sx (l3 + (3 : Int32)).toNatClampNeg), vI (sx (l3 + (2 : Int32)).toNatClampNeg), vI (sx (l3 + (1 : Int32)).toNatClampNeg), vR l2, vI r3] M2 from ⟨h.1, ?_⟩)
  replace h := h.2
  refine RN_k (callX_det _) 5 _ _ _ _ (show vp_in (l3 + (4 : Int32)) sl ∧ RL sl sx 463 [some (vS), some (vR (some a1)), some (vR l2), some (vI l3)] [vI (sx (l3 + (4 : Int32)).toNatClampNeg), vI (sx (l3 + (3 : Int32)).toNatClampNeg), vI (sx (l3 + (2 : Int32)).toNatClampNeg), vI (sx (l3 + (1 : Int32)).toNatClampNeg), vR l2, vI r3] M2 from ⟨h.1, ?_⟩)
  replace h := h.2
  obtain ⟨a4, he, h⟩ := h
  subst he
  refine RN_k (callX_det _) 1 _ _ _ _ (show kd M2 a4 10 ∧ callX TBg sl sx 300 188 [vR (some a4), vI (sx (l3 + (1 : Int32)).toNatClampNeg), vI (sx (l3 + (2 : Int32)).toNatClampNeg), vI (sx (l3 + (3 : Int32)).toNatClampNeg), vI (sx (l3 + (4 : Int32)).toNatClampNeg)] M2 (fun v M9 => RL sl sx 466 [some (vS), some (vR (some a1)), some (vR (some a4)), some (vI l3)] (pushO v [vI r3]) M9) from ⟨h.1, ?_⟩)
  replace h := h.2
  refine callX_mono (d := 300) (c188 (d := 296) h) ?_
  clear h
  rintro v9 M5 ⟨r6, rfl, h⟩
  show RL sl sx 466 [some (vS), some (vR (some a1)), some (vR (some a4)), some (vI l3)] [vI r6, vI r3] M5
  refine RN_k (callX_det _) 1 _ _ _ _ (show (r3 = r6 → RL sl sx 1953 [some (vS), some (vR (some a1)), some (vR (some a4)), some (vI l3)] [] M5) ∧ (¬ (r3 = r6) → RL sl sx 469 [some (vS), some (vR (some a1)), some (vR (some a4)), some (vI l3)] [] M5) from ⟨fun hc => ?_, fun hc => ?_⟩)
  · replace h := h.1 hc
    exact RN_weak (K := [some (vS), some (vR (some a1)), some (vR (some a4)), some (vI l3)]) (callX_det _) (show _ ∧ _ ∧ _ ∧ _ ∧ True from ⟨rfl, rfl, rfl, rfl, trivial⟩) (tL_1953 hk (some a1) (some a4) l3 _ h)
  · replace h := h.2 hc
    exact RN_k (callX_det _) 2 _ _ _ _ (show some (vI (0 : Int32)) = some (vI 1) from by rw [h])
def wL_385 (sl : Nat) (sx : Nat → Int32) (k18 : Option Nat → Option Nat → Int32 → MM → Prop) (l1 : Option Nat) (l2 : Option Nat) (l3 : Int32) (M : MM) : Prop := vp_in (l3 + (1 : Int32)) sl ∧ (vp_in (l3 + (2 : Int32)) sl ∧ (∃ a1, l1 = some a1 ∧ (kd M a1 9 ∧ w39 a1 (sx (l3 + (1 : Int32)).toNatClampNeg) (sx (l3 + (2 : Int32)).toNatClampNeg) M (fun r3 M2 => vp_in (l3 + (1 : Int32)) sl ∧ (vp_in (l3 + (2 : Int32)) sl ∧ (∃ a4, l2 = some a4 ∧ (kd M2 a4 10 ∧ w181 a4 (sx (l3 + (1 : Int32)).toNatClampNeg) (sx (l3 + (2 : Int32)).toNatClampNeg) M2 (fun r6 M5 => (r3 = r6 → (wL_1953 sl sx k18 (some a1) (some a4) l3 M5)) ∧ (¬ (r3 = r6) → ((0 : Int32) = 1))))))))))
theorem tL_385 {sl : Nat} {sx : Nat → Int32} {k18 : Option Nat → Option Nat → Int32 → MM → Prop} (hk : ∀ (l1 l2 : Option Nat) (l3 : Int32) (M : MM), k18 l1 l2 l3 M → RL sl sx 18 [some vS, some (vR l1), some (vR l2), some (vI l3)] [] M) (l1 : Option Nat) (l2 : Option Nat) (l3 : Int32) (M : MM) (h : wL_385 sl sx k18 l1 l2 l3 M) : RL sl sx 385 [some (vS), some (vR l1), some (vR l2), some (vI l3)] [] M := by
  refine RN_k (callX_det _) 6 _ _ _ _ (show vp_in (l3 + (1 : Int32)) sl ∧ RL sl sx 391 [some (vS), some (vR l1), some (vR l2), some (vI l3)] [vI (sx (l3 + (1 : Int32)).toNatClampNeg), vR l1] M from ⟨h.1, ?_⟩)
  replace h := h.2
  refine RN_k (callX_det _) 5 _ _ _ _ (show vp_in (l3 + (2 : Int32)) sl ∧ RL sl sx 396 [some (vS), some (vR l1), some (vR l2), some (vI l3)] [vI (sx (l3 + (2 : Int32)).toNatClampNeg), vI (sx (l3 + (1 : Int32)).toNatClampNeg), vR l1] M from ⟨h.1, ?_⟩)
  replace h := h.2
  obtain ⟨a1, he, h⟩ := h
  subst he
  refine RN_k (callX_det _) 1 _ _ _ _ (show kd M a1 9 ∧ callX TBg sl sx 300 39 [vR (some a1), vI (sx (l3 + (1 : Int32)).toNatClampNeg), vI (sx (l3 + (2 : Int32)).toNatClampNeg)] M (fun v M9 => RL sl sx 399 [some (vS), some (vR (some a1)), some (vR l2), some (vI l3)] (pushO v []) M9) from ⟨h.1, ?_⟩)
  replace h := h.2
  refine callX_mono (d := 300) (c39 (d := 297) h) ?_
  clear h
  rintro v9 M2 ⟨r3, rfl, h⟩
  show RL sl sx 399 [some (vS), some (vR (some a1)), some (vR l2), some (vI l3)] [vI r3] M2
  refine RN_k (callX_det _) 6 _ _ _ _ (show vp_in (l3 + (1 : Int32)) sl ∧ RL sl sx 405 [some (vS), some (vR (some a1)), some (vR l2), some (vI l3)] [vI (sx (l3 + (1 : Int32)).toNatClampNeg), vR l2, vI r3] M2 from ⟨h.1, ?_⟩)
  replace h := h.2
  refine RN_k (callX_det _) 5 _ _ _ _ (show vp_in (l3 + (2 : Int32)) sl ∧ RL sl sx 410 [some (vS), some (vR (some a1)), some (vR l2), some (vI l3)] [vI (sx (l3 + (2 : Int32)).toNatClampNeg), vI (sx (l3 + (1 : Int32)).toNatClampNeg), vR l2, vI r3] M2 from ⟨h.1, ?_⟩)
  replace h := h.2
  obtain ⟨a4, he, h⟩ := h
  subst he
  refine RN_k (callX_det _) 1 _ _ _ _ (show kd M2 a4 10 ∧ callX TBg sl sx 300 181 [vR (some a4), vI (sx (l3 + (1 : Int32)).toNatClampNeg), vI (sx (l3 + (2 : Int32)).toNatClampNeg)] M2 (fun v M9 => RL sl sx 413 [some (vS), some (vR (some a1)), some (vR (some a4)), some (vI l3)] (pushO v [vI r3]) M9) from ⟨h.1, ?_⟩)
  replace h := h.2
  refine callX_mono (d := 300) (c181 (d := 296) h) ?_
  clear h
  rintro v9 M5 ⟨r6, rfl, h⟩
  show RL sl sx 413 [some (vS), some (vR (some a1)), some (vR (some a4)), some (vI l3)] [vI r6, vI r3] M5
  refine RN_k (callX_det _) 1 _ _ _ _ (show (r3 = r6 → RL sl sx 1953 [some (vS), some (vR (some a1)), some (vR (some a4)), some (vI l3)] [] M5) ∧ (¬ (r3 = r6) → RL sl sx 416 [some (vS), some (vR (some a1)), some (vR (some a4)), some (vI l3)] [] M5) from ⟨fun hc => ?_, fun hc => ?_⟩)
  · replace h := h.1 hc
    exact RN_weak (K := [some (vS), some (vR (some a1)), some (vR (some a4)), some (vI l3)]) (callX_det _) (show _ ∧ _ ∧ _ ∧ _ ∧ True from ⟨rfl, rfl, rfl, rfl, trivial⟩) (tL_1953 hk (some a1) (some a4) l3 _ h)
  · replace h := h.2 hc
    exact RN_k (callX_det _) 2 _ _ _ _ (show some (vI (0 : Int32)) = some (vI 1) from by rw [h])
def wL_362 (sl : Nat) (sx : Nat → Int32) (k18 : Option Nat → Option Nat → Int32 → MM → Prop) (l1 : Option Nat) (l2 : Option Nat) (l3 : Int32) (M : MM) : Prop := vp_in (l3 + (1 : Int32)) sl ∧ (∃ a1, l1 = some a1 ∧ (kd M a1 9 ∧ w37 a1 (sx (l3 + (1 : Int32)).toNatClampNeg) M (fun r3 M2 => vp_in (l3 + (1 : Int32)) sl ∧ (∃ a4, l2 = some a4 ∧ (kd M2 a4 10 ∧ w179 a4 (sx (l3 + (1 : Int32)).toNatClampNeg) M2 (fun r6 M5 => (r3 = r6 → (wL_1953 sl sx k18 (some a1) (some a4) l3 M5)) ∧ (¬ (r3 = r6) → ((0 : Int32) = 1))))))))
theorem tL_362 {sl : Nat} {sx : Nat → Int32} {k18 : Option Nat → Option Nat → Int32 → MM → Prop} (hk : ∀ (l1 l2 : Option Nat) (l3 : Int32) (M : MM), k18 l1 l2 l3 M → RL sl sx 18 [some vS, some (vR l1), some (vR l2), some (vI l3)] [] M) (l1 : Option Nat) (l2 : Option Nat) (l3 : Int32) (M : MM) (h : wL_362 sl sx k18 l1 l2 l3 M) : RL sl sx 362 [some (vS), some (vR l1), some (vR l2), some (vI l3)] [] M := by
  refine RN_k (callX_det _) 6 _ _ _ _ (show vp_in (l3 + (1 : Int32)) sl ∧ RL sl sx 368 [some (vS), some (vR l1), some (vR l2), some (vI l3)] [vI (sx (l3 + (1 : Int32)).toNatClampNeg), vR l1] M from ⟨h.1, ?_⟩)
  replace h := h.2
  obtain ⟨a1, he, h⟩ := h
  subst he
  refine RN_k (callX_det _) 1 _ _ _ _ (show kd M a1 9 ∧ callX TBg sl sx 300 37 [vR (some a1), vI (sx (l3 + (1 : Int32)).toNatClampNeg)] M (fun v M9 => RL sl sx 371 [some (vS), some (vR (some a1)), some (vR l2), some (vI l3)] (pushO v []) M9) from ⟨h.1, ?_⟩)
  replace h := h.2
  refine callX_mono (d := 300) (c37 (d := 298) h) ?_
  clear h
  rintro v9 M2 ⟨r3, rfl, h⟩
  show RL sl sx 371 [some (vS), some (vR (some a1)), some (vR l2), some (vI l3)] [vI r3] M2
  refine RN_k (callX_det _) 6 _ _ _ _ (show vp_in (l3 + (1 : Int32)) sl ∧ RL sl sx 377 [some (vS), some (vR (some a1)), some (vR l2), some (vI l3)] [vI (sx (l3 + (1 : Int32)).toNatClampNeg), vR l2, vI r3] M2 from ⟨h.1, ?_⟩)
  replace h := h.2
  obtain ⟨a4, he, h⟩ := h
  subst he
  refine RN_k (callX_det _) 1 _ _ _ _ (show kd M2 a4 10 ∧ callX TBg sl sx 300 179 [vR (some a4), vI (sx (l3 + (1 : Int32)).toNatClampNeg)] M2 (fun v M9 => RL sl sx 380 [some (vS), some (vR (some a1)), some (vR (some a4)), some (vI l3)] (pushO v [vI r3]) M9) from ⟨h.1, ?_⟩)
  replace h := h.2
  refine callX_mono (d := 300) (c179 (d := 297) h) ?_
  clear h
  rintro v9 M5 ⟨r6, rfl, h⟩
  show RL sl sx 380 [some (vS), some (vR (some a1)), some (vR (some a4)), some (vI l3)] [vI r6, vI r3] M5
  refine RN_k (callX_det _) 1 _ _ _ _ (show (r3 = r6 → RL sl sx 1953 [some (vS), some (vR (some a1)), some (vR (some a4)), some (vI l3)] [] M5) ∧ (¬ (r3 = r6) → RL sl sx 383 [some (vS), some (vR (some a1)), some (vR (some a4)), some (vI l3)] [] M5) from ⟨fun hc => ?_, fun hc => ?_⟩)
  · replace h := h.1 hc
    exact RN_weak (K := [some (vS), some (vR (some a1)), some (vR (some a4)), some (vI l3)]) (callX_det _) (show _ ∧ _ ∧ _ ∧ _ ∧ True from ⟨rfl, rfl, rfl, rfl, trivial⟩) (tL_1953 hk (some a1) (some a4) l3 _ h)
  · replace h := h.2 hc
    exact RN_k (callX_det _) 2 _ _ _ _ (show some (vI (0 : Int32)) = some (vI 1) from by rw [h])
def wL_339 (sl : Nat) (sx : Nat → Int32) (k18 : Option Nat → Option Nat → Int32 → MM → Prop) (l1 : Option Nat) (l2 : Option Nat) (l3 : Int32) (M : MM) : Prop := vp_in (l3 + (1 : Int32)) sl ∧ (∃ a1, l1 = some a1 ∧ (kd M a1 9 ∧ w36 a1 (sx (l3 + (1 : Int32)).toNatClampNeg) M (fun r3 M2 => vp_in (l3 + (1 : Int32)) sl ∧ (∃ a4, l2 = some a4 ∧ (kd M2 a4 10 ∧ w178 a4 (sx (l3 + (1 : Int32)).toNatClampNeg) M2 (fun r6 M5 => (r3 = r6 → (wL_1953 sl sx k18 (some a1) (some a4) l3 M5)) ∧ (¬ (r3 = r6) → ((0 : Int32) = 1))))))))
theorem tL_339 {sl : Nat} {sx : Nat → Int32} {k18 : Option Nat → Option Nat → Int32 → MM → Prop} (hk : ∀ (l1 l2 : Option Nat) (l3 : Int32) (M : MM), k18 l1 l2 l3 M → RL sl sx 18 [some vS, some (vR l1), some (vR l2), some (vI l3)] [] M) (l1 : Option Nat) (l2 : Option Nat) (l3 : Int32) (M : MM) (h : wL_339 sl sx k18 l1 l2 l3 M) : RL sl sx 339 [some (vS), some (vR l1), some (vR l2), some (vI l3)] [] M := by
  refine RN_k (callX_det _) 6 _ _ _ _ (show vp_in (l3 + (1 : Int32)) sl ∧ RL sl sx 345 [some (vS), some (vR l1), some (vR l2), some (vI l3)] [vI (sx (l3 + (1 : Int32)).toNatClampNeg), vR l1] M from ⟨h.1, ?_⟩)
  replace h := h.2
  obtain ⟨a1, he, h⟩ := h
  subst he
  refine RN_k (callX_det _) 1 _ _ _ _ (show kd M a1 9 ∧ callX TBg sl sx 300 36 [vR (some a1), vI (sx (l3 + (1 : Int32)).toNatClampNeg)] M (fun v M9 => RL sl sx 348 [some (vS), some (vR (some a1)), some (vR l2), some (vI l3)] (pushO v []) M9) from ⟨h.1, ?_⟩)
  replace h := h.2
  refine callX_mono (d := 300) (c36 (d := 299) h) ?_
  clear h
  rintro v9 M2 ⟨r3, rfl, h⟩
  show RL sl sx 348 [some (vS), some (vR (some a1)), some (vR l2), some (vI l3)] [vI r3] M2
  refine RN_k (callX_det _) 6 _ _ _ _ (show vp_in (l3 + (1 : Int32)) sl ∧ RL sl sx 354 [some (vS), some (vR (some a1)), some (vR l2), some (vI l3)] [vI (sx (l3 + (1 : Int32)).toNatClampNeg), vR l2, vI r3] M2 from ⟨h.1, ?_⟩)
  replace h := h.2
  obtain ⟨a4, he, h⟩ := h
  subst he
  refine RN_k (callX_det _) 1 _ _ _ _ (show kd M2 a4 10 ∧ callX TBg sl sx 300 178 [vR (some a4), vI (sx (l3 + (1 : Int32)).toNatClampNeg)] M2 (fun v M9 => RL sl sx 357 [some (vS), some (vR (some a1)), some (vR (some a4)), some (vI l3)] (pushO v [vI r3]) M9) from ⟨h.1, ?_⟩)
  replace h := h.2
  refine callX_mono (d := 300) (c178 (d := 299) h) ?_
  clear h
  rintro v9 M5 ⟨r6, rfl, h⟩
  show RL sl sx 357 [some (vS), some (vR (some a1)), some (vR (some a4)), some (vI l3)] [vI r6, vI r3] M5
  refine RN_k (callX_det _) 1 _ _ _ _ (show (r3 = r6 → RL sl sx 1953 [some (vS), some (vR (some a1)), some (vR (some a4)), some (vI l3)] [] M5) ∧ (¬ (r3 = r6) → RL sl sx 360 [some (vS), some (vR (some a1)), some (vR (some a4)), some (vI l3)] [] M5) from ⟨fun hc => ?_, fun hc => ?_⟩)
  · replace h := h.1 hc
    exact RN_weak (K := [some (vS), some (vR (some a1)), some (vR (some a4)), some (vI l3)]) (callX_det _) (show _ ∧ _ ∧ _ ∧ _ ∧ True from ⟨rfl, rfl, rfl, rfl, trivial⟩) (tL_1953 hk (some a1) (some a4) l3 _ h)
  · replace h := h.2 hc
    exact RN_k (callX_det _) 2 _ _ _ _ (show some (vI (0 : Int32)) = some (vI 1) from by rw [h])
def wL_316 (sl : Nat) (sx : Nat → Int32) (k18 : Option Nat → Option Nat → Int32 → MM → Prop) (l1 : Option Nat) (l2 : Option Nat) (l3 : Int32) (M : MM) : Prop := vp_in (l3 + (1 : Int32)) sl ∧ (∃ a1, l1 = some a1 ∧ (kd M a1 9 ∧ w16 a1 (sx (l3 + (1 : Int32)).toNatClampNeg) M (fun r3 M2 => vp_in (l3 + (1 : Int32)) sl ∧ (∃ a4, l2 = some a4 ∧ (kd M2 a4 10 ∧ w165 a4 (sx (l3 + (1 : Int32)).toNatClampNeg) M2 (fun r6 M5 => (r3 = r6 → (wL_1953 sl sx k18 (some a1) (some a4) l3 M5)) ∧ (¬ (r3 = r6) → ((0 : Int32) = 1))))))))
theorem tL_316 {sl : Nat} {sx : Nat → Int32} {k18 : Option Nat → Option Nat → Int32 → MM → Prop} (hk : ∀ (l1 l2 : Option Nat) (l3 : Int32) (M : MM), k18 l1 l2 l3 M → RL sl sx 18 [some vS, some (vR l1), some (vR l2), some (vI l3)] [] M) (l1 : Option Nat) (l2 : Option Nat) (l3 : Int32) (M : MM) (h : wL_316 sl sx k18 l1 l2 l3 M) : RL sl sx 316 [some (vS), some (vR l1), some (vR l2), some (vI l3)] [] M := by
  refine RN_k (callX_det _) 6 _ _ _ _ (show vp_in (l3 + (1 : Int32)) sl ∧ RL sl sx 322 [some (vS), some (vR l1), some (vR l2), some (vI l3)] [vI (sx (l3 + (1 : Int32)).toNatClampNeg), vR l1] M from ⟨h.1, ?_⟩)
  replace h := h.2
  obtain ⟨a1, he, h⟩ := h
  subst he
  refine RN_k (callX_det _) 1 _ _ _ _ (show kd M a1 9 ∧ callX TBg sl sx 300 16 [vR (some a1), vI (sx (l3 + (1 : Int32)).toNatClampNeg)] M (fun v M9 => RL sl sx 325 [some (vS), some (vR (some a1)), some (vR l2), some (vI l3)] (pushO v []) M9) from ⟨h.1, ?_⟩)
  replace h := h.2
  refine callX_mono (d := 300) (c16 (d := 295) h) ?_
  clear h
  rintro v9 M2 ⟨r3, rfl, h⟩
  show RL sl sx 325 [some (vS), some (vR (some a1)), some (vR l2), some (vI l3)] [vI r3] M2
  refine RN_k (callX_det _) 6 _ _ _ _ (show vp_in (l3 + (1 : Int32)) sl ∧ RL sl sx 331 [some (vS), some (vR (some a1)), some (vR l2), some (vI l3)] [vI (sx (l3 + (1 : Int32)).toNatClampNeg), vR l2, vI r3] M2 from ⟨h.1, ?_⟩)
  replace h := h.2
  obtain ⟨a4, he, h⟩ := h
  subst he
  refine RN_k (callX_det _) 1 _ _ _ _ (show kd M2 a4 10 ∧ callX TBg sl sx 300 165 [vR (some a4), vI (sx (l3 + (1 : Int32)).toNatClampNeg)] M2 (fun v M9 => RL sl sx 334 [some (vS), some (vR (some a1)), some (vR (some a4)), some (vI l3)] (pushO v [vI r3]) M9) from ⟨h.1, ?_⟩)
  replace h := h.2
  refine callX_mono (d := 300) (c165 (d := 295) h) ?_
  clear h
  rintro v9 M5 ⟨r6, rfl, h⟩
  show RL sl sx 334 [some (vS), some (vR (some a1)), some (vR (some a4)), some (vI l3)] [vI r6, vI r3] M5
  refine RN_k (callX_det _) 1 _ _ _ _ (show (r3 = r6 → RL sl sx 1953 [some (vS), some (vR (some a1)), some (vR (some a4)), some (vI l3)] [] M5) ∧ (¬ (r3 = r6) → RL sl sx 337 [some (vS), some (vR (some a1)), some (vR (some a4)), some (vI l3)] [] M5) from ⟨fun hc => ?_, fun hc => ?_⟩)
  · replace h := h.1 hc
    exact RN_weak (K := [some (vS), some (vR (some a1)), some (vR (some a4)), some (vI l3)]) (callX_det _) (show _ ∧ _ ∧ _ ∧ _ ∧ True from ⟨rfl, rfl, rfl, rfl, trivial⟩) (tL_1953 hk (some a1) (some a4) l3 _ h)
  · replace h := h.2 hc
    exact RN_k (callX_det _) 2 _ _ _ _ (show some (vI (0 : Int32)) = some (vI 1) from by rw [h])
def wL_253 (sl : Nat) (sx : Nat → Int32) (k18 : Option Nat → Option Nat → Int32 → MM → Prop) (l1 : Option Nat) (l2 : Option Nat) (l3 : Int32) (M : MM) : Prop := vp_in (l3 + (1 : Int32)) sl ∧ (vp_in (l3 + (2 : Int32)) sl ∧ (vp_in (l3 + (3 : Int32)) sl ∧ (vp_in (l3 + (4 : Int32)) sl ∧ (vp_in (l3 + (5 : Int32)) sl ∧ (∃ a1, l1 = some a1 ∧ (kd M a1 9 ∧ w14 a1 (sx (l3 + (1 : Int32)).toNatClampNeg) (sx (l3 + (2 : Int32)).toNatClampNeg) (sx (l3 + (3 : Int32)).toNatClampNeg) (sx (l3 + (4 : Int32)).toNatClampNeg) (sx (l3 + (5 : Int32)).toNatClampNeg) M (fun r3 M2 => vp_in (l3 + (1 : Int32)) sl ∧ (vp_in (l3 + (2 : Int32)) sl ∧ (vp_in (l3 + (3 : Int32)) sl ∧ (vp_in (l3 + (4 : Int32)) sl ∧ (vp_in (l3 + (5 : Int32)) sl ∧ (∃ a4, l2 = some a4 ∧ (kd M2 a4 10 ∧ w163 a4 (sx (l3 + (1 : Int32)).toNatClampNeg) (sx (l3 + (2 : Int32)).toNatClampNeg) (sx (l3 + (3 : Int32)).toNatClampNeg) (sx (l3 + (4 : Int32)).toNatClampNeg) (sx (l3 + (5 : Int32)).toNatClampNeg) M2 (fun r6 M5 => (r3 = r6 → (wL_1953 sl sx k18 (some a1) (some a4) l3 M5)) ∧ (¬ (r3 = r6) → ((0 : Int32) = 1))))))))))))))))
theorem tL_253 {sl : Nat} {sx : Nat → Int32} {k18 : Option Nat → Option Nat → Int32 → MM → Prop} (hk : ∀ (l1 l2 : Option Nat) (l3 : Int32) (M : MM), k18 l1 l2 l3 M → RL sl sx 18 [some vS, some (vR l1), some (vR l2), some (vI l3)] [] M) (l1 : Option Nat) (l2 : Option Nat) (l3 : Int32) (M : MM) (h : wL_253 sl sx k18 l1 l2 l3 M) : RL sl sx 253 [some (vS), some (vR l1), some (vR l2), some (vI l3)] [] M := by
  refine RN_k (callX_det _) 6 _ _ _ _ (show vp_in (l3 + (1 : Int32)) sl ∧ RL sl sx 259 [some (vS), some (vR l1), some (vR l2), some (vI l3)] [vI (sx (l3 + (1 : Int32)).toNatClampNeg), vR l1] M from ⟨h.1, ?_⟩)
  replace h := h.2
  refine RN_k (callX_det _) 5 _ _ _ _ (show vp_in (l3 + (2 : Int32)) sl ∧ RL sl sx 264 [some (vS), some (vR l1), some (vR l2), some (vI l3)] [vI (sx (l3 + (2 : Int32)).toNatClampNeg), vI (sx (l3 + (1 : Int32)).toNatClampNeg), vR l1] M from ⟨h.1, ?_⟩)
  replace h := h.2
  refine RN_k (callX_det _) 5 _ _ _ _ (show vp_in (l3 + (3 : Int32)) sl ∧ RL sl sx 269 [some (vS), some (vR l1), some (vR l2), some (vI l3)] [vI (sx (l3 + (3 : Int32)).toNatClampNeg), vI (sx (l3 + (2 : Int32)).toNatClampNeg), vI (sx (l3 + (1 : Int32)).toNatClampNeg), vR l1] M from ⟨h.1, ?_⟩)
  replace h := h.2
  refine RN_k (callX_det _) 5 _ _ _ _ (show vp_in (l3 + (4 : Int32)) sl ∧ RL sl sx 274 [some (vS), some (vR l1), some (vR l2), some (vI l3)] [vI (sx (l3 + (4 : Int32)).toNatClampNeg), vI (sx (l3 + (3 : Int32)).toNatClampNeg), vI (sx (l3 + (2 : Int32)).toNatClampNeg), vI (sx (l3 + (1 : Int32)).toNatClampNeg), vR l1] M from ⟨h.1, ?_⟩)
  replace h := h.2
  refine RN_k (callX_det _) 5 _ _ _ _ (show vp_in (l3 + (5 : Int32)) sl ∧ RL sl sx 279 [some (vS), some (vR l1), some (vR l2), some (vI l3)] [vI (sx (l3 + (5 : Int32)).toNatClampNeg), vI (sx (l3 + (4 : Int32)).toNatClampNeg), vI (sx (l3 + (3 : Int32)).toNatClampNeg), vI (sx (l3 + (2 : Int32)).toNatClampNeg), vI (sx (l3 + (1 : Int32)).toNatClampNeg), vR l1] M from ⟨h.1, ?_⟩)
  replace h := h.2
  obtain ⟨a1, he, h⟩ := h
  subst he
  refine RN_k (callX_det _) 1 _ _ _ _ (show kd M a1 9 ∧ callX TBg sl sx 300 14 [vR (some a1), vI (sx (l3 + (1 : Int32)).toNatClampNeg), vI (sx (l3 + (2 : Int32)).toNatClampNeg), vI (sx (l3 + (3 : Int32)).toNatClampNeg), vI (sx (l3 + (4 : Int32)).toNatClampNeg), vI (sx (l3 + (5 : Int32)).toNatClampNeg)] M (fun v M9 => RL sl sx 282 [some (vS), some (vR (some a1)), some (vR l2), some (vI l3)] (pushO v []) M9) from ⟨h.1, ?_⟩)
  replace h := h.2
  refine callX_mono (d := 300) (c14 (d := 298) h) ?_
  clear h
  rintro v9 M2 ⟨r3, rfl, h⟩
  show RL sl sx 282 [some (vS), some (vR (some a1)), some (vR l2), some (vI l3)] [vI r3] M2
  refine RN_k (callX_det _) 6 _ _ _ _ (show vp_in (l3 + (1 : Int32)) sl ∧ RL sl sx 288 [some (vS), some (vR (some a1)), some (vR l2), some (vI l3)] [vI (sx (l3 + (1 : Int32)).toNatClampNeg), vR l2, vI r3] M2 from ⟨h.1, ?_⟩)
  replace h := h.2
  refine RN_k (callX_det _) 5 _ _ _ _ (show vp_in (l3 + (2 : Int32)) sl ∧ RL sl sx 293 [some (vS), some (vR (some a1)), some (vR l2), some (vI l3)] [vI (sx (l3 + (2 : Int32)).toNatClampNeg), vI (sx (l3 + (1 : Int32)).toNatClampNeg), vR l2, vI r3] M2 from ⟨h.1, ?_⟩)
  replace h := h.2
  refine RN_k (callX_det _) 5 _ _ _ _ (show vp_in (l3 + (3 : Int32)) sl ∧ RL sl sx 298 [some (vS), some (vR (some a1)), some (vR l2), some (vI l3)] [vI (sx (l3 + (3 : Int32)).toNatClampNeg), vI (sx (l3 + (2 : Int32)).toNatClampNeg), vI (sx (l3 + (1 : Int32)).toNatClampNeg), vR l2, vI r3] M2 from ⟨h.1, ?_⟩)
  replace h := h.2
  refine RN_k (callX_det _) 5 _ _ _ _ (show vp_in (l3 + (4 : Int32)) sl ∧ RL sl sx 303 [some (vS), some (vR (some a1)), some (vR l2), some (vI l3)] [vI (sx (l3 + (4 : Int32)).toNatClampNeg), vI (sx (l3 + (3 : Int32)).toNatClampNeg), vI (sx (l3 + (2 : Int32)).toNatClampNeg), vI (sx (l3 + (1 : Int32)).toNatClampNeg), vR l2, vI r3] M2 from ⟨h.1, ?_⟩)
  replace h := h.2
  refine RN_k (callX_det _) 5 _ _ _ _ (show vp_in (l3 + (5 : Int32)) sl ∧ RL sl sx 308 [some (vS), some (vR (some a1)), some (vR l2), some (vI l3)] [vI (sx (l3 + (5 : Int32)).toNatClampNeg), vI (sx (l3 + (4 : Int32)).toNatClampNeg), vI (sx (l3 + (3 : Int32)).toNatClampNeg), vI (sx (l3 + (2 : Int32)).toNatClampNeg), vI (sx (l3 + (1 : Int32)).toNatClampNeg), vR l2, vI r3] M2 from ⟨h.1, ?_⟩)
  replace h := h.2
  obtain ⟨a4, he, h⟩ := h
  subst he
  refine RN_k (callX_det _) 1 _ _ _ _ (show kd M2 a4 10 ∧ callX TBg sl sx 300 163 [vR (some a4), vI (sx (l3 + (1 : Int32)).toNatClampNeg), vI (sx (l3 + (2 : Int32)).toNatClampNeg), vI (sx (l3 + (3 : Int32)).toNatClampNeg), vI (sx (l3 + (4 : Int32)).toNatClampNeg), vI (sx (l3 + (5 : Int32)).toNatClampNeg)] M2 (fun v M9 => RL sl sx 311 [some (vS), some (vR (some a1)), some (vR (some a4)), some (vI l3)] (pushO v [vI r3]) M9) from ⟨h.1, ?_⟩)
  replace h := h.2
  refine callX_mono (d := 300) (c163 (d := 298) h) ?_
  clear h
  rintro v9 M5 ⟨r6, rfl, h⟩
  show RL sl sx 311 [some (vS), some (vR (some a1)), some (vR (some a4)), some (vI l3)] [vI r6, vI r3] M5
  refine RN_k (callX_det _) 1 _ _ _ _ (show (r3 = r6 → RL sl sx 1953 [some (vS), some (vR (some a1)), some (vR (some a4)), some (vI l3)] [] M5) ∧ (¬ (r3 = r6) → RL sl sx 314 [some (vS), some (vR (some a1)), some (vR (some a4)), some (vI l3)] [] M5) from ⟨fun hc => ?_, fun hc => ?_⟩)
  · replace h := h.1 hc
    exact RN_weak (K := [some (vS), some (vR (some a1)), some (vR (some a4)), some (vI l3)]) (callX_det _) (show _ ∧ _ ∧ _ ∧ _ ∧ True from ⟨rfl, rfl, rfl, rfl, trivial⟩) (tL_1953 hk (some a1) (some a4) l3 _ h)
  · replace h := h.2 hc
    exact RN_k (callX_det _) 2 _ _ _ _ (show some (vI (0 : Int32)) = some (vI 1) from by rw [h])
def wL_239 (sl : Nat) (sx : Nat → Int32) (k18 : Option Nat → Option Nat → Int32 → MM → Prop) (l1 : Option Nat) (l2 : Option Nat) (l3 : Int32) (M : MM) : Prop := ∃ a1, l1 = some a1 ∧ (kd M a1 9 ∧ w13 a1 M (fun r3 M2 => ∃ a4, l2 = some a4 ∧ (kd M2 a4 10 ∧ w162 a4 M2 (fun r6 M5 => ((lg_cmp r3 r6) = 0 → (wL_1953 sl sx k18 (some a1) (some a4) l3 M5)) ∧ (¬ ((lg_cmp r3 r6) = 0) → ((0 : Int32) = 1))))))
theorem tL_239 {sl : Nat} {sx : Nat → Int32} {k18 : Option Nat → Option Nat → Int32 → MM → Prop} (hk : ∀ (l1 l2 : Option Nat) (l3 : Int32) (M : MM), k18 l1 l2 l3 M → RL sl sx 18 [some vS, some (vR l1), some (vR l2), some (vI l3)] [] M) (l1 : Option Nat) (l2 : Option Nat) (l3 : Int32) (M : MM) (h : wL_239 sl sx k18 l1 l2 l3 M) : RL sl sx 239 [some (vS), some (vR l1), some (vR l2), some (vI l3)] [] M := by
  obtain ⟨a1, he, h⟩ := h
  refine RN_k (callX_det _) 1 _ _ _ _ (show RL sl sx 240 [some (vS), some (vR l1), some (vR l2), some (vI l3)] [vR l1] M from ?_)
  subst he
  refine RN_k (callX_det _) 1 _ _ _ _ (show kd M a1 9 ∧ callX TBg sl sx 300 13 [vR (some a1)] M (fun v M9 => RL sl sx 243 [some (vS), some (vR (some a1)), some (vR l2), some (vI l3)] (pushO v []) M9) from ⟨h.1, ?_⟩)
  replace h := h.2
  refine callX_mono (d := 300) (c13 (d := 299) h) ?_
  clear h
  rintro v9 M2 ⟨r3, rfl, h⟩
  show RL sl sx 243 [some (vS), some (vR (some a1)), some (vR l2), some (vI l3)] [vL r3] M2
  obtain ⟨a4, he, h⟩ := h
  refine RN_k (callX_det _) 1 _ _ _ _ (show RL sl sx 244 [some (vS), some (vR (some a1)), some (vR l2), some (vI l3)] [vR l2, vL r3] M2 from ?_)
  subst he
  refine RN_k (callX_det _) 1 _ _ _ _ (show kd M2 a4 10 ∧ callX TBg sl sx 300 162 [vR (some a4)] M2 (fun v M9 => RL sl sx 247 [some (vS), some (vR (some a1)), some (vR (some a4)), some (vI l3)] (pushO v [vL r3]) M9) from ⟨h.1, ?_⟩)
  replace h := h.2
  refine callX_mono (d := 300) (c162 (d := 299) h) ?_
  clear h
  rintro v9 M5 ⟨r6, rfl, h⟩
  show RL sl sx 247 [some (vS), some (vR (some a1)), some (vR (some a4)), some (vI l3)] [vL r6, vL r3] M5
  refine RN_k (callX_det _) 2 _ _ _ _ (show ((lg_cmp r3 r6) = 0 → RL sl sx 1953 [some (vS), some (vR (some a1)), some (vR (some a4)), some (vI l3)] [] M5) ∧ (¬ ((lg_cmp r3 r6) = 0) → RL sl sx 251 [some (vS), some (vR (some a1)), some (vR (some a4)), some (vI l3)] [] M5) from ⟨fun hc => ?_, fun hc => ?_⟩)
  · replace h := h.1 hc
    exact RN_weak (K := [some (vS), some (vR (some a1)), some (vR (some a4)), some (vI l3)]) (callX_det _) (show _ ∧ _ ∧ _ ∧ _ ∧ True from ⟨rfl, rfl, rfl, rfl, trivial⟩) (tL_1953 hk (some a1) (some a4) l3 _ h)
  · replace h := h.2 hc
    exact RN_k (callX_det _) 2 _ _ _ _ (show some (vI (0 : Int32)) = some (vI 1) from by rw [h])
def wL_225 (sl : Nat) (sx : Nat → Int32) (k18 : Option Nat → Option Nat → Int32 → MM → Prop) (l1 : Option Nat) (l2 : Option Nat) (l3 : Int32) (M : MM) : Prop := ∃ a1, l1 = some a1 ∧ (kd M a1 9 ∧ w12 a1 M (fun r3 M2 => ∃ a4, l2 = some a4 ∧ (kd M2 a4 10 ∧ w161 a4 M2 (fun r6 M5 => ((lg_cmp r3 r6) = 0 → (wL_1953 sl sx k18 (some a1) (some a4) l3 M5)) ∧ (¬ ((lg_cmp r3 r6) = 0) → ((0 : Int32) = 1))))))
theorem tL_225 {sl : Nat} {sx : Nat → Int32} {k18 : Option Nat → Option Nat → Int32 → MM → Prop} (hk : ∀ (l1 l2 : Option Nat) (l3 : Int32) (M : MM), k18 l1 l2 l3 M → RL sl sx 18 [some vS, some (vR l1), some (vR l2), some (vI l3)] [] M) (l1 : Option Nat) (l2 : Option Nat) (l3 : Int32) (M : MM) (h : wL_225 sl sx k18 l1 l2 l3 M) : RL sl sx 225 [some (vS), some (vR l1), some (vR l2), some (vI l3)] [] M := by
  obtain ⟨a1, he, h⟩ := h
  refine RN_k (callX_det _) 1 _ _ _ _ (show RL sl sx 226 [some (vS), some (vR l1), some (vR l2), some (vI l3)] [vR l1] M from ?_)
  subst he
  refine RN_k (callX_det _) 1 _ _ _ _ (show kd M a1 9 ∧ callX TBg sl sx 300 12 [vR (some a1)] M (fun v M9 => RL sl sx 229 [some (vS), some (vR (some a1)), some (vR l2), some (vI l3)] (pushO v []) M9) from ⟨h.1, ?_⟩)
  replace h := h.2
  refine callX_mono (d := 300) (c12 (d := 299) h) ?_
  clear h
  rintro v9 M2 ⟨r3, rfl, h⟩
  show RL sl sx 229 [some (vS), some (vR (some a1)), some (vR l2), some (vI l3)] [vL r3] M2
  obtain ⟨a4, he, h⟩ := h
  refine RN_k (callX_det _) 1 _ _ _ _ (show RL sl sx 230 [some (vS), some (vR (some a1)), some (vR l2), some (vI l3)] [vR l2, vL r3] M2 from ?_)
  subst he
  refine RN_k (callX_det _) 1 _ _ _ _ (show kd M2 a4 10 ∧ callX TBg sl sx 300 161 [vR (some a4)] M2 (fun v M9 => RL sl sx 233 [some (vS), some (vR (some a1)), some (vR (some a4)), some (vI l3)] (pushO v [vL r3]) M9) from ⟨h.1, ?_⟩)
  replace h := h.2
  refine callX_mono (d := 300) (c161 (d := 299) h) ?_
  clear h
  rintro v9 M5 ⟨r6, rfl, h⟩
  show RL sl sx 233 [some (vS), some (vR (some a1)), some (vR (some a4)), some (vI l3)] [vL r6, vL r3] M5
  refine RN_k (callX_det _) 2 _ _ _ _ (show ((lg_cmp r3 r6) = 0 → RL sl sx 1953 [some (vS), some (vR (some a1)), some (vR (some a4)), some (vI l3)] [] M5) ∧ (¬ ((lg_cmp r3 r6) = 0) → RL sl sx 237 [some (vS), some (vR (some a1)), some (vR (some a4)), some (vI l3)] [] M5) from ⟨fun hc => ?_, fun hc => ?_⟩)
  · replace h := h.1 hc
    exact RN_weak (K := [some (vS), some (vR (some a1)), some (vR (some a4)), some (vI l3)]) (callX_det _) (show _ ∧ _ ∧ _ ∧ _ ∧ True from ⟨rfl, rfl, rfl, rfl, trivial⟩) (tL_1953 hk (some a1) (some a4) l3 _ h)
  · replace h := h.2 hc
    exact RN_k (callX_det _) 2 _ _ _ _ (show some (vI (0 : Int32)) = some (vI 1) from by rw [h])
def wL_212 (sl : Nat) (sx : Nat → Int32) (k18 : Option Nat → Option Nat → Int32 → MM → Prop) (l1 : Option Nat) (l2 : Option Nat) (l3 : Int32) (M : MM) : Prop := ∃ a1, l1 = some a1 ∧ (kd M a1 9 ∧ w11 a1 M (fun r3 M2 => ∃ a4, l2 = some a4 ∧ (kd M2 a4 10 ∧ w160 a4 M2 (fun r6 M5 => (r3 = r6 → (wL_1953 sl sx k18 (some a1) (some a4) l3 M5)) ∧ (¬ (r3 = r6) → ((0 : Int32) = 1))))))
theorem tL_212 {sl : Nat} {sx : Nat → Int32} {k18 : Option Nat → Option Nat → Int32 → MM → Prop} (hk : ∀ (l1 l2 : Option Nat) (l3 : Int32) (M : MM), k18 l1 l2 l3 M → RL sl sx 18 [some vS, some (vR l1), some (vR l2), some (vI l3)] [] M) (l1 : Option Nat) (l2 : Option Nat) (l3 : Int32) (M : MM) (h : wL_212 sl sx k18 l1 l2 l3 M) : RL sl sx 212 [some (vS), some (vR l1), some (vR l2), some (vI l3)] [] M := by
  obtain ⟨a1, he, h⟩ := h
  refine RN_k (callX_det _) 1 _ _ _ _ (show RL sl sx 213 [some (vS), some (vR l1), some (vR l2), some (vI l3)] [vR l1] M from ?_)
  subst he
  refine RN_k (callX_det _) 1 _ _ _ _ (show kd M a1 9 ∧ callX TBg sl sx 300 11 [vR (some a1)] M (fun v M9 => RL sl sx 216 [some (vS), some (vR (some a1)), some (vR l2), some (vI l3)] (pushO v []) M9) from ⟨h.1, ?_⟩)
  replace h := h.2
  refine callX_mono (d := 300) (c11 (d := 299) h) ?_
  clear h
  rintro v9 M2 ⟨r3, rfl, h⟩
  show RL sl sx 216 [some (vS), some (vR (some a1)), some (vR l2), some (vI l3)] [vI r3] M2
  obtain ⟨a4, he, h⟩ := h
  refine RN_k (callX_det _) 1 _ _ _ _ (show RL sl sx 217 [some (vS), some (vR (some a1)), some (vR l2), some (vI l3)] [vR l2, vI r3] M2 from ?_)
  subst he
  refine RN_k (callX_det _) 1 _ _ _ _ (show kd M2 a4 10 ∧ callX TBg sl sx 300 160 [vR (some a4)] M2 (fun v M9 => RL sl sx 220 [some (vS), some (vR (some a1)), some (vR (some a4)), some (vI l3)] (pushO v [vI r3]) M9) from ⟨h.1, ?_⟩)
  replace h := h.2
  refine callX_mono (d := 300) (c160 (d := 299) h) ?_
  clear h
  rintro v9 M5 ⟨r6, rfl, h⟩
  show RL sl sx 220 [some (vS), some (vR (some a1)), some (vR (some a4)), some (vI l3)] [vI r6, vI r3] M5
  refine RN_k (callX_det _) 1 _ _ _ _ (show (r3 = r6 → RL sl sx 1953 [some (vS), some (vR (some a1)), some (vR (some a4)), some (vI l3)] [] M5) ∧ (¬ (r3 = r6) → RL sl sx 223 [some (vS), some (vR (some a1)), some (vR (some a4)), some (vI l3)] [] M5) from ⟨fun hc => ?_, fun hc => ?_⟩)
  · replace h := h.1 hc
    exact RN_weak (K := [some (vS), some (vR (some a1)), some (vR (some a4)), some (vI l3)]) (callX_det _) (show _ ∧ _ ∧ _ ∧ _ ∧ True from ⟨rfl, rfl, rfl, rfl, trivial⟩) (tL_1953 hk (some a1) (some a4) l3 _ h)
  · replace h := h.2 hc
    exact RN_k (callX_det _) 2 _ _ _ _ (show some (vI (0 : Int32)) = some (vI 1) from by rw [h])
def wL_33 (sl : Nat) (sx : Nat → Int32) (k18 : Option Nat → Option Nat → Int32 → MM → Prop) (l1 : Option Nat) (l2 : Option Nat) (l3 : Int32) (s0 : Int32) (M : MM) : Prop := (s0 = nI 0 → wL_212 sl sx k18 l1 l2 l3 M) ∧ (s0 = nI 1 → wL_225 sl sx k18 l1 l2 l3 M) ∧ (s0 = nI 2 → wL_239 sl sx k18 l1 l2 l3 M) ∧ (s0 = nI 3 → wL_253 sl sx k18 l1 l2 l3 M) ∧ (s0 = nI 4 → wL_316 sl sx k18 l1 l2 l3 M) ∧ (s0 = nI 5 → wL_339 sl sx k18 l1 l2 l3 M) ∧ (s0 = nI 6 → wL_362 sl sx k18 l1 l2 l3 M) ∧ (s0 = nI 7 → wL_385 sl sx k18 l1 l2 l3 M) ∧ (s0 = nI 8 → wL_418 sl sx k18 l1 l2 l3 M) ∧ (s0 = nI 9 → wL_471 sl sx k18 l1 l2 l3 M) ∧ (s0 = nI 10 → wL_524 sl sx k18 l1 l2 l3 M) ∧ (s0 = nI 11 → wL_567 sl sx k18 l1 l2 l3 M) ∧ (s0 = nI 12 → wL_600 sl sx k18 l1 l2 l3 M) ∧ (s0 = nI 13 → wL_643 sl sx k18 l1 l2 l3 M) ∧ (s0 = nI 14 → wL_676 sl sx k18 l1 l2 l3 M) ∧ (s0 = nI 15 → wL_791 sl sx k18 l1 l2 l3 M) ∧ (s0 = nI 16 → wL_894 sl sx k18 l1 l2 l3 M) ∧ (s0 = nI 17 → wL_957 sl sx k18 l1 l2 l3 M) ∧ (s0 = nI 18 → wL_1020 sl sx k18 l1 l2 l3 M) ∧ (s0 = nI 19 → wL_1063 sl sx k18 l1 l2 l3 M) ∧ (s0 = nI 20 → wL_1106 sl sx k18 l1 l2 l3 M) ∧ (s0 = nI 21 → wL_1149 sl sx k18 l1 l2 l3 M) ∧ (s0 = nI 22 → wL_1240 sl sx k18 l1 l2 l3 M) ∧ (s0 = nI 23 → wL_1309 sl sx k18 l1 l2 l3 M) ∧ (s0 = nI 24 → wL_1352 sl sx k18 l1 l2 l3 M) ∧ (s0 = nI 25 → wL_1415 sl sx k18 l1 l2 l3 M) ∧ (s0 = nI 26 → wL_1458 sl sx k18 l1 l2 l3 M) ∧ (s0 = nI 27 → wL_1491 sl sx k18 l1 l2 l3 M) ∧ (s0 = nI 28 → wL_1524 sl sx k18 l1 l2 l3 M) ∧ (s0 = nI 29 → wL_1577 sl sx k18 l1 l2 l3 M) ∧ (s0 = nI 30 → wL_1600 sl sx k18 l1 l2 l3 M) ∧ (s0 = nI 31 → wL_1613 sl sx k18 l1 l2 l3 M) ∧ (s0 = nI 32 → wL_1656 sl sx k18 l1 l2 l3 M) ∧ (s0 = nI 33 → wL_1699 sl sx k18 l1 l2 l3 M) ∧ (s0 = nI 34 → wL_1742 sl sx k18 l1 l2 l3 M) ∧ (s0 = nI 35 → wL_1755 sl sx k18 l1 l2 l3 M) ∧ (s0 = nI 36 → wL_1778 sl sx k18 l1 l2 l3 M) ∧ (s0 = nI 37 → wL_1831 sl sx k18 l1 l2 l3 M) ∧ (s0 = nI 38 → wL_1884 sl sx k18 l1 l2 l3 M) ∧ (s0 = nI 39 → wL_1917 sl sx k18 l1 l2 l3 M) ∧ (s0 = nI 40 → wL_1940 sl sx k18 l1 l2 l3 M) ∧ ((s0.toInt < 0 ∨ 40 < s0.toInt) → wL_1953 sl sx k18 l1 l2 l3 M)
theorem tL_33 {sl : Nat} {sx : Nat → Int32} {k18 : Option Nat → Option Nat → Int32 → MM → Prop} (hk : ∀ (l1 l2 : Option Nat) (l3 : Int32) (M : MM), k18 l1 l2 l3 M → RL sl sx 18 [some vS, some (vR l1), some (vR l2), some (vI l3)] [] M) (l1 : Option Nat) (l2 : Option Nat) (l3 : Int32) (s0 : Int32) (M : MM) (h : wL_33 sl sx k18 l1 l2 l3 s0 M) : RL sl sx 33 [some (vS), some (vR l1), some (vR l2), some (vI l3)] [vI s0] M := by
  obtain ⟨hq0, hq1, hq2, hq3, hq4, hq5, hq6, hq7, hq8, hq9, hq10, hq11, hq12, hq13, hq14, hq15, hq16, hq17, hq18, hq19, hq20, hq21, hq22, hq23, hq24, hq25, hq26, hq27, hq28, hq29, hq30, hq31, hq32, hq33, hq34, hq35, hq36, hq37, hq38, hq39, hq40, hz⟩ := h
  by_cases hc : s0.toInt < 0 ∨ 40 < s0.toInt
  · refine RN_k (callX_det _) 1 _ _ _ _ (show (s0.toInt < 0 ∨ 40 < s0.toInt → (33 : Int) + 1920 = ((33 : Int) + 1920).toNat ∧ RL sl sx ((33 : Int) + 1920).toNat [some (vS), some (vR l1), some (vR l2), some (vI l3)] [] M) ∧ (¬ s0.toInt < 0 → ¬ 40 < s0.toInt → ∃ off : Int, (#[179, 192, 206, 220, 283, 306, 329, 352, 385, 438, 491, 534, 567, 610, 643, 758, 861, 924, 987, 1030, 1073, 1116, 1207, 1276, 1319, 1382, 1425, 1458, 1491, 1544, 1567, 1580, 1623, 1666, 1709, 1722, 1745, 1798, 1851, 1884, 1907] : Array Int)[(s0.toInt - 0).toNat]? = some off ∧ (33 : Int) + off = ((33 : Int) + off).toNat ∧ RL sl sx ((33 : Int) + off).toNat [some (vS), some (vR l1), some (vR l2), some (vI l3)] [] M) from ⟨fun _ => ⟨by decide, ?_⟩, fun q1 q2 => absurd hc (fun q => q.elim q1 q2)⟩)
    exact RN_weak (K := [some (vS), some (vR l1), some (vR l2), some (vI l3)]) (callX_det _) (show _ ∧ _ ∧ _ ∧ _ ∧ True from ⟨rfl, rfl, rfl, rfl, trivial⟩) (tL_1953 hk l1 l2 l3 _ (hz hc))
  · refine RN_k (callX_det _) 1 _ _ _ _ (show (s0.toInt < 0 ∨ 40 < s0.toInt → (33 : Int) + 1920 = ((33 : Int) + 1920).toNat ∧ RL sl sx ((33 : Int) + 1920).toNat [some (vS), some (vR l1), some (vR l2), some (vI l3)] [] M) ∧ (¬ s0.toInt < 0 → ¬ 40 < s0.toInt → ∃ off : Int, (#[179, 192, 206, 220, 283, 306, 329, 352, 385, 438, 491, 534, 567, 610, 643, 758, 861, 924, 987, 1030, 1073, 1116, 1207, 1276, 1319, 1382, 1425, 1458, 1491, 1544, 1567, 1580, 1623, 1666, 1709, 1722, 1745, 1798, 1851, 1884, 1907] : Array Int)[(s0.toInt - 0).toNat]? = some off ∧ (33 : Int) + off = ((33 : Int) + off).toNat ∧ RL sl sx ((33 : Int) + off).toNat [some (vS), some (vR l1), some (vR l2), some (vI l3)] [] M) from ⟨fun q => absurd q hc, fun _ _ => ?_⟩)
    obtain ⟨k, hk41, hs⟩ : ∃ k : Nat, k < 41 ∧ s0 = nI k := sw_in hc
    clear hz hc
    match k, hk41, hs with
    | 0, _, hs =>
      subst hs
      exact ⟨179, by decide, by decide, (show RL sl sx 212 [some (vS), some (vR l1), some (vR l2), some (vI l3)] [] M from tL_212 hk l1 l2 l3 _ (hq0 rfl))⟩
    | 1, _, hs =>
      subst hs
      exact ⟨192, by decide, by decide, (show RL sl sx 225 [some (vS), some (vR l1), some (vR l2), some (vI l3)] [] M from tL_225 hk l1 l2 l3 _ (hq1 rfl))⟩
    | 2, _, hs =>
      subst hs
      exact ⟨206, by decide, by decide, (show RL sl sx 239 [some (vS), some (vR l1), some (vR l2), some (vI l3)] [] M from tL_239 hk l1 l2 l3 _ (hq2 rfl))⟩
    | 3, _, hs =>
      subst hs
      exact ⟨220, by decide, by decide, (show RL sl sx 253 [some (vS), some (vR l1), some (vR l2), some (vI l3)] [] M from tL_253 hk l1 l2 l3 _ (hq3 rfl))⟩
    | 4, _, hs =>
      subst hs
      exact ⟨283, by decide, by decide, (show RL sl sx 316 [some (vS), some (vR l1), some (vR l2), some (vI l3)] [] M from tL_316 hk l1 l2 l3 _ (hq4 rfl))⟩
    | 5, _, hs =>
      subst hs
      exact ⟨306, by decide, by decide, (show RL sl sx 339 [some (vS), some (vR l1), some (vR l2), some (vI l3)] [] M from tL_339 hk l1 l2 l3 _ (hq5 rfl))⟩
    | 6, _, hs =>
      subst hs
      exact ⟨329, by decide, by decide, (show RL sl sx 362 [some (vS), some (vR l1), some (vR l2), some (vI l3)] [] M from tL_362 hk l1 l2 l3 _ (hq6 rfl))⟩
    | 7, _, hs =>
      subst hs
      exact ⟨352, by decide, by decide, (show RL sl sx 385 [some (vS), some (vR l1), some (vR l2), some (vI l3)] [] M from tL_385 hk l1 l2 l3 _ (hq7 rfl))⟩
    | 8, _, hs =>
      subst hs
      exact ⟨385, by decide, by decide, (show RL sl sx 418 [some (vS), some (vR l1), some (vR l2), some (vI l3)] [] M from tL_418 hk l1 l2 l3 _ (hq8 rfl))⟩
    | 9, _, hs =>
      subst hs
      exact ⟨438, by decide, by decide, (show RL sl sx 471 [some (vS), some (vR l1), some (vR l2), some (vI l3)] [] M from tL_471 hk l1 l2 l3 _ (hq9 rfl))⟩
    | 10, _, hs =>
      subst hs
      exact ⟨491, by decide, by decide, (show RL sl sx 524 [some (vS), some (vR l1), some (vR l2), some (vI l3)] [] M from tL_524 hk l1 l2 l3 _ (hq10 rfl))⟩
    | 11, _, hs =>
      subst hs
      exact ⟨534, by decide, by decide, (show RL sl sx 567 [some (vS), some (vR l1), some (vR l2), some (vI l3)] [] M from tL_567 hk l1 l2 l3 _ (hq11 rfl))⟩
    | 12, _, hs =>
      subst hs
      exact ⟨567, by decide, by decide, (show RL sl sx 600 [some (vS), some (vR l1), some (vR l2), some (vI l3)] [] M from tL_600 hk l1 l2 l3 _ (hq12 rfl))⟩
    | 13, _, hs =>
      subst hs
      exact ⟨610, by decide, by decide, (show RL sl sx 643 [some (vS), some (vR l1), some (vR l2), some (vI l3)] [] M from tL_643 hk l1 l2 l3 _ (hq13 rfl))⟩
    | 14, _, hs =>
      subst hs
      exact ⟨643, by decide, by decide, (show RL sl sx 676 [some (vS), some (vR l1), some (vR l2), some (vI l3)] [] M from tL_676 hk l1 l2 l3 _ (hq14 rfl))⟩
    | 15, _, hs =>
      subst hs
      exact ⟨758, by decide, by decide, (show RL sl sx 791 [some (vS), some (vR l1), some (vR l2), some (vI l3)] [] M from tL_791 hk l1 l2 l3 _ (hq15 rfl))⟩
    | 16, _, hs =>
      subst hs
      exact ⟨861, by decide, by decide, (show RL sl sx 894 [some (vS), some (vR l1), some (vR l2), some (vI l3)] [] M from tL_894 hk l1 l2 l3 _ (hq16 rfl))⟩
    | 17, _, hs =>
      subst hs
      exact ⟨924, by decide, by decide, (show RL sl sx 957 [some (vS), some (vR l1), some (vR l2), some (vI l3)] [] M from tL_957 hk l1 l2 l3 _ (hq17 rfl))⟩
    | 18, _, hs =>
      subst hs
      exact ⟨987, by decide, by decide, (show RL sl sx 1020 [some (vS), some (vR l1), some (vR l2), some (vI l3)] [] M from tL_1020 hk l1 l2 l3 _ (hq18 rfl))⟩
    | 19, _, hs =>
      subst hs
      exact ⟨1030, by decide, by decide, (show RL sl sx 1063 [some (vS), some (vR l1), some (vR l2), some (vI l3)] [] M from tL_1063 hk l1 l2 l3 _ (hq19 rfl))⟩
    | 20, _, hs =>
      subst hs
      exact ⟨1073, by decide, by decide, (show RL sl sx 1106 [some (vS), some (vR l1), some (vR l2), some (vI l3)] [] M from tL_1106 hk l1 l2 l3 _ (hq20 rfl))⟩
    | 21, _, hs =>
      subst hs
      exact ⟨1116, by decide, by decide, (show RL sl sx 1149 [some (vS), some (vR l1), some (vR l2), some (vI l3)] [] M from tL_1149 hk l1 l2 l3 _ (hq21 rfl))⟩
    | 22, _, hs =>
      subst hs
      exact ⟨1207, by decide, by decide, (show RL sl sx 1240 [some (vS), some (vR l1), some (vR l2), some (vI l3)] [] M from tL_1240 hk l1 l2 l3 _ (hq22 rfl))⟩
    | 23, _, hs =>
      subst hs
      exact ⟨1276, by decide, by decide, (show RL sl sx 1309 [some (vS), some (vR l1), some (vR l2), some (vI l3)] [] M from tL_1309 hk l1 l2 l3 _ (hq23 rfl))⟩
    | 24, _, hs =>
      subst hs
      exact ⟨1319, by decide, by decide, (show RL sl sx 1352 [some (vS), some (vR l1), some (vR l2), some (vI l3)] [] M from tL_1352 hk l1 l2 l3 _ (hq24 rfl))⟩
    | 25, _, hs =>
      subst hs
      exact ⟨1382, by decide, by decide, (show RL sl sx 1415 [some (vS), some (vR l1), some (vR l2), some (vI l3)] [] M from tL_1415 hk l1 l2 l3 _ (hq25 rfl))⟩
    | 26, _, hs =>
      subst hs
      exact ⟨1425, by decide, by decide, (show RL sl sx 1458 [some (vS), some (vR l1), some (vR l2), some (vI l3)] [] M from tL_1458 hk l1 l2 l3 _ (hq26 rfl))⟩
    | 27, _, hs =>
      subst hs
      exact ⟨1458, by decide, by decide, (show RL sl sx 1491 [some (vS), some (vR l1), some (vR l2), some (vI l3)] [] M from tL_1491 hk l1 l2 l3 _ (hq27 rfl))⟩
    | 28, _, hs =>
      subst hs
      exact ⟨1491, by decide, by decide, (show RL sl sx 1524 [some (vS), some (vR l1), some (vR l2), some (vI l3)] [] M from tL_1524 hk l1 l2 l3 _ (hq28 rfl))⟩
    | 29, _, hs =>
      subst hs
      exact ⟨1544, by decide, by decide, (show RL sl sx 1577 [some (vS), some (vR l1), some (vR l2), some (vI l3)] [] M from tL_1577 hk l1 l2 l3 _ (hq29 rfl))⟩
    | 30, _, hs =>
      subst hs
      exact ⟨1567, by decide, by decide, (show RL sl sx 1600 [some (vS), some (vR l1), some (vR l2), some (vI l3)] [] M from tL_1600 hk l1 l2 l3 _ (hq30 rfl))⟩
    | 31, _, hs =>
      subst hs
      exact ⟨1580, by decide, by decide, (show RL sl sx 1613 [some (vS), some (vR l1), some (vR l2), some (vI l3)] [] M from tL_1613 hk l1 l2 l3 _ (hq31 rfl))⟩
    | 32, _, hs =>
      subst hs
      exact ⟨1623, by decide, by decide, (show RL sl sx 1656 [some (vS), some (vR l1), some (vR l2), some (vI l3)] [] M from tL_1656 hk l1 l2 l3 _ (hq32 rfl))⟩
    | 33, _, hs =>
      subst hs
      exact ⟨1666, by decide, by decide, (show RL sl sx 1699 [some (vS), some (vR l1), some (vR l2), some (vI l3)] [] M from tL_1699 hk l1 l2 l3 _ (hq33 rfl))⟩
    | 34, _, hs =>
      subst hs
      exact ⟨1709, by decide, by decide, (show RL sl sx 1742 [some (vS), some (vR l1), some (vR l2), some (vI l3)] [] M from tL_1742 hk l1 l2 l3 _ (hq34 rfl))⟩
    | 35, _, hs =>
      subst hs
      exact ⟨1722, by decide, by decide, (show RL sl sx 1755 [some (vS), some (vR l1), some (vR l2), some (vI l3)] [] M from tL_1755 hk l1 l2 l3 _ (hq35 rfl))⟩
    | 36, _, hs =>
      subst hs
      exact ⟨1745, by decide, by decide, (show RL sl sx 1778 [some (vS), some (vR l1), some (vR l2), some (vI l3)] [] M from tL_1778 hk l1 l2 l3 _ (hq36 rfl))⟩
    | 37, _, hs =>
      subst hs
      exact ⟨1798, by decide, by decide, (show RL sl sx 1831 [some (vS), some (vR l1), some (vR l2), some (vI l3)] [] M from tL_1831 hk l1 l2 l3 _ (hq37 rfl))⟩
    | 38, _, hs =>
      subst hs
      exact ⟨1851, by decide, by decide, (show RL sl sx 1884 [some (vS), some (vR l1), some (vR l2), some (vI l3)] [] M from tL_1884 hk l1 l2 l3 _ (hq38 rfl))⟩
    | 39, _, hs =>
      subst hs
      exact ⟨1884, by decide, by decide, (show RL sl sx 1917 [some (vS), some (vR l1), some (vR l2), some (vI l3)] [] M from tL_1917 hk l1 l2 l3 _ (hq39 rfl))⟩
    | 40, _, hs =>
      subst hs
      exact ⟨1907, by decide, by decide, (show RL sl sx 1940 [some (vS), some (vR l1), some (vR l2), some (vI l3)] [] M from tL_1940 hk l1 l2 l3 _ (hq40 rfl))⟩
    | k + 41, hk41, _ => exact absurd hk41 (by omega)
def wL_18 (sl : Nat) (sx : Nat → Int32) : Nat → Option Nat → Option Nat → Int32 → MM → Prop
  | 0 => fun _ _ _ _ => False
  | n + 1 => fun l1 l2 l3 M => (((Int32.ofNat sl) - (9 : Int32)) < l3 → ((1 : Int32) = 1)) ∧ (¬ (((Int32.ofNat sl) - (9 : Int32)) < l3) → (vp_in l3 sl ∧ (wL_33 sl sx (fun y0 y1 y2 y3 => wL_18 sl sx n y0 y1 y2 y3) l1 l2 l3 ((sx l3.toNatClampNeg) &&& (63 : Int32)) M)))
theorem tL_18 {sl : Nat} {sx : Nat → Int32} (n : Nat) : ∀ (l1 l2 : Option Nat) (l3 : Int32) (M : MM) (_ : wL_18 sl sx n l1 l2 l3 M), RL sl sx 18 [some vS, some (vR l1), some (vR l2), some (vI l3)] [] M := by
  induction n with
  | zero => intro l1 l2 l3 M h; cases h
  | succ n ih =>
    intro l1 l2 l3 M h
    refine RN_k (callX_det _) 6 _ _ _ _ (show (((Int32.ofNat sl) - (9 : Int32)) < l3 → RL sl sx 1959 [some (vS), some (vR l1), some (vR l2), some (vI l3)] [] M) ∧ (¬ (((Int32.ofNat sl) - (9 : Int32)) < l3) → RL sl sx 27 [some (vS), some (vR l1), some (vR l2), some (vI l3)] [] M) from ⟨fun hc => ?_, fun hc => ?_⟩)
    · replace h := h.1 hc
      exact RN_k (callX_det _) 2 _ _ _ _ (show some (vI (1 : Int32)) = some (vI 1) from by rw [h])
    · replace h := h.2 hc
      refine RN_k (callX_det _) 3 _ _ _ _ (show vp_in l3 sl ∧ RL sl sx 30 [some (vS), some (vR l1), some (vR l2), some (vI l3)] [vI (sx l3.toNatClampNeg)] M from ⟨h.1, ?_⟩)
      replace h := h.2
      refine RN_k (callX_det _) 2 _ _ _ _ (show RL sl sx 33 [some (vS), some (vR l1), some (vR l2), some (vI l3)] [vI ((sx l3.toNatClampNeg) &&& (63 : Int32))] M from ?_)
      exact RN_weak (K := [some (vS), some (vR l1), some (vR l2), some (vI l3)]) (callX_det _) (show _ ∧ _ ∧ _ ∧ _ ∧ True from ⟨rfl, rfl, rfl, rfl, trivial⟩) (tL_33 ih l1 l2 l3 ((sx l3.toNatClampNeg) &&& (63 : Int32)) _ h)
def wL (sl : Nat) (sx : Nat → Int32) (M : MM) : Prop := (mS M).length + 1 ≤ 0 + 600000 ∧ mT M + 19 ≤ 0 + 7302250 ∧ (kd (mN M 9 19) ((mS M).length) 9 ∧ (mS (mN M 9 19)).length + 202 ≤ 0 + 600000 ∧ mT (mN M 9 19) + 4167 ≤ 0 + 7302250 ∧ w0 ((mS M).length) (mS (mN M 9 19)).length (mT (mN M 9 19)) (mN M 9 19) (fun M1 => (mS M1).length + 1 ≤ 0 + 600000 ∧ mT M1 + 71 ≤ 0 + 7302250 ∧ (kd (mN M1 10 71) ((mS M1).length) 10 ∧ (mS (mN M1 10 71)).length + 32 ≤ 0 + 600000 ∧ mT (mN M1 10 71) + 5060 ≤ 0 + 7302250 ∧ w159 ((mS M1).length) (mS (mN M1 10 71)).length (mT (mN M1 10 71)) (mN M1 10 71) (fun M2 => ∃ n, wL_18 sl sx n (some ((mS M).length)) (some ((mS M1).length)) (0 : Int32) M2))))
theorem tL_E {sl : Nat} {sx : Nat → Int32} (M : MM) (h : wL sl sx M) : RL sl sx 0 [some vS, none, none, none] [] M := by
  refine RN_k (callX_det _) 1 _ _ _ _ (show (mS M).length + 1 ≤ 0 + 600000 ∧ mT M + 19 ≤ 0 + 7302250 ∧ RL sl sx 3 [some (vS), none, none, none] [vR (some ((mS M).length))] (mN M 9 19) from ⟨h.1, h.2.1, ?_⟩)
  replace h := h.2.2
  refine RN_k (callX_det _) 2 _ _ _ _ (show kd (mN M 9 19) ((mS M).length) 9 ∧ (mS (mN M 9 19)).length + 202 ≤ 0 + 600000 ∧ mT (mN M 9 19) + 4167 ≤ 0 + 7302250 ∧ callX TBg sl sx 300 0 [vR (some ((mS M).length))] (mN M 9 19) (fun v M9 => RL sl sx 7 [some (vS), none, none, none] (pushO v [vR (some ((mS M).length))]) M9) from ⟨h.1, h.2.1, h.2.2.1, ?_⟩)
  replace h := h.2.2.2
  refine callX_mono (d := 300) (c0 (d := 296) h) ?_
  clear h
  rintro v9 M1 ⟨rfl, h⟩
  show RL sl sx 7 [some (vS), none, none, none] [vR (some ((mS M).length))] M1
  refine RN_k (callX_det _) 2 _ _ _ _ (show (mS M1).length + 1 ≤ 0 + 600000 ∧ mT M1 + 71 ≤ 0 + 7302250 ∧ RL sl sx 11 [some (vS), some (vR (some ((mS M).length))), none, none] [vR (some ((mS M1).length))] (mN M1 10 71) from ⟨h.1, h.2.1, ?_⟩)
  replace h := h.2.2
  refine RN_k (callX_det _) 2 _ _ _ _ (show kd (mN M1 10 71) ((mS M1).length) 10 ∧ (mS (mN M1 10 71)).length + 32 ≤ 0 + 600000 ∧ mT (mN M1 10 71) + 5060 ≤ 0 + 7302250 ∧ callX TBg sl sx 300 159 [vR (some ((mS M1).length))] (mN M1 10 71) (fun v M9 => RL sl sx 15 [some (vS), some (vR (some ((mS M).length))), none, none] (pushO v [vR (some ((mS M1).length))]) M9) from ⟨h.1, h.2.1, h.2.2.1, ?_⟩)
  replace h := h.2.2.2
  refine callX_mono (d := 300) (c159 (d := 299) h) ?_
  clear h
  rintro v9 M2 ⟨rfl, h⟩
  show RL sl sx 15 [some (vS), some (vR (some ((mS M).length))), none, none] [vR (some ((mS M1).length))] M2
  refine RN_k (callX_det _) 3 _ _ _ _ (show RL sl sx 18 [some (vS), some (vR (some ((mS M).length))), some (vR (some ((mS M1).length))), some (vI (0 : Int32))] [] M2 from ?_)
  obtain ⟨n2, h⟩ := h
  exact RN_weak (K := [some (vS), some (vR (some ((mS M).length))), some (vR (some ((mS M1).length))), some (vI (0 : Int32))]) (callX_det _) (show _ ∧ _ ∧ _ ∧ _ ∧ True from ⟨rfl, rfl, rfl, rfl, trivial⟩) (tL_18 n2 (some ((mS M).length)) (some ((mS M1).length)) (0 : Int32) _ h)
theorem law_of_wL {L : Nat} {xs : Nat → Int32} (h : wL L xs M00) : LawRuns L xs := tL_E M00 h
