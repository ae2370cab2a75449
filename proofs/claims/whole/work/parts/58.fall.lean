/-! ===== freesAll ===== -/
def FAll (M0 : MM) (a b : WY) (n d : Int) (M : MM) : Prop :=
  Fr sFA M0 M ∧ (∀ s, s < 128 → mI M 215 s = bI false) ∧
  (∀ l i j, isSd a b l i j → rfS M (sX l i j) (xL a b l i j) (xF a b l i j) (xS a b l i j) n d) ∧
  (∀ s, s < 128 → (∀ l i j, isSd a b l i j → sX l i j ≠ s) → mI M 214 s = bI false ∧ mI M 216 s = bI false)
theorem FI_c {M0 M : MM} {a b : WY} {n d : Int} {l l2 : Bool} {i j i2 j2 : Nat} (h : FI M0 a b n d l i j M) (he : ∀ l' i' j', isSd a b l' i' j' → (dn l i j l' i' j' ↔ dn l2 i2 j2 l' i' j')) : FI M0 a b n d l2 i2 j2 M :=
  ⟨h.1, h.2.1, fun l' i' j' x y => h.2.2.1 l' i' j' x ((he l' i' j' x).mpr y), fun s q z => h.2.2.2 s q (fun l' i' j' x y => z l' i' j' x ((he l' i' j' x).mp y))⟩
theorem w216_48_s {M0 : MM} {a b : WY} {n d : Int} {i : Nat} {k38 : Nat → Int32 → MM → Prop} {P : MM → Prop} (hL0 : Lay M0) (hR : RAB M0 a b) (hD : REd M0 n d) (ga : gW a) (gb : gW b) (hE : gE n d) (hi : i < wn a) (hX : ∀ M', FI M0 a b n d true (i + 1) 0 M' → k38 203 (jI ((i + 1 : Nat) : Int)) M') :
    ∀ (q j : Nat) (M : MM), j + q + 1 = wn b → FI M0 a b n d true i j M → w216_48 k38 (q + 1) 203 (jI (i : Int)) (jI (j : Int)) M P := by
  have a2 := ga.2.1
  have b2 := gb.2.1
  intro q
  induction q with
  | zero =>
    intro j M hj hI
    have hL := hI.1.1 hL0
    refine ⟨kd_203 hL, ?_⟩
    rw [(RAB_A hI.1 hR).2.1]
    simp (disch := omega) only [jI_lit, jL_lit, jI_add, jI_sub, jI_mul, jI_neg, jL_add, jL_sub, jL_mul, jL_neg, jL_i, jI_eq, jI_le, jI_lt, jL_eq, jL_le, jL_lt, jI_l, c_s1]
    refine br_t (by omega) (hX M (FI_c hI (fun l' i' j' x => ?_)))
    unfold dn
    cases l' with
    | false => simp
    | true => have x' : i' < wn a ∧ j' + 1 < wn b := x; simp; omega
  | succ q ih =>
    intro j M hj hI
    have hL := hI.1.1 hL0
    refine ⟨kd_203 hL, ?_⟩
    rw [(RAB_A hI.1 hR).2.1]
    simp (disch := omega) only [jI_lit, jL_lit, jI_add, jI_sub, jI_mul, jI_neg, jL_add, jL_sub, jL_mul, jL_neg, jL_i, jI_eq, jI_le, jI_lt, jL_eq, jL_le, jL_lt, jI_l, c_s1]
    refine br_f (by omega) ⟨kd_203 hL, ?_⟩
    exact FI_s (l := true) hL0 hR hD ga gb hE ⟨hi, by omega⟩ hI (fun M' hI' => ih (j + 1) M' (by omega) hI')
theorem w216_91_s {M0 : MM} {a b : WY} {n d : Int} {i : Nat} {k79 : Nat → Int32 → MM → Prop} {P : MM → Prop} (hL0 : Lay M0) (hR : RAB M0 a b) (hD : REd M0 n d) (ga : gW a) (gb : gW b) (hE : gE n d) (hi : i + 1 < wn a) (hX : ∀ M', FI M0 a b n d false (i + 1) 0 M' → k79 203 (jI ((i + 1 : Nat) : Int)) M') :
    ∀ (q j : Nat) (M : MM), j + q = wn b → FI M0 a b n d false i j M → w216_91 k79 (q + 1) 203 (jI (i : Int)) (jI (j : Int)) M P := by
  have a2 := ga.2.1
  have b2 := gb.2.1
  intro q
  induction q with
  | zero =>
    intro j M hj hI
    have hL := hI.1.1 hL0
    refine ⟨kd_203 hL, ?_⟩
    rw [(RAB_A hI.1 hR).2.1]
    simp (disch := omega) only [jI_lit, jL_lit, jI_add, jI_sub, jI_mul, jI_neg, jL_add, jL_sub, jL_mul, jL_neg, jL_i, jI_eq, jI_le, jI_lt, jL_eq, jL_le, jL_lt, jI_l, c_s1]
    refine br_t (by omega) (hX M (FI_c hI (fun l' i' j' x => ?_)))
    unfold dn
    cases l' with
    | true => simp
    | false => have x' : i' + 1 < wn a ∧ j' < wn b := x; simp; omega
  | succ q ih =>
    intro j M hj hI
    have hL := hI.1.1 hL0
    refine ⟨kd_203 hL, ?_⟩
    rw [(RAB_A hI.1 hR).2.1]
    simp (disch := omega) only [jI_lit, jL_lit, jI_add, jI_sub, jI_mul, jI_neg, jL_add, jL_sub, jL_mul, jL_neg, jL_i, jI_eq, jI_le, jI_lt, jL_eq, jL_le, jL_lt, jI_l, c_s1]
    refine br_f (by omega) ⟨kd_203 hL, ?_⟩
    exact FI_s (l := false) hL0 hR hD ga gb hE ⟨hi, by omega⟩ hI (fun M' hI' => ih (j + 1) M' (by omega) hI')
theorem w216_79_s {M0 : MM} {a b : WY} {n d : Int} {P : MM → Prop} (hL0 : Lay M0) (hR : RAB M0 a b) (hD : REd M0 n d) (ga : gW a) (gb : gW b) (hE : gE n d) (hX : ∀ M', FAll M0 a b n d M' → P M') :
    ∀ (q i : Nat) (M : MM), i + q + 1 = wn a → FI M0 a b n d false i 0 M → w216_79 (q + 1) 203 (jI (i : Int)) M P := by
  have a2 := ga.2.1
  have b1 := gb.1
  intro q
  induction q with
  | zero =>
    intro i M hi hI
    have hL := hI.1.1 hL0
    refine ⟨kd_203 hL, ?_⟩
    rw [(RAB_A hI.1 hR).1]
    simp (disch := omega) only [jI_lit, jL_lit, jI_add, jI_sub, jI_mul, jI_neg, jL_add, jL_sub, jL_mul, jL_neg, jL_i, jI_eq, jI_le, jI_lt, jL_eq, jL_le, jL_lt, jI_l]
    have al : ∀ l' i' j', isSd a b l' i' j' → dn false i 0 l' i' j' := by
      intro l' i' j' x
      unfold dn
      cases l' with
      | true => exact Or.inl ⟨rfl, rfl⟩
      | false => have x' : i' + 1 < wn a ∧ j' < wn b := x; exact Or.inr ⟨rfl, by omega⟩
    exact br_t (by omega) (hX M ⟨hI.1, hI.2.1, fun l' i' j' x => hI.2.2.1 l' i' j' x (al l' i' j' x), fun s q z => hI.2.2.2 s q (fun l' i' j' x _ => z l' i' j' x)⟩)
  | succ q ih =>
    intro i M hi hI
    have hL := hI.1.1 hL0
    refine ⟨kd_203 hL, ?_⟩
    rw [(RAB_A hI.1 hR).1]
    simp (disch := omega) only [jI_lit, jL_lit, jI_add, jI_sub, jI_mul, jI_neg, jL_add, jL_sub, jL_mul, jL_neg, jL_i, jI_eq, jI_le, jI_lt, jL_eq, jL_le, jL_lt, jI_l]
    exact br_f (by omega) ⟨wn b + 1, w216_91_s hL0 hR hD ga gb hE (by omega) (fun M' hI' => ih (i + 1) M' (by omega) hI') (wn b) 0 M (by omega) hI⟩
theorem w216_38_s {M0 : MM} {a b : WY} {n d : Int} {P : MM → Prop} (hL0 : Lay M0) (hR : RAB M0 a b) (hD : REd M0 n d) (ga : gW a) (gb : gW b) (hE : gE n d) (hX : ∀ M', FAll M0 a b n d M' → P M') :
    ∀ (q i : Nat) (M : MM), i + q = wn a → FI M0 a b n d true i 0 M → w216_38 (q + 1) 203 (jI (i : Int)) M P := by
  have a1 := ga.1
  have a2 := ga.2.1
  have b1 := gb.1
  intro q
  induction q with
  | zero =>
    intro i M hi hI
    have hL := hI.1.1 hL0
    refine ⟨kd_203 hL, ?_⟩
    rw [(RAB_A hI.1 hR).1]
    simp (disch := omega) only [jI_lit, jL_lit, jI_add, jI_sub, jI_mul, jI_neg, jL_add, jL_sub, jL_mul, jL_neg, jL_i, jI_eq, jI_le, jI_lt, jL_eq, jL_le, jL_lt, jI_l]
    refine br_t (by omega) ⟨wn a - 1 + 1, w216_79_s hL0 hR hD ga gb hE hX (wn a - 1) 0 M (by omega) (FI_c hI (fun l' i' j' x => ?_))⟩
    unfold dn
    cases l' with
    | false => simp
    | true => have x' : i' < wn a ∧ j' + 1 < wn b := x; simp; omega
  | succ q ih =>
    intro i M hi hI
    have hL := hI.1.1 hL0
    refine ⟨kd_203 hL, ?_⟩
    rw [(RAB_A hI.1 hR).1]
    simp (disch := omega) only [jI_lit, jL_lit, jI_add, jI_sub, jI_mul, jI_neg, jL_add, jL_sub, jL_mul, jL_neg, jL_i, jI_eq, jI_le, jI_lt, jL_eq, jL_le, jL_lt, jI_l]
    exact br_f (by omega) ⟨wn b - 1 + 1, w216_48_s hL0 hR hD ga gb hE (by omega) (fun M' hI' => ih (i + 1) M' (by omega) hI') (wn b - 1) 0 M (by omega) hI⟩
theorem w216_2_s {M0 : MM} {a b : WY} {n d : Int} {P : MM → Prop} (hL0 : Lay M0) (hR : RAB M0 a b) (hD : REd M0 n d) (ga : gW a) (gb : gW b) (hE : gE n d) (hX : ∀ M', FAll M0 a b n d M' → P M') :
    ∀ (q k : Nat) (M : MM), k + q = 128 → Fr sFA M0 M → (∀ s, s < k → mI M 214 s = bI false ∧ mI M 215 s = bI false ∧ mI M 216 s = bI false) → w216_2 (q + 1) 203 (jI (k : Int)) M P := by
  intro q
  induction q with
  | zero =>
    intro k M hk hF hS
    unfold w216_2
    simp (disch := omega) only [jI_lit, jL_lit, jI_add, jI_sub, jI_mul, jI_neg, jL_add, jL_sub, jL_mul, jL_neg, jL_i, jI_eq, jI_le, jI_lt, jL_eq, jL_le, jL_lt, jI_l]
    refine br_t (by omega) ⟨wn a + 1, w216_38_s hL0 hR hD ga gb hE hX (wn a) 0 M (by omega) ⟨hF, fun s q => (hS s (by omega)).2.1, fun l' i' j' x y => ?_, fun s q _ => ⟨(hS s (by omega)).1, (hS s (by omega)).2.2⟩⟩⟩
    unfold dn at y
    rcases y with y | y
    · simp at y
    · omega
  | succ q ih =>
    intro k M hk hF hS
    have hL := hF.1 hL0
    unfold w216_2
    simp (disch := omega) only [jI_lit, jL_lit, jI_add, jI_sub, jI_mul, jI_neg, jL_add, jL_sub, jL_mul, jL_neg, jL_i, jI_eq, jI_le, jI_lt, jL_eq, jL_le, jL_lt, jI_l, kd_sI, kd_sL, kd_sR, true_and, and_true, Option.some.injEq, exists_eq_left', gI_y, gI_n, gL_y, gL_n, gR_y, gR_n, gI_sL, gI_sR, gL_sI, gL_sR, gR_sI, gR_sL, kd_203 hL, rf_203_34 hL, rf_203_35 hL, rf_203_36 hL, jI_cn, i214 hL, i215 (lay_sI hL), i216 (lay_sI (lay_sI hL)), j_a0, c_s1]
    refine br_f (by omega) (ih (k + 1) _ (by omega) (Fr_sI (Fr_sI (Fr_sI hF (sFA_t (by omega))) (sFA_t (by omega))) (sFA_t (by omega))) (fun s hs => ?_))
    by_cases e : s = k
    · subst e
      refine ⟨?_, ?_, ?_⟩ <;> simp (disch := omega) only [gI_y, gI_n, gL_y, gL_n, gR_y, gR_n, gI_sL, gI_sR, gL_sI, gL_sR, gR_sI, gR_sL] <;> rfl
    · have := hS s (by omega)
      refine ⟨?_, ?_, ?_⟩ <;> simp (disch := omega) only [gI_y, gI_n, gL_y, gL_n, gR_y, gR_n, gI_sL, gI_sR, gL_sI, gL_sR, gR_sI, gR_sL, this]
theorem w216_s {M0 : MM} {a b : WY} {n d : Int} {P : MM → Prop} (hL0 : Lay M0) (hR : RAB M0 a b) (hD : REd M0 n d) (ga : gW a) (gb : gW b) (hE : gE n d) (hX : ∀ M', FAll M0 a b n d M' → P M') : w216 203 M0 P :=
  ⟨129, w216_2_s hL0 hR hD ga gb hE hX 128 0 M0 (by omega) Fr_r (fun s hs => by omega)⟩
