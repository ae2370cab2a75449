/-! ===== reach: both sides ===== -/
def Rc (G : GG) (i j : Nat) : Bool := (lf G i j).isSome || (lw G i j).isSome
abbrev T3 : Type := Int × Int × Int
def stp (R : Nat → Nat → Bool) (i j : Nat) (s : T3) : T3 := if R i j = true then (s.1 + 1, max s.2.1 i, max s.2.2 j) else s
def rowF (R : Nat → Nat → Bool) (i : Nat) : Nat → Nat → T3 → T3
  | 0, _, s => s
  | q + 1, j, s => rowF R i q (j + 1) (stp R i j s)
def allF (R : Nat → Nat → Bool) (B : Nat) : Nat → Nat → T3 → T3
  | 0, _, s => s
  | q + 1, i, s => allF R B q (i + 1) (rowF R i B 0 s)
def okT (m : Nat) (s : T3) : Prop := 0 ≤ s.1 ∧ s.1 ≤ m ∧ -1 ≤ s.2.1 ∧ s.2.1 ≤ 7 ∧ -1 ≤ s.2.2 ∧ s.2.2 ≤ 7
theorem okT_s {R : Nat → Nat → Bool} {i j m : Nat} {s : T3} (h : okT m s) (hi : i < 8) (hj : j < 8) : okT (m + 1) (stp R i j s) := by
  unfold okT stp at *
  by_cases c : R i j = true
  · rw [if_pos c]; dsimp only; omega
  · rw [if_neg c]; omega
def reaV (a b : WY) (n d : Int) (what : Int32) : Int32 × Int32 :=
  if what = 0 then (jI (allF (Rc (geo a b n d)) (wn b - 1) (wn a - 1) 0 (0, -1, -1)).1, 0)
  else if (allF (Rc (geo a b n d)) (wn b - 1) (wn a - 1) 0 (0, -1, -1)).1 = 0 then (-1, 5)
  else (jI (if what = 1 then (allF (Rc (geo a b n d)) (wn b - 1) (wn a - 1) 0 (0, -1, -1)).2.1 else (allF (Rc (geo a b n d)) (wn b - 1) (wn a - 1) 0 (0, -1, -1)).2.2), 0)
/-- calls of two ways, a leash and a number 0 to 2 -/
def clC (k : Nat) (l1 l2 l3 l4 l5 : Int32) : Int32 := if (lsb l3 l4 && frb l5 0 2) = true then chk2 k l1 l2 else 1
theorem clC_0 {k : Nat} {l1 l2 l3 l4 l5 : Int32} (hk : k ≤ 4) (hs : clC k l1 l2 l3 l4 l5 = 0) : (lsb l3 l4 && frb l5 0 2) = true ∧ chk2 k l1 l2 = 0 ∧ ∃ (w o : Nat) (n d : Int), l1 = jI (w : Int) ∧ l2 = jI (o : Int) ∧ l3 = jI n ∧ l4 = jI d ∧ w < k ∧ o < k ∧ w ≠ o ∧ 0 ≤ n ∧ n ≤ 100000 ∧ 1 ≤ d ∧ d ≤ 1000 ∧ l1.toNatClampNeg = w ∧ l2.toNatClampNeg = o ∧ l3.toInt = n ∧ l4.toInt = d := by
  unfold clC at hs
  have hb : (lsb l3 l4 && frb l5 0 2) = true := by
    by_cases z : (lsb l3 l4 && frb l5 0 2) = true
    · exact z
    · rw [if_neg z] at hs; exact absurd hs (by decide)
  rw [if_pos hb] at hs
  have hs2 := hs
  have hb2 := hb
  obtain ⟨n, d, rfl, rfl, n0, n1, d0, d1⟩ := lsb_j (Bool.and_eq_true_iff.mp hb).1
  obtain ⟨w, o, rfl, rfl, hw, ho, hwo⟩ := chk2_0 hk hs
  exact ⟨hb2, hs2, w, o, n, d, rfl, rfl, rfl, rfl, hw, ho, hwo, n0, n1, d0, d1, jI_cn (by omega), jI_cn (by omega), jI_toInt (by omega) (by omega), jI_toInt (by omega) (by omega)⟩
def reaA (k : Nat) (W : Nat → WY) (l1 l2 l3 l4 l5 : Int32) : Int32 × Int32 :=
  if clC k l1 l2 l3 l4 l5 = 0 then reaV (W l1.toNatClampNeg) (W l2.toNatClampNeg) l3.toInt l4.toInt l5 else (-1, clC k l1 l2 l3 l4 l5)
theorem w104_s {M : MM} {a b : WY} {n d : Int} {i j : Nat} {P : Int32 → MM → Prop} (hL : Lay M) (hM : MS M a b n d) (ga : gW a) (gb : gW b) (hi : i + 1 < wn a) (hj : j + 1 < wn b) (hP : P (bI (Rc (geo a b n d) i j)) M) : w104 59 (jI (i : Int)) (jI (j : Int)) M P := by
  have a2 := ga.2.1
  have b2 := gb.2.1
  have q1 := (hM.2.2.1 i j (by omega) hj).2
  have q2 := (hM.2.2.2 i j hi (by omega)).2
  have hk1 : kd M (oF i j) 7 := kd_S hL (by omega)
  have hk2 : kd M (oL i j) 7 := kd_S hL (by omega)
  unfold Rc at hP
  refine ⟨kd_59 hL, w83_s hL (by omega) ⟨oF i j, rfl, hk1, ?_⟩⟩
  rw [q1]
  cases h1 : lf (geo a b n d) i j with
  | some t =>
    rw [h1] at hP
    exact ⟨fun _ => ⟨Or.inr rfl, hP⟩, fun z => absurd z (by simp)⟩
  | none =>
    rw [h1] at hP
    refine ⟨fun z => absurd rfl z, fun _ => ⟨kd_59 hL, w82_s hL (by omega) ⟨oL i j, rfl, hk2, ?_⟩⟩⟩
    rw [q2]
    cases h2 : lw (geo a b n d) i j with
    | some t =>
      rw [h2] at hP
      exact ⟨fun z => absurd z (by simp), fun _ => ⟨Or.inr rfl, hP⟩⟩
    | none =>
      rw [h2] at hP
      exact ⟨fun _ => ⟨Or.inl rfl, hP⟩, fun z => absurd rfl z⟩
theorem w33_s {M : MM} {x y : Int} {P : Int32 → MM → Prop} (h1 : -2147483648 ≤ x) (h2 : x < 2147483648) (h3 : -2147483648 ≤ y) (h4 : y < 2147483648) (hP : P (jI (max x y)) M) : w33 (jI x) (jI y) M P := by
  have hQ : ∀ r, r = max x y → P (jI r) M := fun r e => e ▸ hP
  simp (disch := omega) only [w33, w33_10, jI_eq, jI_le, jI_lt, jL_eq, jL_le, jL_lt, jI_l]
  exact And.intro (fun _ => hQ _ (by omega)) (fun _ => hQ _ (by omega))
def pick (what : Int32) (s : T3) : Int := if what = 1 then s.2.1 else s.2.2
theorem w123_77_s {M : MM} {a b : WY} {n d : Int} {i : Nat} {what : Int32} {k64 : Nat → Int32 → Option Nat → Int32 → Int32 → Int32 → MM → Prop} {P : Int32 → MM → Prop} (hL : Lay M) (hM : MS M a b n d) (ga : gW a) (gb : gW b) (hi : i + 1 < wn a) :
    ∀ (q j : Nat) (s : T3), j + q + 1 = wn b → okT (8 * i + j) s → (∀ s', s' = rowF (Rc (geo a b n d)) i q j s → okT (8 * (i + 1)) s' → k64 0 what (some 59) (jI s'.1) (jI (pick what s')) (jI ((i + 1 : Nat) : Int)) M) → w123_77 k64 (q + 1) 0 what (some 59) (jI s.1) (jI (pick what s)) (jI (i : Int)) (jI (j : Int)) M P := by
  have a2 := ga.2.1
  have b2 := gb.2.1
  intro q
  induction q with
  | zero =>
    intro j s hj hk hX
    refine ⟨59, rfl, kd_59 hL, ?_⟩
    rw [hM.2.1]
    simp (disch := omega) only [jI_lit, jL_lit, jI_add, jI_sub, jI_mul, jI_neg, jL_add, jL_sub, jL_mul, jL_neg, jL_i, jI_eq, jI_le, jI_lt, jL_eq, jL_le, jL_lt, jI_l, c_s1]
    refine br_t (by omega) (hX s rfl ?_)
    unfold okT at *
    omega
  | succ q ih =>
    intro j s hj hk hX
    refine ⟨59, rfl, kd_59 hL, ?_⟩
    rw [hM.2.1]
    simp (disch := omega) only [jI_eq, jI_le, jI_lt, jL_eq, jL_le, jL_lt, jI_l]
    refine br_f (by omega) ⟨kd_59 hL, w104_s hL hM ga gb hi (by omega) ?_⟩
    have hk' := okT_s (R := Rc (geo a b n d)) (i := i) (j := j) hk (by omega) (by omega)
    have nx := ih (j + 1) (stp (Rc (geo a b n d)) i j s) (by omega) hk' hX
    unfold okT at hk
    cases hc : Rc (geo a b n d) i j with
    | false =>
      refine br_t rfl ?_
      unfold stp at nx
      rw [if_neg (by rw [hc]; decide)] at nx
      unfold w123_122
      simp only [jI_lit, jL_lit, jI_add, jI_sub, jI_mul, jI_neg, jL_add, jL_sub, jL_mul, jL_neg, jL_i, c_s1]
      exact nx
    | true =>
      unfold stp at nx
      rw [if_pos hc] at nx
      refine br_f (by decide) ?_
      unfold w123_117
      by_cases e1 : what = 1
      · refine br_f (fun z => z e1) ?_
        unfold pick at nx ⊢
        rw [if_pos e1] at nx ⊢
        refine w33_s (by omega) (by omega) (by omega) (by omega) ?_
        unfold w123_122
        simp only [jI_lit, jL_lit, jI_add, jI_sub, jI_mul, jI_neg, jL_add, jL_sub, jL_mul, jL_neg, jL_i, c_s1]
        exact nx
      · refine br_t e1 ?_
        unfold pick at nx ⊢
        rw [if_neg e1] at nx ⊢
        refine w33_s (by omega) (by omega) (by omega) (by omega) ?_
        unfold w123_122
        simp only [jI_lit, jL_lit, jI_add, jI_sub, jI_mul, jI_neg, jL_add, jL_sub, jL_mul, jL_neg, jL_i, c_s1]
        exact nx
