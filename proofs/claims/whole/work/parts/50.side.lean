/-! ===== sides in the class's memory ===== -/
theorem c_add (i j : Nat) : ((i : Int) + (j : Int)) = ((i + j : Nat) : Int) := rfl
theorem c_s1 (i : Nat) : ((i : Int) + 1) = ((i + 1 : Nat) : Int) := rfl
theorem c_s2 (i : Nat) : ((i : Int) + 2) = ((i + 2 : Nat) : Int) := rfl
theorem c_m8 (i : Nat) : ((i : Int) * 8) = ((i * 8 : Nat) : Int) := rfl
theorem jI_cn {k : Nat} (h : k < 2147483648) : (jI (k : Int)).toNatClampNeg = k := by
  rw [jI_cl (by omega) (by omega)]; rfl
theorem bI_j (b : Bool) : bI b = jI (if b = true then 1 else 0) := by cases b <;> rfl
/-- a way in the class's cells -/
def TrC (M : MM) (t : Nat) (a : WY) : Prop := mI M t 1 = jI (wn a) ∧ ∀ i, i < wn a → mI M (t + 1) i = jI (wx a i) ∧ mI M (t + 2) i = jI (wy a i)
theorem inxj {M : MM} {t : Nat} (h : Lay M) (e : isT t = true) {k : Nat} (q : k < 8) : inb M (t + 1) 11 (jI (k : Int)) := by rw [← nI_j]; exact inx_T h e q
theorem inyj {M : MM} {t : Nat} (h : Lay M) (e : isT t = true) {k : Nat} (q : k < 8) : inb M (t + 2) 11 (jI (k : Int)) := by rw [← nI_j]; exact iny_T h e q
def stM (M : MM) (o : Nat) (L f s : Int) : MM := sL (sL (sL (sL (sL M o 0 (jL L)) o 1 (jL f)) o 2 (jL s)) o 3 (jL (s - 2 * f + L))) o 4 (jL (L * s - f * f))
theorem w49_s {M : MM} {o t u e p : Nat} {a b : WY} {P : MM → Prop} (hL : Lay M) (ho : kd M o 7) (ht : isT t = true) (hu : isT u = true) (hA : TrC M t a) (hB : TrC M u b) (ga : gW a) (gb : gW b) (he : e + 1 < wn a) (hp : p < wn b) (hP : P (stM M o (eL a e) (eF a e b p) (eS a e b p))) : w49 o (some t) (jI (e : Int)) (some u) (jI (p : Int)) M P := by
  have b0 := ga.2.2.1 e (by omega)
  have b1 := ga.2.2.1 (e + 1) he
  have b2 := gb.2.2.1 p hp
  have n1 := ga.2.1
  have n2 := gb.2.1
  unfold stM at hP
  rw [← eCC] at hP
  unfold eL eF eS eC qd at hP
  simp (disch := omega) only [w49, w49_98, w49_146, Option.some.injEq, exists_eq_left', kd_T hL ht, kd_T hL hu, kd_sL, ho, true_and, rfx_T hL ht, rfy_T hL ht, rfx_T hL hu, rfy_T hL hu, jI_lit, jI_add, c_s1, jI_cn, inxj hL ht, inyj hL ht, inxj hL hu, inyj hL hu, fun i hi => (hA.2 i hi).1, fun i hi => (hA.2 i hi).2, fun i hi => (hB.2 i hi).1, fun i hi => (hB.2 i hi).2, jI_sub, jI_l, jL_lit, jL_mul, jL_add, jL_sub, gL_y, gL_n]
  exact hP
/-- what a side holds by its edge and point -/
def sdG (M : MM) (o : Nat) (L f s : Int) : Prop := mL M o 0 = jL L ∧ mL M o 1 = jL f ∧ mL M o 2 = jL s ∧ mL M o 3 = jL (s - 2 * f + L) ∧ mL M o 4 = jL (L * s - f * f)
/-- how large its numbers are -/
def sdB (L f s : Int) : Prop := 0 < L ∧ L ≤ 648 ∧ -648 ≤ f ∧ f ≤ 648 ∧ 0 ≤ s ∧ s ≤ 648 ∧ 0 ≤ s - 2 * f + L ∧ s - 2 * f + L ≤ 648 ∧ 0 ≤ L * s - f * f ∧ L * s - f * f ≤ 419904
theorem sdB_of {a b : WY} {e p : Nat} (ga : gW a) (gb : gW b) (he : e + 1 < wn a) (hp : p < wn b) : sdB (eL a e) (eF a e b p) (eS a e b p) := by
  have h1 := eL_b ga he
  have h2 := eF_b ga gb he hp
  have h3 := qd_b gb ga hp (show e < wn a by omega)
  have h4 := qd_b gb ga hp he
  have h5 := eC_b ga gb he hp
  have h6 := eCC a e b p
  have h7 := sqr_p (eC a e b p)
  have h8 := mul_b (x := eC a e b p) (y := eC a e b p) (B := 648) (C := 648) (by omega) (by omega) (by omega) (by omega)
  rw [← eE] at h4
  unfold sdB
  unfold eS at *
  omega
theorem w51_s {M : MM} {o : Nat} {L f s : Int} {P : Int32 → MM → Prop} (ho : kd M o 7) (hG : sdG M o L f s) (hB : sdB L f s) (hP : P (bI (decide (0 < f ∧ f < L))) M) : w51 o M P := by
  have hQ : ∀ r : Int, (r = if 0 < f ∧ f < L then 1 else 0) → P (jI r) M := fun r e => by rw [bI_j] at hP; rw [e]; simpa only [decide_eq_true_eq] using hP
  unfold sdB at hB
  simp (disch := omega) only [w51, w51_25, w51_26, ho, kd_sI, kd_sL, kd_sR, true_and, and_true, Option.some.injEq, exists_eq_left', true_or, or_true, not_true_eq_false, not_false_eq_true, hG.1, hG.2.1, lc_le, lc_ge, lc_lt, lc_gt, lc_eq, ne_eq, jI_lit, jL_lit, jI_add, jI_sub, jI_mul, jI_neg, jL_add, jL_sub, jL_mul, jL_neg, jL_i, jI_eq, jI_le, jI_lt, jL_eq, jL_le, jL_lt, jI_l]
  repeat' (first | with_reducible refine And.intro (fun _ => ?_) (fun _ => ?_) | fail)
  all_goals exact hQ _ (by omega)
theorem w52_s {M : MM} {x y : Int} {P : Int64 → MM → Prop} (h1 : -9223372036854775808 ≤ x) (h2 : x < 9223372036854775808) (h3 : -9223372036854775808 ≤ y) (h4 : y < 9223372036854775808) (hP : P (jL (min x y)) M) : w52 (jL x) (jL y) M P := by
  have hQ : ∀ r, r = min x y → P (jL r) M := fun r e => e ▸ hP
  simp (disch := omega) only [w52, w52_11, lc_gt, jI_lit, jL_lt]
  exact And.intro (fun _ => hQ _ (by omega)) (fun _ => hQ _ (by omega))
theorem w50_s {M : MM} {o : Nat} {L f s : Int} {P : Int64 → MM → Prop} (ho : kd M o 7) (hG : sdG M o L f s) (hB : sdB L f s) (hP : P (jL (lsA L f s)) M) : w50 o M P := by
  refine ⟨ho, w51_s ho hG hB ?_⟩
  have hB' := hB
  unfold sdB at hB'
  unfold lsA at hP
  by_cases c : 0 < f ∧ f < L
  · rw [decide_eq_true c]
    rw [if_pos c] at hP
    refine br_f (by decide) ⟨ho, ?_⟩
    show P _ _
    rw [hG.2.2.2.2]; exact hP
  · rw [decide_eq_false c]
    rw [if_neg c] at hP
    refine br_t rfl ⟨ho, ho, ?_⟩
    rw [hG.2.2.1, hG.2.2.2.1]
    exact w52_s (by omega) (by omega) (by omega) (by omega) hP
theorem w53_s {M : MM} {o : Nat} {L f s : Int} {P : Int64 → MM → Prop} (ho : kd M o 7) (hG : sdG M o L f s) (hB : sdB L f s) (hP : P (jL (lsB L f)) M) : w53 o M P := by
  refine ⟨ho, w51_s ho hG hB ?_⟩
  unfold lsB at hP
  by_cases c : 0 < f ∧ f < L
  · rw [decide_eq_true c]
    rw [if_pos c] at hP
    refine br_f (by decide) ⟨ho, ?_⟩
    show P _ _
    rw [hG.1]; exact hP
  · rw [decide_eq_false c]
    rw [if_neg c] at hP
    exact br_t rfl hP
/-- leashes that come up -/
def gE (n d : Int) : Prop := 0 ≤ n ∧ n ≤ 1088391168 ∧ 0 < d ∧ d ≤ 1679616
/-- what products of these can be -/
theorem sdB_m {L f s n d : Int} (hB : sdB L f s) (hE : gE n d) : 0 ≤ s * d ∧ s * d ≤ 1088391168 ∧ 0 ≤ (s - 2 * f + L) * d ∧ (s - 2 * f + L) * d ≤ 1088391168 ∧ -705277476864 ≤ dD L n d f s ∧ dD L n d f s ≤ 705277476864 ∧ 0 ≤ L * n ∧ L * n ≤ 705277476864 ∧ 0 ≤ (L * s - f * f) * d ∧ (L * s - f * f) * d ≤ 705277476864 := by
  unfold sdB at hB
  unfold gE at hE
  have a1 := mul_p (show 0 ≤ s by omega) (show 0 ≤ d by omega)
  have a2 := mul_mono (show s ≤ 648 by omega) (show d ≤ 1679616 by omega) (by omega) (by omega)
  have a3 := mul_p (show 0 ≤ s - 2 * f + L by omega) (show 0 ≤ d by omega)
  have a4 := mul_mono (show s - 2 * f + L ≤ 648 by omega) (show d ≤ 1679616 by omega) (by omega) (by omega)
  have a5 := mul_p (show 0 ≤ L by omega) (show 0 ≤ n by omega)
  have a6 := mul_mono (show L ≤ 648 by omega) (show n ≤ 1088391168 by omega) (by omega) (by omega)
  have a7 := mul_p (show 0 ≤ L * s - f * f by omega) (show 0 ≤ d by omega)
  have a8 := mul_mono (show L * s - f * f ≤ 419904 by omega) (show d ≤ 1679616 by omega) (by omega) (by omega)
  unfold dD
  omega
def spM (M : MM) (o : Nat) (L f s n d : Int) : MM := sR (sI (sI (sI (sL (sL M o 5 (jL d)) o 6 (jL (dD L n d f s))) o 7 (bI (fsB n d s))) o 8 (bI (teB L n d f s))) o 9 (bI (frB L n d f s))) o 10 none
theorem w81_s {M : MM} {o : Nat} {L f s n d : Int} {P : MM → Prop} (ho : kd M o 7) (hG : sdG M o L f s) (hB : sdB L f s) (hE : gE n d) (hP : P (spM M o L f s n d)) : w81 o (jL n) (jL d) M P := by
  have hm := sdB_m hB hE
  have hB' := hB
  unfold sdB at hB'
  unfold gE at hE
  have e6 : L * n - (L * s - f * f) * d = dD L n d f s := rfl
  obtain ⟨g0, g1, g2, g3, g4⟩ := hG
  have hQ : ∀ x y z : Int, (x = if s * d ≤ n then 1 else 0) → (y = if (s - 2 * f + L) * d ≤ n then 1 else 0) → (z = if s * d ≤ n ∨ (s - 2 * f + L) * d ≤ n ∨ (0 < f ∧ f < L ∧ 0 ≤ dD L n d f s) then 1 else 0) → P (sR (sI (sI (sI (sL (sL M o 5 (jL d)) o 6 (jL (dD L n d f s))) o 7 (jI x)) o 8 (jI y)) o 9 (jI z)) o 10 none) := by
    intro x y z hx hy hz
    unfold spM at hP
    rw [bI_j, bI_j, bI_j] at hP
    have ex : (if fsB n d s = true then 1 else 0 : Int) = x := by
      rw [hx]; unfold fsB; simp only [decide_eq_true_eq]
    have ey : (if teB L n d f s = true then 1 else 0 : Int) = y := by
      rw [hy]; unfold teB; simp only [decide_eq_true_eq]
    have ez : (if frB L n d f s = true then 1 else 0 : Int) = z := by
      rw [hz]; simp only [fr_i]
    rw [ex, ey, ez] at hP
    exact hP
  simp (disch := omega) only [w81, w81_39, w81_59, w81_93, w81_97, w81_98, kd_sI, kd_sL, kd_sR, true_and, and_true, Option.some.injEq, exists_eq_left', true_or, or_true, not_true_eq_false, not_false_eq_true, ho, gI_y, gI_n, gL_y, gL_n, gR_y, gR_n, gI_sL, gI_sR, gL_sI, gL_sR, gR_sI, gR_sL, g0, g2, g3, g4, lc_le, lc_ge, lc_lt, lc_gt, lc_eq, ne_eq, jI_lit, jL_lit, jI_add, jI_sub, jI_mul, jI_neg, jL_add, jL_sub, jL_mul, jL_neg, jL_i, e6, jI_eq, jI_le, jI_lt, jL_eq, jL_le, jL_lt, jI_l]
  repeat' (first | with_reducible refine And.intro (fun _ => ?_) (fun _ => ?_) | fail)
  all_goals first
    | (exfalso; assumption)
    | exact absurd trivial (by assumption)
    | (exfalso; omega)
    | exact hQ _ _ _ (by omega) (by omega) (by omega)
    | (refine w51_s (L := L) (f := f) (s := s) ?_ ?_ hB ?_
       · simp only [kd_sI, kd_sL, kd_sR, true_and, and_true, Option.some.injEq, exists_eq_left']; exact ho
       · exact ⟨by simp (disch := omega) only [gI_y, gI_n, gL_y, gL_n, gR_y, gR_n, gI_sL, gI_sR, gL_sI, gL_sR, gR_sI, gR_sL, g0], by simp (disch := omega) only [gI_y, gI_n, gL_y, gL_n, gR_y, gR_n, gI_sL, gI_sR, gL_sI, gL_sR, gR_sI, gR_sL, g1], by simp (disch := omega) only [gI_y, gI_n, gL_y, gL_n, gR_y, gR_n, gI_sL, gI_sR, gL_sI, gL_sR, gR_sI, gR_sL, g2], by simp (disch := omega) only [gI_y, gI_n, gL_y, gL_n, gR_y, gR_n, gI_sL, gI_sR, gL_sI, gL_sR, gR_sI, gR_sL, g3], by simp (disch := omega) only [gI_y, gI_n, gL_y, gL_n, gR_y, gR_n, gI_sL, gI_sR, gL_sI, gL_sR, gR_sI, gR_sL, g4]⟩
       · by_cases c : 0 < f ∧ f < L
         · rw [decide_eq_true c]
           simp (disch := omega) only [bI_t, kd_sI, kd_sL, kd_sR, true_and, and_true, Option.some.injEq, exists_eq_left', true_or, or_true, not_true_eq_false, not_false_eq_true, ho, gI_y, gI_n, gL_y, gL_n, gR_y, gR_n, gI_sL, gI_sR, gL_sI, gL_sR, gR_sI, gR_sL, lc_le, lc_ge, lc_lt, lc_gt, lc_eq, ne_eq, jI_lit, jL_lit, jI_add, jI_sub, jI_mul, jI_neg, jL_add, jL_sub, jL_mul, jL_neg, jL_i, jI_eq, jI_le, jI_lt, jL_eq, jL_le, jL_lt, jI_l]
           repeat' (first | with_reducible refine And.intro (fun _ => ?_) (fun _ => ?_) | fail)
           all_goals first | (exfalso; assumption) | exact absurd trivial (by assumption) | (exfalso; omega) | exact hQ _ _ _ (by omega) (by omega) (by omega)
         · rw [decide_eq_false c]
           simp (disch := omega) only [bI_f, kd_sI, kd_sL, kd_sR, true_and, and_true, Option.some.injEq, exists_eq_left', true_or, or_true, not_true_eq_false, not_false_eq_true, ho, gI_y, gI_n, gL_y, gL_n, gR_y, gR_n, gI_sL, gI_sR, gL_sI, gL_sR, gR_sI, gR_sL, lc_le, lc_ge, lc_lt, lc_gt, lc_eq, ne_eq, jI_lit, jL_lit, jI_add, jI_sub, jI_mul, jI_neg, jL_add, jL_sub, jL_mul, jL_neg, jL_i, jI_eq, jI_le, jI_lt, jL_eq, jL_le, jL_lt, jI_l]
           repeat' (first | with_reducible refine And.intro (fun _ => ?_) (fun _ => ?_) | fail)
           all_goals first | (exfalso; assumption) | exact absurd trivial (by assumption) | (exfalso; omega) | exact hQ _ _ _ (by omega) (by omega) (by omega))
