/-! ===== the class's cells: laid ===== -/
def rE (a b : WY) (r : Nat) : WY := if r < 7 then a else b
def rQ (a b : WY) (r : Nat) : WY := if r < 7 then b else a
def rI (r : Nat) : Nat := if r < 7 then r else r - 7
def rN (a b : WY) (r : Nat) : Nat := if rI r + 1 < wn (rE a b r) then wn (rQ a b r) else 0
def sdR (M : MM) (a b : WY) (r p : Nat) : Prop := sdG M (63 + (r * 8 + p)) (eL (rE a b r) (rI r)) (eF (rE a b r) (rI r) (rQ a b r) p) (eS (rE a b r) (rI r) (rQ a b r) p)
theorem rN_le {a b : WY} {r : Nat} (ga : gW a) (gb : gW b) : rN a b r ≤ 8 := by
  have := ga.2.1
  have := gb.2.1
  unfold rN rQ
  by_cases h : r < 7
  · rw [if_pos h]
    by_cases q : rI r + 1 < wn (rE a b r)
    · rw [if_pos q]; omega
    · rw [if_neg q]; omega
  · rw [if_neg h]
    by_cases q : rI r + 1 < wn (rE a b r)
    · rw [if_pos q]; omega
    · rw [if_neg q]; omega
theorem w79_s {M : MM} {a b : WY} {r : Nat} {P : Int32 → MM → Prop} (hL : Lay M) (h1 : mI M 59 1 = jI ((wn a : Int) - 1)) (h2 : mI M 59 2 = jI ((wn b : Int) - 1)) (ga : gW a) (gb : gW b) (hr : r < 14) (hP : P (jI (rN a b r : Int)) M) : w79 59 (jI (r : Int)) M P := by
  have hQ : ∀ z : Int, z = rN a b r → P (jI z) M := fun z e => e ▸ hP
  have a1 := ga.1
  have a2 := ga.2.1
  have b1 := gb.1
  have b2 := gb.2.1
  simp (disch := omega) only [w79, w79_24, w79_46, kd_59 hL, h1, h2, kd_sI, kd_sL, kd_sR, true_and, and_true, Option.some.injEq, exists_eq_left', jI_lit, jL_lit, jI_add, jI_sub, jI_mul, jI_neg, jL_add, jL_sub, jL_mul, jL_neg, jL_i, jI_eq, jI_le, jI_lt, jL_eq, jL_le, jL_lt, jI_l]
  by_cases h : r < 7
  · simp only [rN, rI, rE, rQ, if_pos h] at hQ
    repeat' (first | with_reducible refine And.intro (fun _ => ?_) (fun _ => ?_) | fail)
    all_goals first | (exfalso; omega) | exact hQ _ (by split <;> omega)
  · simp only [rN, rI, rE, rQ, if_neg h] at hQ
    repeat' (first | with_reducible refine And.intro (fun _ => ?_) (fun _ => ?_) | fail)
    all_goals first | (exfalso; omega) | exact hQ _ (by split <;> omega)
theorem isT_out {t : Nat} (h : isT t = true) : t + 2 < 58 ∨ 184 < t := by
  have h2 : t ∈ [4, 7, 10, 13, 16, 23, 26, 29, 32, 35, 38, 41, 44, 47, 50, 185, 188, 191, 194, 197, 200] := List.contains_iff_mem.mp h
  simp only [List.mem_cons, List.not_mem_nil, or_false] at h2
  omega
theorem TrC_fr {S : Nat → Nat → Bool} {M M' : MM} {t : Nat} {a : WY} (hF : Fr S M M') (hS : ∀ x k, (x < 58 ∨ 184 < x) → S x k = false) (ht : isT t = true) (h : TrC M t a) : TrC M' t a := by
  have ho := isT_out ht
  refine ⟨(Fr_I hF (hS t 1 (by omega))).trans h.1, fun i hi => ⟨(Fr_I hF (hS _ i (by omega))).trans (h.2 i hi).1, (Fr_I hF (hS _ i (by omega))).trans (h.2 i hi).2⟩⟩
def sLay : Nat → Nat → Bool := sB 59 1 2 63 174
theorem sLay_o {x k : Nat} (h : x < 58 ∨ 184 < x) : sLay x k = false := sB_f (by omega) (by omega)
theorem Fr_st {S : Nat → Nat → Bool} {M M' : MM} {o : Nat} {L f s : Int} (h : Fr S M M') (e : ∀ k, k < 5 → S o k = true) : Fr S M (stM M' o L f s) :=
  Fr_sL (Fr_sL (Fr_sL (Fr_sL (Fr_sL h (e 0 (by omega))) (e 1 (by omega))) (e 2 (by omega))) (e 3 (by omega))) (e 4 (by omega))
theorem sdG_st (M : MM) (o : Nat) (L f s : Int) : sdG (stM M o L f s) o L f s := by
  unfold stM
  refine ⟨?_, ?_, ?_, ?_, ?_⟩ <;> simp (disch := omega) only [gI_y, gI_n, gL_y, gL_n, gR_y, gR_n, gI_sL, gI_sR, gL_sI, gL_sR, gR_sI, gR_sL]
theorem sdG_sn {M : MM} {o o' : Nat} {L f s L' f' s' : Int} (h : o' ≠ o) (q : sdG M o' L' f' s') : sdG (stM M o L f s) o' L' f' s' := by
  unfold stM
  obtain ⟨q0, q1, q2, q3, q4⟩ := q
  refine ⟨?_, ?_, ?_, ?_, ?_⟩ <;> simp (disch := omega) only [gI_y, gI_n, gL_y, gL_n, gR_y, gR_n, gI_sL, gI_sR, gL_sI, gL_sR, gR_sI, gR_sL, q0, q1, q2, q3, q4]
theorem inb60 {M : MM} (h : Lay M) {k : Nat} (q : k < 112) : inb M 60 15 (jI (k : Int)) := by rw [← nI_j]; exact in_60 h q
def LI (M0 : MM) (a b : WY) (r p : Nat) (M : MM) : Prop := Fr sLay M0 M ∧ mI M 59 1 = jI ((wn a : Int) - 1) ∧ mI M 59 2 = jI ((wn b : Int) - 1) ∧ ∀ r' p', p' < rN a b r' → (r' < r ∨ (r' = r ∧ p' < p)) → r' < 14 → sdR M a b r' p'
theorem w78_59_s {M0 : MM} {t u r : Nat} {a b : WY} {k22 : Nat → Option Nat → Option Nat → Int32 → MM → Prop} {P : MM → Prop} (hL0 : Lay M0) (ht : isT t = true) (hu : isT u = true) (hA : TrC M0 t a) (hB : TrC M0 u b) (ga : gW a) (gb : gW b) (hr : r < 14) (hX : ∀ M', LI M0 a b (r + 1) 0 M' → k22 59 (some t) (some u) (jI ((r + 1 : Nat) : Int)) M') :
    ∀ (q p : Nat) (M : MM), p + q = rN a b r → LI M0 a b r p M → w78_59 k22 (q + 1) 59 (some t) (some u) (jI (r : Int)) (bI (decide (r < 7))) (jI (rI r : Int)) (jI (p : Int)) M P := by
  have hr8 := rN_le (r := r) ga gb
  have a2 := ga.2.1
  have b2 := gb.2.1
  intro q
  induction q with
  | zero =>
    intro p M hp hI
    obtain ⟨hF, h1, h2, hS⟩ := hI
    have hL := hF.1 hL0
    refine ⟨kd_59 hL, w79_s hL h1 h2 ga gb hr ?_⟩
    rw [jI_le (by omega) (by omega) (by omega) (by omega)]
    refine br_t (by omega) ?_
    simp only [jI_lit, jL_lit, jI_add, jI_sub, jI_mul, jI_neg, jL_add, jL_sub, jL_mul, jL_neg, jL_i, c_s1]
    exact hX M ⟨hF, h1, h2, fun r' p' x y z => hS r' p' x (by
      by_cases e : r' = r
      · subst e; right; exact ⟨rfl, by omega⟩
      · left; omega) z⟩
  | succ q ih =>
    intro p M hp hI
    obtain ⟨hF, h1, h2, hS⟩ := hI
    have hL := hF.1 hL0
    have hp8 : p < 8 := by omega
    refine ⟨kd_59 hL, w79_s hL h1 h2 ga gb hr ?_⟩
    rw [jI_le (by omega) (by omega) (by omega) (by omega)]
    refine br_f (by omega) ⟨kd_59 hL, 60, rf_59_0 hL, ?_⟩
    have nx : ∀ L f s : Int, L = eL (rE a b r) (rI r) → f = eF (rE a b r) (rI r) (rQ a b r) p → s = eS (rE a b r) (rI r) (rQ a b r) p → LI M0 a b r (p + 1) (stM M (63 + (r * 8 + p)) L f s) := by
      intro L f s e1 e2 e3
      subst e1 e2 e3
      refine ⟨Fr_st hF (fun k _ => sB_t2 (by omega)), ?_, ?_, ?_⟩
      · unfold stM; simp (disch := omega) only [gI_y, gI_n, gL_y, gL_n, gR_y, gR_n, gI_sL, gI_sR, gL_sI, gL_sR, gR_sI, gR_sL, h1]
      · unfold stM; simp (disch := omega) only [gI_y, gI_n, gL_y, gL_n, gR_y, gR_n, gI_sL, gI_sR, gL_sI, gL_sR, gR_sI, gR_sL, h2]
      · intro r' p' x y z
        have := rN_le (r := r') ga gb
        by_cases e : r' = r ∧ p' = p
        · obtain ⟨rfl, rfl⟩ := e
          exact sdG_st M _ _ _ _
        · exact sdG_sn (by omega) (hS r' p' x (by omega) z)
    have tA := TrC_fr hF (fun x k h => sLay_o h) ht hA
    have tB := TrC_fr hF (fun x k h => sLay_o h) hu hB
    have hk : kd M (63 + (r * 8 + p)) 7 := kd_S hL (by omega)
    simp (disch := omega) only [w78_95, w78_107, jI_lit, jL_lit, jI_add, jI_sub, jI_mul, jI_neg, jL_add, jL_sub, jL_mul, jL_neg, jL_i, c_m8, c_add, c_s1, inb60 hL, jI_cn, rf_60 hL, kd_sI, kd_sL, kd_sR, true_and, and_true, Option.some.injEq, exists_eq_left', hk]
    by_cases h : r < 7
    · have hri : rI r = r := if_pos h
      have hlt : r + 1 < wn a ∧ rN a b r = wn b := by
        unfold rN rI rE rQ at *
        rw [if_pos h, if_pos h, if_pos h] at *
        by_cases z : r + 1 < wn a
        · rw [if_pos z]; exact ⟨z, rfl⟩
        · rw [if_neg z] at hp; omega
      rw [decide_eq_true h, bI_t, hri]
      simp (disch := omega) only [jI_lit, jL_lit, jI_add, jI_sub, jI_mul, jI_neg, jL_add, jL_sub, jL_mul, jL_neg, jL_i, jI_eq, jI_le, jI_lt, jL_eq, jL_le, jL_lt, jI_l, true_or, or_true, not_true_eq_false, not_false_eq_true]
      repeat' (first | with_reducible refine And.intro (fun _ => ?_) (fun _ => ?_) | fail)
      all_goals first
        | (exfalso; omega)
        | (refine w49_s hL hk ht hu tA tB ga gb hlt.1 (by omega) ?_
           have := ih (p + 1) _ (by omega) (nx _ _ _ rfl rfl rfl)
           rw [decide_eq_true h, bI_t, hri] at this
           unfold rE rQ at this
           rw [if_pos h, if_pos h] at this
           exact this)
    · have hri : rI r = r - 7 := if_neg h
      have hlt : r - 7 + 1 < wn b ∧ rN a b r = wn a := by
        unfold rN rI rE rQ at *
        rw [if_neg h, if_neg h, if_neg h] at *
        by_cases z : r - 7 + 1 < wn b
        · rw [if_pos z]; exact ⟨z, rfl⟩
        · rw [if_neg z] at hp; omega
      rw [decide_eq_false h, bI_f, hri]
      simp (disch := omega) only [jI_lit, jL_lit, jI_add, jI_sub, jI_mul, jI_neg, jL_add, jL_sub, jL_mul, jL_neg, jL_i, jI_eq, jI_le, jI_lt, jL_eq, jL_le, jL_lt, jI_l, true_or, or_true, not_true_eq_false, not_false_eq_true]
      repeat' (first | with_reducible refine And.intro (fun _ => ?_) (fun _ => ?_) | fail)
      all_goals first
        | (exfalso; omega)
        | exact absurd trivial (by assumption)
        | (refine w49_s hL hk hu ht tB tA gb ga hlt.1 (by omega) ?_
           have := ih (p + 1) _ (by omega) (nx _ _ _ rfl rfl rfl)
           rw [decide_eq_false h, bI_f, hri] at this
           unfold rE rQ at this
           rw [if_neg h, if_neg h] at this
           exact this)
theorem w78_22_s {M0 : MM} {t u : Nat} {a b : WY} {P : MM → Prop} (hL0 : Lay M0) (ht : isT t = true) (hu : isT u = true) (hA : TrC M0 t a) (hB : TrC M0 u b) (ga : gW a) (gb : gW b) (hX : ∀ M', LI M0 a b 14 0 M' → P M') :
    ∀ (q r : Nat) (M : MM), r + q = 14 → LI M0 a b r 0 M → w78_22 (q + 1) 59 (some t) (some u) (jI (r : Int)) M P := by
  intro q
  induction q with
  | zero =>
    intro r M hr hI
    have : r = 14 := by omega
    subst this
    exact br_t (by decide) (hX M hI)
  | succ q ih =>
    intro r M hr hI
    unfold w78_22
    simp (disch := omega) only [jI_lit, jL_lit, jI_add, jI_sub, jI_mul, jI_neg, jL_add, jL_sub, jL_mul, jL_neg, jL_i, jI_eq, jI_le, jI_lt, jL_eq, jL_le, jL_lt, jI_l, w78_39, w78_54]
    have go : ∃ n2, w78_59 (fun z0 z1 z2 z3 z4 => w78_22 (q + 1) z0 z1 z2 z3 z4 P) n2 59 (some t) (some u) (jI (r : Int)) (bI (decide (r < 7))) (jI (rI r : Int)) (jI 0) M P :=
      ⟨rN a b r + 1, w78_59_s hL0 ht hu hA hB ga gb (by omega) (fun M' hI' => ih (r + 1) M' (by omega) hI') (rN a b r) 0 M (by omega) hI⟩
    by_cases h : r < 7
    · have hri : rI r = r := if_pos h
      rw [decide_eq_true h, hri] at go
      repeat' (first | with_reducible refine And.intro (fun _ => ?_) (fun _ => ?_) | fail)
      all_goals first
        | (exfalso; omega)
        | exact go
    · have hri : rI r = r - 7 := if_neg h
      rw [decide_eq_false h, hri, show ((r - 7 : Nat) : Int) = (r : Int) - 7 by omega] at go
      repeat' (first | with_reducible refine And.intro (fun _ => ?_) (fun _ => ?_) | fail)
      all_goals first
        | (exfalso; omega)
        | exact absurd trivial (by assumption)
        | exact go
theorem w78_s {M0 : MM} {t u : Nat} {a b : WY} {P : MM → Prop} (hL0 : Lay M0) (ht : isT t = true) (hu : isT u = true) (hA : TrC M0 t a) (hB : TrC M0 u b) (ga : gW a) (gb : gW b) (hX : ∀ M', LI M0 a b 14 0 M' → P M') : w78 59 (some t) (some u) M0 P := by
  have ot := isT_out ht
  have ou := isT_out hu
  simp (disch := omega) only [w78, kd_sI, kd_sL, kd_sR, true_and, and_true, Option.some.injEq, exists_eq_left', kd_T hL0 ht, kd_T hL0 hu, kd_59 hL0, gI_y, gI_n, gL_y, gL_n, gR_y, gR_n, gI_sL, gI_sR, gL_sI, gL_sR, gR_sI, gR_sL, hA.1, hB.1, jI_lit, jL_lit, jI_add, jI_sub, jI_mul, jI_neg, jL_add, jL_sub, jL_mul, jL_neg, jL_i]
  refine ⟨15, w78_22_s hL0 ht hu hA hB ga gb hX 14 0 _ (by omega) ⟨?_, ?_, ?_, fun r' p' x y z => by omega⟩⟩
  · exact Fr_sI (Fr_sI Fr_r (sB_t1 (by omega))) (sB_t1 (by omega))
  · simp (disch := omega) only [gI_y, gI_n, gL_y, gL_n, gR_y, gR_n, gI_sL, gI_sR, gL_sI, gL_sR, gR_sI, gR_sL]
  · simp (disch := omega) only [gI_y, gI_n, gL_y, gL_n, gR_y, gR_n, gI_sL, gI_sR, gL_sI, gL_sR, gR_sI, gR_sL]
