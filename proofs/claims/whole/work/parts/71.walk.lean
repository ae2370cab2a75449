/-! ===== walk: both sides ===== -/
def ask (G : GG) (s : Nat × Nat × Bool) : Bool := if s.2.2 = true then (lf G s.1 s.2.1).isSome else !(lw G s.1 s.2.1).isSome
theorem wst_l {G : GG} {s : Nat × Nat × Bool} (h : s.2.1 = 0 ∨ (0 < s.1 ∧ ask G s = true)) : wst G s = (s.1 - 1, s.2.1, false) := by
  unfold wst; exact if_pos h
theorem wst_u {G : GG} {s : Nat × Nat × Bool} (h : ¬ (s.2.1 = 0 ∨ (0 < s.1 ∧ ask G s = true))) : wst G s = (s.1, s.2.1 - 1, true) := by
  unfold wst; exact if_neg h
theorem sdE_fr {S : Nat → Nat → Bool} {M M' : MM} {o : Nat} {L f s n d : Int} (hF : Fr S M M') (hS : ∀ k, S o k = false) (h : sdE M o L f s n d) : sdE M' o L f s n d :=
  ⟨sdG_fr hF (fun k _ => hS k) h.1, (Fr_L hF (hS _)).trans h.2.1, (Fr_L hF (hS _)).trans h.2.2.1, (Fr_I hF (hS _)).trans h.2.2.2.1, (Fr_I hF (hS _)).trans h.2.2.2.2.1, (Fr_I hF (hS _)).trans h.2.2.2.2.2⟩
theorem MS_fr {S : Nat → Nat → Bool} {M M' : MM} {a b : WY} {n d : Int} (hF : Fr S M M') (h1 : S 59 1 = false) (h2 : S 59 2 = false) (hS : ∀ x k, 63 ≤ x → x ≤ 174 → S x k = false) (ga : gW a) (gb : gW b) (h : MS M a b n d) : MS M' a b n d := by
  have a2 := ga.2.1
  have b2 := gb.2.1
  refine ⟨(Fr_I hF h1).trans h.1, (Fr_I hF h2).trans h.2.1, fun i j hi hj => ?_, fun i j hi hj => ?_⟩
  · have e : 63 ≤ oF i j ∧ oF i j ≤ 174 := by unfold oF; omega
    exact ⟨sdE_fr hF (fun k => hS _ k e.1 e.2) (h.2.2.1 i j hi hj).1, (Fr_R hF (hS _ _ e.1 e.2)).trans (h.2.2.1 i j hi hj).2⟩
  · have e : 63 ≤ oL i j ∧ oL i j ≤ 174 := by unfold oL; omega
    exact ⟨sdE_fr hF (fun k => hS _ k e.1 e.2) (h.2.2.2 i j hi hj).1, (Fr_R hF (hS _ _ e.1 e.2)).trans (h.2.2.2 i j hi hj).2⟩
def sTr : Nat → Nat → Bool := sB 59 5 5 61 62
def WA (G : GG) (A B : Nat) (M0 : MM) (t : Nat) (M : MM) : Prop := Fr sTr M0 M ∧ mI M 59 5 = jI (t : Int) ∧ ∀ t', t' < t → mI M 61 t' = jI ((stA G A B t').1 : Int) ∧ mI M 62 t' = jI ((stA G A B t').2.1 : Int)
theorem i61 {M : MM} (h : Lay M) {k : Nat} (q : k < 16) : inb M 61 11 (jI (k : Int)) := by rw [← nI_j]; exact in_61 h q
theorem i62 {M : MM} (h : Lay M) {k : Nat} (q : k < 16) : inb M 62 11 (jI (k : Int)) := by rw [← nI_j]; exact in_62 h q
theorem WA_s {G : GG} {A B t : Nat} {M0 M : MM} (h : WA G A B M0 t M) : WA G A B M0 (t + 1) (sI (sI (sI M 61 t (jI ((stA G A B t).1 : Int))) 62 t (jI ((stA G A B t).2.1 : Int))) 59 5 (jI ((t + 1 : Nat) : Int))) := by
  refine ⟨Fr_sI (Fr_sI (Fr_sI h.1 (sB_t2 (by omega))) (sB_t2 (by omega))) (sB_t1 (by omega)), gI_y ⟨rfl, rfl⟩, fun t' ht => ?_⟩
  by_cases e : t' = t
  · subst e
    constructor <;> simp (disch := omega) only [gI_y, gI_n, gL_y, gL_n, gR_y, gR_n, gI_sL, gI_sR, gL_sI, gL_sR, gR_sI, gR_sL]
  · have := h.2.2 t' (by omega)
    simp (disch := omega) only [gI_y, gI_n, gL_y, gL_n, gR_y, gR_n, gI_sL, gI_sR, gL_sI, gL_sR, gR_sI, gR_sL, this.1, this.2, true_and, and_self]
theorem w117_77_s {M : MM} {a b : WY} {n d : Int} {s : Nat × Nat × Bool} {k21 : Nat → Int32 → Int32 → Int32 → MM → Prop} {P : MM → Prop} (hL : Lay M) (hM : MS M a b n d) (ga : gW a) (gb : gW b) (hi : s.1 + 2 ≤ wn a) (hj : s.2.1 + 2 ≤ wn b) (h0 : 0 < s.1 + s.2.1)
    (hX : k21 59 (jI ((wst (geo a b n d) s).1 : Int)) (jI ((wst (geo a b n d) s).2.1 : Int)) (bI (wst (geo a b n d) s).2.2) M) : w117_77 k21 59 (jI (s.1 : Int)) (jI (s.2.1 : Int)) (bI s.2.2) M P := by
  have a2 := ga.2.1
  have b2 := gb.2.1
  have q1 := (hM.2.2.1 s.1 s.2.1 (by omega) (by omega)).2
  have q2 := (hM.2.2.2 s.1 s.2.1 (by omega) (by omega)).2
  have hk1 : kd M (oF s.1 s.2.1) 7 := kd_S hL (by omega)
  have hk2 : kd M (oL s.1 s.2.1) 7 := kd_S hL (by omega)
  have hD : w117_118 k21 59 (jI (s.1 : Int)) (jI (s.2.1 : Int)) (bI (ask (geo a b n d) s)) M P := by
    have hl : (s.2.1 = 0 ∨ (0 < s.1 ∧ ask (geo a b n d) s = true)) → w117_133 k21 59 (jI (s.1 : Int)) (jI (s.2.1 : Int)) M P := fun c => by
      rw [wst_l c] at hX
      refine br_f (by decide) (br_f (by decide) (br_t (by decide) ?_))
      rw [show jI (s.1 : Int) - 1 = jI ((s.1 - 1 : Nat) : Int) by rw [show (1 : Int32) = jI 1 from rfl, jI_sub]; congr 1; omega]
      exact hX
    have hu : ¬ (s.2.1 = 0 ∨ (0 < s.1 ∧ ask (geo a b n d) s = true)) → w117_137 k21 59 (jI (s.1 : Int)) (jI (s.2.1 : Int)) M P := fun c => by
      rw [wst_u c] at hX
      refine br_t (by decide) (br_t (by decide) (br_f (by decide) ?_))
      have : s.2.1 ≠ 0 := fun z => c (Or.inl z)
      rw [show jI (s.2.1 : Int) - 1 = jI ((s.2.1 - 1 : Nat) : Int) by rw [show (1 : Int32) = jI 1 from rfl, jI_sub]; congr 1; omega]
      exact hX
    have e1 : (jI (s.2.1 : Int) = 0) ↔ s.2.1 = 0 := by rw [show (0 : Int32) = jI 0 from rfl, jI_eq (by omega) (by omega) (by omega) (by omega)]; omega
    have e2 : (jI (s.1 : Int) ≤ 0) ↔ s.1 = 0 := by rw [show (0 : Int32) = jI 0 from rfl, jI_le (by omega) (by omega) (by omega) (by omega)]; omega
    refine ⟨fun z => hl (Or.inl (e1.mp z)), fun z => ⟨fun y => hu (fun x => ?_), fun y => ⟨fun x => hu (fun v => ?_), fun x => hl (Or.inr ⟨?_, ?_⟩)⟩⟩⟩
    · have := e2.mp y
      rcases x with x | x
      · exact z (e1.mpr x)
      · omega
    · rcases v with v | v
      · exact z (e1.mpr v)
      · rw [v.2] at x; exact absurd x (by decide)
    · have : ¬ s.1 = 0 := fun v => y (e2.mpr v)
      omega
    · cases hh : ask (geo a b n d) s with
      | true => rfl
      | false => rw [hh] at x; exact absurd rfl x
  unfold ask at hD
  cases hb : s.2.2 with
  | false =>
    rw [hb, if_neg (by decide)] at hD
    refine br_t rfl ⟨kd_59 hL, w82_s hL (by omega) ⟨_, rfl, hk2, ?_⟩⟩
    rw [q2]
    cases hw : lw (geo a b n d) s.1 s.2.1 with
    | none => rw [hw] at hD; exact ⟨fun z => absurd rfl z, fun _ => hD⟩
    | some t => rw [hw] at hD; exact ⟨fun _ => hD, fun z => absurd z (by simp)⟩
  | true =>
    rw [hb, if_pos rfl] at hD
    refine br_f (by decide) ⟨kd_59 hL, w83_s hL (by omega) ⟨_, rfl, hk1, ?_⟩⟩
    rw [q1]
    cases hw : lf (geo a b n d) s.1 s.2.1 with
    | none => rw [hw] at hD; exact ⟨fun _ => hD, fun z => absurd rfl z⟩
    | some t => rw [hw] at hD; exact ⟨fun z => absurd z (by simp), fun _ => hD⟩
theorem sTr_f {x k : Nat} (h1 : ¬ (x = 59 ∧ k = 5)) (h2 : ¬ (61 ≤ x ∧ x ≤ 62)) : sTr x k = false := sB_f (by omega) h2
theorem w117_21_s {M0 : MM} {a b : WY} {n d : Int} {P : MM → Prop} (hL0 : Lay M0) (hM : MS M0 a b n d) (ga : gW a) (gb : gW b) (hX : ∀ M', WA (geo a b n d) (wn a - 2) (wn b - 2) M0 (wn a - 2 + (wn b - 2) + 1) M' → P M') :
    ∀ (q t : Nat) (M : MM), t + q = wn a - 2 + (wn b - 2) → WA (geo a b n d) (wn a - 2) (wn b - 2) M0 t M → w117_21 (q + 1) 59 (jI ((stA (geo a b n d) (wn a - 2) (wn b - 2) t).1 : Int)) (jI ((stA (geo a b n d) (wn a - 2) (wn b - 2) t).2.1 : Int)) (bI (stA (geo a b n d) (wn a - 2) (wn b - 2) t).2.2) M P := by
  have a1 := ga.1
  have b1 := gb.1
  have a2 := ga.2.1
  have b2 := gb.2.1
  intro q
  induction q with
  | zero =>
    intro t M ht h
    have hb := stA_b (geo a b n d) (wn a - 2) (wn b - 2) t (by omega)
    have hL := h.1.1 hL0
    have h' := WA_s h
    refine ⟨kd_59 hL, ?_⟩
    rw [h.2.1]
    generalize stA (geo a b n d) (wn a - 2) (wn b - 2) t = s at *
    simp (disch := omega) only [jI_lit, jL_lit, jI_add, jI_sub, jI_mul, jI_neg, jL_add, jL_sub, jL_mul, jL_neg, jL_i, jI_eq, jI_le, jI_lt, jL_eq, jL_le, jL_lt, jI_l]
    refine br_f (by omega) (br_f (by omega) (br_f (by omega) ?_))
    simp (disch := omega) only [kd_sI, kd_sL, kd_sR, true_and, and_true, Option.some.injEq, exists_eq_left', kd_59 hL, rf_59_3 hL, rf_59_4 hL, gR_sI, i61 hL, i62 hL, gI_y, gI_n, gL_y, gL_n, gR_y, gR_n, gI_sL, gI_sR, gL_sI, gL_sR, gR_sI, gR_sL, jI_cn, h.2.1, jI_lit, jI_add, c_s1]
    refine ⟨i62 hL (by omega), br_f ?_ (br_f ?_ (hX _ (by rw [← ht]; exact h')))⟩
    · rw [show s.1 = 0 by omega]; decide
    · rw [show s.2.1 = 0 by omega]; decide
  | succ q ih =>
    intro t M ht h
    have hb := stA_b (geo a b n d) (wn a - 2) (wn b - 2) t (by omega)
    have hL := h.1.1 hL0
    have h' := WA_s h
    have nx := ih (t + 1) _ (by omega) h'
    rw [show stA (geo a b n d) (wn a - 2) (wn b - 2) (t + 1) = wst (geo a b n d) (stA (geo a b n d) (wn a - 2) (wn b - 2) t) from rfl] at nx
    refine ⟨kd_59 hL, ?_⟩
    rw [h.2.1]
    generalize stA (geo a b n d) (wn a - 2) (wn b - 2) t = s at *
    simp (disch := omega) only [jI_lit, jL_lit, jI_add, jI_sub, jI_mul, jI_neg, jL_add, jL_sub, jL_mul, jL_neg, jL_i, jI_eq, jI_le, jI_lt, jL_eq, jL_le, jL_lt, jI_l]
    refine br_f (by omega) (br_f (by omega) (br_f (by omega) ?_))
    simp (disch := omega) only [kd_sI, kd_sL, kd_sR, true_and, and_true, Option.some.injEq, exists_eq_left', kd_59 hL, rf_59_3 hL, rf_59_4 hL, gR_sI, i61 hL, i62 hL, gI_y, gI_n, gL_y, gL_n, gR_y, gR_n, gI_sL, gI_sR, gL_sI, gL_sR, gR_sI, gR_sL, jI_cn, h.2.1, jI_lit, jI_add, c_s1]
    have hL' := h'.1.1 hL0
    have hM' := MS_fr h'.1 (sTr_f (by omega) (by omega)) (sTr_f (by omega) (by omega)) (fun x k _ _ => sTr_f (by omega) (by omega)) ga gb hM
    refine ⟨i62 hL (by omega), ?_⟩
    have g := w117_77_s (s := s) (k21 := fun z0 z1 z2 z3 z4 => w117_21 (q + 1) z0 z1 z2 z3 z4 P) (P := P) hL' hM' ga gb (by omega) (by omega) (by omega) nx
    by_cases e : s.1 = 0
    · refine br_f (by rw [e]; decide) (br_t (fun z => ?_) g)
      have z' : jI (s.2.1 : Int) = jI 0 := z
      rw [jI_eq (by omega) (by omega) (by omega) (by omega)] at z'
      omega
    · refine br_t (fun z => ?_) g
      have z' : jI (s.1 : Int) = jI 0 := z
      rw [jI_eq (by omega) (by omega) (by omega) (by omega)] at z'
      omega
theorem w117_s {M : MM} {a b : WY} {n d : Int} {P : MM → Prop} (hL : Lay M) (hM : MS M a b n d) (ga : gW a) (gb : gW b) (hX : ∀ M', WA (geo a b n d) (wn a - 2) (wn b - 2) M (wn a - 2 + (wn b - 2) + 1) M' → P M') : w117 59 M P := by
  have a1 := ga.1
  have b1 := gb.1
  refine ⟨kd_59 hL, kd_59 hL, kd_59 hL, wn a - 2 + (wn b - 2) + 1, ?_⟩
  rw [hM.1, hM.2.1]
  rw [show jI ((wn a : Int) - 1) - 1 = jI ((wn a - 2 : Nat) : Int) by rw [show (1 : Int32) = jI 1 from rfl, jI_sub]; congr 1; omega, show jI ((wn b : Int) - 1) - 1 = jI ((wn b - 2 : Nat) : Int) by rw [show (1 : Int32) = jI 1 from rfl, jI_sub]; congr 1; omega]
  exact w117_21_s hL hM ga gb hX _ 0 _ (by omega) ⟨Fr_sI Fr_r (sB_t1 (by omega)), gI_y ⟨rfl, rfl⟩, fun t' ht => absurd ht (by omega)⟩
