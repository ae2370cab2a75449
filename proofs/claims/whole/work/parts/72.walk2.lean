/-! walk: the reference, and the two questions -/
def sTw : Nat → Nat → Bool := sB 203 59 59 229 230
def WB (G : GG) (A B : Nat) (M0 : MM) (t : Nat) (M : MM) : Prop := Fr sTw M0 M ∧ mI M 203 59 = jI (t : Int) ∧ ∀ t', t' < t → mI M 229 t' = jI ((stA G A B t').1 : Int) ∧ mI M 230 t' = jI ((stA G A B t').2.1 : Int)
theorem i229 {M : MM} (h : Lay M) {k : Nat} (q : k < 16) : inb M 229 11 (jI (k : Int)) := by rw [← nI_j]; exact in_229 h q
theorem i230 {M : MM} (h : Lay M) {k : Nat} (q : k < 16) : inb M 230 11 (jI (k : Int)) := by rw [← nI_j]; exact in_230 h q
theorem WB_s {G : GG} {A B t : Nat} {M0 M : MM} (h : WB G A B M0 t M) : WB G A B M0 (t + 1) (sI (sI (sI M 229 t (jI ((stA G A B t).1 : Int))) 230 t (jI ((stA G A B t).2.1 : Int))) 203 59 (jI ((t + 1 : Nat) : Int))) := by
  refine ⟨Fr_sI (Fr_sI (Fr_sI h.1 (sB_t2 (by omega))) (sB_t2 (by omega))) (sB_t1 (by omega)), gI_y ⟨rfl, rfl⟩, fun t' ht => ?_⟩
  by_cases e : t' = t
  · subst e
    constructor <;> simp (disch := omega) only [gI_y, gI_n, gL_y, gL_n, gR_y, gR_n, gI_sL, gI_sR, gL_sI, gL_sR, gR_sI, gR_sL]
  · have := h.2.2 t' (by omega)
    simp (disch := omega) only [gI_y, gI_n, gL_y, gL_n, gR_y, gR_n, gI_sL, gI_sR, gL_sI, gL_sR, gR_sI, gR_sL, this.1, this.2, true_and, and_self]
theorem w254_s {G : GG} {A B t i j : Nat} {M0 M : MM} {P : MM → Prop} (hL0 : Lay M0) (h : WB G A B M0 t M) (ht : t < 16) (e1 : (stA G A B t).1 = i) (e2 : (stA G A B t).2.1 = j) (hX : ∀ M', WB G A B M0 (t + 1) M' → P M') : w254 203 (jI (i : Int)) (jI (j : Int)) M P := by
  have hL := h.1.1 hL0
  have h' := WB_s h
  rw [e1, e2] at h'
  simp (disch := omega) only [w254, w254_30, kd_sI, kd_sL, kd_sR, true_and, and_true, Option.some.injEq, exists_eq_left', kd_203 hL, rf_203_57 hL, rf_203_58 hL, gR_sI, i229 hL, gI_y, gI_n, gL_y, gL_n, gR_y, gR_n, gI_sL, gI_sR, gL_sI, gL_sR, gR_sI, gR_sL, jI_cn, h.2.1, jI_lit, jI_add, c_s1]
  exact ⟨i230 hL ht, hX _ h'⟩
theorem sTw_f {x k : Nat} (h1 : ¬ (x = 203 ∧ k = 59)) (h2 : ¬ (229 ≤ x ∧ x ≤ 230)) : sTw x k = false := sB_f (by omega) h2
theorem rsd {M M0 M1 : MM} {a b : WY} {n d : Int} {l : Bool} {i j : Nat} (h : RST M0 a b n d (lG (geo a b n d)) M1) (hF : Fr sTw M1 M) (hs : isSd a b l i j) : mI M 215 (sX l i j) = bI (lG (geo a b n d) l i j).isSome :=
  (Fr_I hF (sTw_f (by omega) (by omega))).trans (rl_some (h.2.2.2 _ _ _ hs))
theorem w253_37_s {MX M0 : MM} {a b : WY} {n d : Int} {P : MM → Prop} (hL0 : Lay M0) (hS : RST MX a b n d (lG (geo a b n d)) M0) (ga : gW a) (gb : gW b) (hX : ∀ M', WB (geo a b n d) (wn a - 2) (wn b - 2) M0 (wn a - 2 + (wn b - 2) + 1) M' → P M') :
    ∀ (q t : Nat) (M : MM), t + q = wn a - 2 + (wn b - 2) → WB (geo a b n d) (wn a - 2) (wn b - 2) M0 (t + 1) M → w253_37 (q + 1) 203 (jI ((stA (geo a b n d) (wn a - 2) (wn b - 2) t).1 : Int)) (jI ((stA (geo a b n d) (wn a - 2) (wn b - 2) t).2.1 : Int)) (bI (ask (geo a b n d) (stA (geo a b n d) (wn a - 2) (wn b - 2) t))) M P := by
  have a1 := ga.1
  have b1 := gb.1
  have a2 := ga.2.1
  have b2 := gb.2.1
  intro q
  induction q with
  | zero =>
    intro t M ht h
    have hb := stA_b (geo a b n d) (wn a - 2) (wn b - 2) t (by omega)
    generalize stA (geo a b n d) (wn a - 2) (wn b - 2) t = s at *
    refine br_t ?_ (hX _ (by rw [← ht]; exact h))
    rw [jI_add, show (0 : Int32) = jI 0 from rfl, jI_le (by omega) (by omega) (by omega) (by omega)]
    omega
  | succ q ih =>
    intro t M ht h
    have hb := stA_b (geo a b n d) (wn a - 2) (wn b - 2) t (by omega)
    have hL := h.1.1 hL0
    have nx := ih (t + 1)
    have es : stA (geo a b n d) (wn a - 2) (wn b - 2) (t + 1) = wst (geo a b n d) (stA (geo a b n d) (wn a - 2) (wn b - 2) t) := rfl
    generalize stA (geo a b n d) (wn a - 2) (wn b - 2) t = s at *
    have e1 : (jI (s.2.1 : Int) = 0) ↔ s.2.1 = 0 := by rw [show (0 : Int32) = jI 0 from rfl, jI_eq (by omega) (by omega) (by omega) (by omega)]; omega
    have e2 : (jI (s.1 : Int) = 0) ↔ s.1 = 0 := by rw [show (0 : Int32) = jI 0 from rfl, jI_eq (by omega) (by omega) (by omega) (by omega)]; omega
    have hl : ∀ l3 : Int32, l3 ≠ 0 → 0 < s.1 → (s.2.1 = 0 ∨ (0 < s.1 ∧ ask (geo a b n d) s = true)) → w253_55 (fun z0 z1 z2 z3 z4 => w253_37 (q + 1) z0 z1 z2 z3 z4 P) 203 (jI (s.1 : Int)) (jI (s.2.1 : Int)) l3 M P := fun l3 h3 p c => by
      have ew := wst_l c
      rw [ew] at es
      rw [es] at nx
      refine br_f h3 ⟨kd_203 hL, ?_⟩
      rw [show jI (s.1 : Int) + (-1) = jI ((s.1 - 1 : Nat) : Int) by rw [show (-1 : Int32) = jI (-1) from rfl, jI_add]; congr 1; omega]
      refine w254_s hL0 h (by omega) (by rw [es]) (by rw [es]) (fun M' h' => ?_)
      have hL' := h'.1.1 hL0
      have hsd : isSd a b false (s.1 - 1) s.2.1 := ⟨by omega, by omega⟩
      refine ⟨kd_203 hL', w218_s (l := false) ⟨215, rf_203_35 hL', i215 hL' (sX_lt ga gb hsd), ?_⟩⟩
      rw [jI_cn (by have := sX_lt ga gb hsd; omega), rsd hS h'.1 hsd]
      have nx' := nx M' (by omega) h'
      unfold ask at nx'
      dsimp only at nx'
      rw [if_neg (by decide)] at nx'
      show (bI (lw (geo a b n d) (s.1 - 1) s.2.1).isSome ≠ 0 → _) ∧ (¬ bI (lw (geo a b n d) (s.1 - 1) s.2.1).isSome ≠ 0 → _)
      cases hh : (lw (geo a b n d) (s.1 - 1) s.2.1).isSome with
      | true => rw [hh] at nx'; exact br_t (by decide) nx'
      | false => rw [hh] at nx'; exact br_f (by decide) nx'
    have hu : ∀ l3 : Int32, l3 = 0 → ¬ (s.2.1 = 0 ∨ (0 < s.1 ∧ ask (geo a b n d) s = true)) → w253_55 (fun z0 z1 z2 z3 z4 => w253_37 (q + 1) z0 z1 z2 z3 z4 P) 203 (jI (s.1 : Int)) (jI (s.2.1 : Int)) l3 M P := fun l3 h3 c => by
      have ew := wst_u c
      rw [ew] at es
      rw [es] at nx
      have : s.2.1 ≠ 0 := fun z => c (Or.inl z)
      refine br_t h3 ⟨kd_203 hL, ?_⟩
      rw [show jI (s.2.1 : Int) + (-1) = jI ((s.2.1 - 1 : Nat) : Int) by rw [show (-1 : Int32) = jI (-1) from rfl, jI_add]; congr 1; omega]
      refine w254_s hL0 h (by omega) (by rw [es]) (by rw [es]) (fun M' h' => ?_)
      have hL' := h'.1.1 hL0
      have hsd : isSd a b true s.1 (s.2.1 - 1) := ⟨by omega, by omega⟩
      refine ⟨kd_203 hL', w218_s (l := true) ⟨215, rf_203_35 hL', i215 hL' (sX_lt ga gb hsd), ?_⟩⟩
      rw [jI_cn (by have := sX_lt ga gb hsd; omega), rsd hS h'.1 hsd]
      exact nx M' (by omega) h'
    refine br_f ?_ ⟨fun y => ⟨fun z => ?_, fun z => ?_⟩, fun y => ⟨fun z => ?_, fun z => ?_⟩⟩
    · rw [jI_add, show (0 : Int32) = jI 0 from rfl, jI_le (by omega) (by omega) (by omega) (by omega)]
      omega
    · have y' : ¬ s.1 = 0 := fun v => y (e2.mpr v)
      have z' : ¬ s.2.1 = 0 := fun v => z (e1.mpr v)
      cases hh : ask (geo a b n d) s with
      | true => exact hl _ (by decide) (by omega) (Or.inr ⟨by omega, hh⟩)
      | false => exact hu _ rfl (fun v => by
          rcases v with v | v
          · exact z' v
          · rw [hh] at v; exact absurd v.2 (by decide))
    · have y' : ¬ s.1 = 0 := fun v => y (e2.mpr v)
      have z' : s.2.1 = 0 := e1.mp (Classical.not_not.mp z)
      exact hl _ (by decide) (by omega) (Or.inl z')
    · have y' : s.1 = 0 := e2.mp (Classical.not_not.mp y)
      have z' : ¬ s.2.1 = 0 := fun v => z (e1.mpr v)
      exact hu _ rfl (fun v => by
          rcases v with v | v
          · exact z' v
          · omega)
    · have y' : s.1 = 0 := e2.mp (Classical.not_not.mp y)
      have z' : s.2.1 = 0 := e1.mp (Classical.not_not.mp z)
      omega
theorem w253_s {MX M : MM} {a b : WY} {n d : Int} {P : MM → Prop} (hL : Lay M) (hR : RAB M a b) (hS : RST MX a b n d (lG (geo a b n d)) M) (ga : gW a) (gb : gW b) (hX : ∀ M', WB (geo a b n d) (wn a - 2) (wn b - 2) M (wn a - 2 + (wn b - 2) + 1) M' → P M') : w253 203 M P := by
  have a1 := ga.1
  have b1 := gb.1
  have a2 := ga.2.1
  have b2 := gb.2.1
  refine ⟨kd_203 hL, kd_203 hL, kd_203 hL, kd_203 hL, ?_⟩
  have ea : mI (sI M 203 59 0) 203 27 - 2 = jI ((wn a - 2 : Nat) : Int) := by rw [gI_n (by omega), hR.1, show (2 : Int32) = jI 2 from rfl, jI_sub]; congr 1; omega
  have eb : mI (sI M 203 59 0) 203 28 - 2 = jI ((wn b - 2 : Nat) : Int) := by rw [gI_n (by omega), hR.2.1, show (2 : Int32) = jI 2 from rfl, jI_sub]; congr 1; omega
  rw [ea, eb]
  refine w254_s (G := geo a b n d) (A := wn a - 2) (B := wn b - 2) (t := 0) hL ⟨Fr_sI Fr_r (sB_t1 (by omega)), gI_y ⟨rfl, rfl⟩, fun t' ht => absurd ht (by omega)⟩ (by omega) rfl rfl (fun M' h' => ?_)
  have hL' := h'.1.1 hL
  have hsd : isSd a b true (wn a - 2) (wn b - 2) := ⟨by omega, by omega⟩
  refine ⟨kd_203 hL', w218_s (l := true) ⟨215, rf_203_35 hL', i215 hL' (sX_lt ga gb hsd), wn a - 2 + (wn b - 2) + 1, ?_⟩⟩
  rw [jI_cn (by have := sX_lt ga gb hsd; omega), rsd hS h'.1 hsd]
  exact w253_37_s hL hS ga gb hX _ 0 M' (by omega) h'
