/-! HOPS: laid in the class -/
theorem i176 {M : MM} (h : Lay M) {k : Nat} (q : k < 64) : inb M 176 11 (jI (k : Int)) := by rw [← nI_j]; exact in_176 h q
theorem i177 {M : MM} (h : Lay M) {k : Nat} (q : k < 64) : inb M 177 11 (jI (k : Int)) := by rw [← nI_j]; exact in_177 h q
def sJp : Nat → Nat → Bool := sB 175 5 6 176 177
theorem sJp_f {x k : Nat} (h : x < 175 ∨ 177 < x) : sJp x k = false := sB_f (by omega) (by omega)
/-- squares and least hops from cell (i, q) on -/
def JI (M0 : MM) (a b : WY) (i q : Nat) (M : MM) : Prop := Fr sJp M0 M ∧ mI M 175 5 = jI ((wn a : Int) - 1) ∧ mI M 175 6 = jI ((wn b : Int) - 1) ∧ ∀ i' j', i' < wn a → j' < wn b → (i < i' ∨ (i' = i ∧ q ≤ j')) → mI M 176 (8 * i' + j') = jI (qd a i' b j') ∧ mI M 177 (8 * i' + j') = jI (hv a b i' j')
theorem TrC_fr2 {S : Nat → Nat → Bool} {M M' : MM} {t : Nat} {a : WY} (hF : Fr S M M') (h : ∀ x k, t ≤ x → x ≤ t + 2 → S x k = false) (hA : TrC M t a) : TrC M' t a :=
  ⟨(Fr_I hF (h _ _ (by omega) (by omega))).trans hA.1, fun i hi => ⟨(Fr_I hF (h _ _ (by omega) (by omega))).trans (hA.2 i hi).1, (Fr_I hF (h _ _ (by omega) (by omega))).trans (hA.2 i hi).2⟩⟩
theorem w96_35_s {M0 : MM} {t u i : Nat} {a b : WY} {k25 : Nat → Option Nat → Option Nat → Int32 → MM → Prop} {P : MM → Prop} (hL0 : Lay M0) (ht : isT t = true) (hu : isT u = true) (t9 : t + 2 < 175 ∨ 177 < t) (u9 : u + 2 < 175 ∨ 177 < u) (hA : TrC M0 t a) (hB : TrC M0 u b) (ga : gW a) (gb : gW b) (hi : i < wn a) (hX : ∀ M', JI M0 a b i 0 M' → k25 175 (some t) (some u) (jI ((i : Int) - 1)) M') :
    ∀ (q : Nat) (M : MM), q ≤ wn b → JI M0 a b i q M → w96_35 k25 (q + 1) 175 (some t) (some u) (jI (i : Int)) (jI ((q : Int) - 1)) M P := by
  have a2 := ga.2.1
  have b2 := gb.2.1
  intro q
  induction q with
  | zero =>
    intro M hq h
    refine br_t (by decide) ?_
    rw [show jI (i : Int) + (-1) = jI ((i : Int) - 1) by rw [show (-1 : Int32) = jI (-1) from rfl, jI_add]; congr 1]
    exact hX M h
  | succ q ih =>
    intro M hq h
    have hL := h.1.1 hL0
    have hA' := TrC_fr2 h.1 (fun x k _ _ => sJp_f (by omega)) hA
    have hB' := TrC_fr2 h.1 (fun x k _ _ => sJp_f (by omega)) hB
    rw [show ((q + 1 : Nat) : Int) - 1 = (q : Int) by omega]
    refine br_f ?_ ⟨t, rfl, kd_T hL ht, w42_s hL ht hu hA' hB' ga gb hi (by omega) ⟨kd_175 hL, 176, rf_175_0 hL, ?_⟩⟩
    · rw [show (0 : Int32) = jI 0 from rfl, jI_lt (by omega) (by omega) (by omega) (by omega)]; omega
    rw [show jI (i : Int) * 8 + jI (q : Int) = jI ((8 * i + q : Nat) : Int) by rw [show (8 : Int32) = jI 8 from rfl, jI_mul, jI_add]; congr 1; omega, jI_cn (by omega)]
    refine ⟨i176 hL (by omega), kd_175 hL, kd_175 hL, kd_175 hL, ?_⟩
    have hLs : Lay (sI M 176 (8 * i + q) (jI (qd a i b q))) := hL
    rw [rf_175_1 hLs]
    have qb := qd_b ga gb hi (show q < wn b by omega)
    have hb := hv_z ga gb hi (show q < wn b by omega)
    have hV : hvA (sI M 176 (8 * i + q) (jI (qd a i b q))) 177 (hv a b) (wn a) (wn b) i q := fun i' j' h1 h2 h3 => by
      have z := hv_z ga gb h1 h2
      rw [gI_n (by omega)]
      exact ⟨(h.2.2.2 i' j' h1 h2 (by omega)).2, by omega, by omega⟩
    have h5' : mI (sI M 176 (8 * i + q) (jI (qd a i b q))) 175 5 = jI ((wn a : Int) - 1) := by rw [gI_n (by omega)]; exact h.2.1
    have h6' : mI (sI M 176 (8 * i + q) (jI (qd a i b q))) 175 6 = jI ((wn b : Int) - 1) := by rw [gI_n (by omega)]; exact h.2.2.1
    have hq : q < wn b := by omega
    have ho : ∀ k : Nat, k < 64 → inb (sI M 176 (8 * i + q) (jI (qd a i b q))) 177 11 (jI (k : Int)) := fun k hk => i177 hLs hk
    refine w97_s (o := 177) (an := wn a) (bn := wn b) (h := hv a b) hLs h5' h6' a2 b2 ho hV hi hq ?_
    have nb : -2147483648 ≤ nxM (wn a) (wn b) (hv a b) i q ∧ nxM (wn a) (wn b) (hv a b) i q < 2147483648 := by
      unfold nxM
      by_cases c1 : i + 1 < wn a
      · rw [if_pos c1]
        have h1 := hv_z ga gb c1 (show q < wn b by omega)
        by_cases c2 : q + 1 < wn b
        · rw [if_pos c2]
          have h2 := hv_z ga gb c1 c2
          have h3 := hv_z ga gb hi c2
          omega
        · rw [if_neg c2]; omega
      · rw [if_neg c1]
        by_cases c2 : q + 1 < wn b
        · rw [if_pos c2]
          have h3 := hv_z ga gb hi c2
          omega
        · rw [if_neg c2]; omega
    refine w33_s (by omega) (by omega) nb.1 nb.2 ⟨177, rfl, i177 hLs (by omega), ?_⟩
    rw [← hv_e]
    rw [show jI (q : Int) + (-1) = jI ((q : Int) - 1) by rw [show (-1 : Int32) = jI (-1) from rfl, jI_add]; congr 1]
    refine ih _ (by omega) ⟨Fr_sI (Fr_sI h.1 (sB_t2 (by omega))) (sB_t2 (by omega)), ?_, ?_, fun i' j' h1 h2 h3 => ?_⟩
    · rw [gI_n (by omega), gI_n (by omega)]; exact h.2.1
    · rw [gI_n (by omega), gI_n (by omega)]; exact h.2.2.1
    · by_cases e : i' = i ∧ j' = q
      · rw [e.1, e.2]
        exact ⟨by rw [gI_n (by omega), gI_y ⟨rfl, rfl⟩], gI_y ⟨rfl, rfl⟩⟩
      · have := h.2.2.2 i' j' h1 h2 (by omega)
        rw [gI_n (by omega), gI_n (by omega), gI_n (by omega), gI_n (by omega)]
        exact this
theorem w96_25_s {M0 : MM} {t u : Nat} {a b : WY} {P : MM → Prop} (hL0 : Lay M0) (ht : isT t = true) (hu : isT u = true) (t9 : t + 2 < 175 ∨ 177 < t) (u9 : u + 2 < 175 ∨ 177 < u) (hA : TrC M0 t a) (hB : TrC M0 u b) (ga : gW a) (gb : gW b) (hX : ∀ M', JI M0 a b 0 0 M' → P M') :
    ∀ (p : Nat) (M : MM), p ≤ wn a → JI M0 a b p 0 M → w96_25 (p + 1) 175 (some t) (some u) (jI ((p : Int) - 1)) M P := by
  have a2 := ga.2.1
  have b2 := gb.2.1
  intro p
  induction p with
  | zero =>
    intro M hp h
    exact br_t (by decide) (hX M h)
  | succ p ih =>
    intro M hp h
    have hL := h.1.1 hL0
    rw [show ((p + 1 : Nat) : Int) - 1 = (p : Int) by omega]
    refine br_f ?_ ⟨kd_175 hL, wn b + 1, ?_⟩
    · rw [show (0 : Int32) = jI 0 from rfl, jI_lt (by omega) (by omega) (by omega) (by omega)]; omega
    rw [h.2.2.1]
    exact w96_35_s (k25 := fun z0 z1 z2 z3 z4 => w96_25 (p + 1) z0 z1 z2 z3 z4 P) hL0 ht hu t9 u9 hA hB ga gb (by omega) (fun M' h' => ih M' (by omega) h') (wn b) M (Nat.le_refl _) ⟨h.1, h.2.1, h.2.2.1, fun i' j' h1 h2 h3 => h.2.2.2 i' j' h1 h2 (by omega)⟩
theorem w96_s {M : MM} {t u : Nat} {a b : WY} {P : MM → Prop} (hL : Lay M) (ht : isT t = true) (hu : isT u = true) (t9 : t + 2 < 175 ∨ 177 < t) (u9 : u + 2 < 175 ∨ 177 < u) (hA : TrC M t a) (hB : TrC M u b) (ga : gW a) (gb : gW b) (hX : ∀ M', JI M a b 0 0 M' → P M') : w96 175 (some t) (some u) M P := by
  have a1 := ga.1
  refine ⟨t, rfl, kd_T hL ht, kd_175 hL, u, rfl, kd_T hL hu, kd_175 hL, kd_175 hL, wn a + 1, ?_⟩
  have e1 : mI M t 1 - 1 = jI ((wn a : Int) - 1) := by rw [hA.1, show (1 : Int32) = jI 1 from rfl, jI_sub]
  have e2 : mI (sI M 175 5 (mI M t 1 - 1)) u 1 - 1 = jI ((wn b : Int) - 1) := by rw [gI_n (by omega), hB.1, show (1 : Int32) = jI 1 from rfl, jI_sub]
  rw [e2, e1, gI_n (by omega), gI_y ⟨rfl, rfl⟩]
  exact w96_25_s hL ht hu t9 u9 hA hB ga gb hX (wn a) _ (Nat.le_refl _) ⟨Fr_sI (Fr_sI Fr_r (sB_t1 (by omega))) (sB_t1 (by omega)), by rw [gI_n (by omega), gI_y ⟨rfl, rfl⟩], gI_y ⟨rfl, rfl⟩, fun i' j' h1 h2 h3 => absurd h3 (by omega)⟩
theorem w99_s {M0 M : MM} {a b : WY} {P : Int32 → MM → Prop} (hL : Lay M) (ga : gW a) (gb : gW b) (h : JI M0 a b 0 0 M) (hP : P (jI (hv a b 0 0)) M) : w99 175 M P := by
  have a1 := ga.1
  have b1 := gb.1
  refine ⟨kd_175 hL, 177, rf_175_1 hL, i177 (k := 0) hL (by omega), ?_⟩
  rw [show (0 : Int32).toNatClampNeg = 8 * 0 + 0 from rfl, (h.2.2.2 0 0 (by omega) (by omega) (by omega)).2]
  exact hP
