/-! ===== the reference's ways, laid for a query ===== -/
def RWs (M : MM) (k : Nat) (W : Nat → WY) : Prop := mI M 203 5 = jI (k : Int) ∧ k ≤ 4 ∧ ∀ w, w < k → gW (W w) ∧ mI M 204 (17 * w) = jI (wn (W w) : Int) ∧ ∀ i, i < wn (W w) → mI M 204 (17 * w + 1 + 2 * i) = jI (wx (W w) i) ∧ mI M 204 (17 * w + 2 + 2 * i) = jI (wy (W w) i)
theorem i204 {M : MM} (h : Lay M) {k : Nat} (q : k < 68) : inb M 204 11 (jI (k : Int)) := by rw [← nI_j]; exact in_204 h q
theorem RWs_fr {S : Nat → Nat → Bool} {M M' : MM} {k : Nat} {W : Nat → WY} (hF : Fr S M M') (h1 : S 203 5 = false) (h2 : ∀ q, S 204 q = false) (h : RWs M k W) : RWs M' k W :=
  ⟨(Fr_I hF h1).trans h.1, h.2.1, fun w hw => ⟨(h.2.2 w hw).1, (Fr_I hF (h2 _)).trans (h.2.2 w hw).2.1, fun i hi => ⟨(Fr_I hF (h2 _)).trans ((h.2.2 w hw).2.2 i hi).1, (Fr_I hF (h2 _)).trans ((h.2.2 w hw).2.2 i hi).2⟩⟩⟩
theorem w180_q {M : MM} {k w : Nat} {W : Nat → WY} {P : Int32 → MM → Prop} (hL : Lay M) (hW : RWs M k W) (hw : w < k) (hP : P (jI (wn (W w) : Int)) M) : w180 203 (jI (w : Int)) M P := by
  have k4 := hW.2.1
  have q := hW.2.2 w hw
  have e : (17 * (w : Int)) = ((17 * w : Nat) : Int) := by omega
  simp (disch := omega) only [w180, w174, kd_sI, kd_sL, kd_sR, true_and, and_true, Option.some.injEq, exists_eq_left', kd_203 hL, rf_203_0 hL, jI_lit, jL_lit, jI_add, jI_sub, jI_mul, jI_neg, jL_add, jL_sub, jL_mul, jL_neg, jL_i, e, i204 hL, jI_cn, q.2.1]
  exact hP
theorem w184_q {M : MM} {k w i : Nat} {W : Nat → WY} {P : Int32 → MM → Prop} (hL : Lay M) (hW : RWs M k W) (hw : w < k) (hi : i < wn (W w)) (hP : P (jI (wx (W w) i)) M) : w184 203 (jI (w : Int)) (jI (i : Int)) M P := by
  have k4 := hW.2.1
  have q := hW.2.2 w hw
  have n8 := q.1.2.1
  have e : (17 * (w : Int) + 1 + 2 * (i : Int)) = ((17 * w + 1 + 2 * i : Nat) : Int) := by omega
  simp (disch := omega) only [w184, w174, kd_sI, kd_sL, kd_sR, true_and, and_true, Option.some.injEq, exists_eq_left', kd_203 hL, rf_203_0 hL, jI_lit, jL_lit, jI_add, jI_sub, jI_mul, jI_neg, jL_add, jL_sub, jL_mul, jL_neg, jL_i, e, i204 hL, jI_cn, (q.2.2 i hi).1]
  exact hP
theorem w185_q {M : MM} {k w i : Nat} {W : Nat → WY} {P : Int32 → MM → Prop} (hL : Lay M) (hW : RWs M k W) (hw : w < k) (hi : i < wn (W w)) (hP : P (jI (wy (W w) i)) M) : w185 203 (jI (w : Int)) (jI (i : Int)) M P := by
  have k4 := hW.2.1
  have q := hW.2.2 w hw
  have n8 := q.1.2.1
  have e : (17 * (w : Int) + 2 + 2 * (i : Int)) = ((17 * w + 2 + 2 * i : Nat) : Int) := by omega
  simp (disch := omega) only [w185, w174, kd_sI, kd_sL, kd_sR, true_and, and_true, Option.some.injEq, exists_eq_left', kd_203 hL, rf_203_0 hL, jI_lit, jL_lit, jI_add, jI_sub, jI_mul, jI_neg, jL_add, jL_sub, jL_mul, jL_neg, jL_i, e, i204 hL, jI_cn, (q.2.2 i hi).2]
  exact hP
def RA1 (M : MM) (a : WY) : Prop := mI M 203 27 = jI (wn a : Int) ∧ ∀ i, i < wn a → mI M 210 i = jI (wx a i) ∧ mI M 211 i = jI (wy a i)
def RB1 (M : MM) (b : WY) : Prop := mI M 203 28 = jI (wn b : Int) ∧ ∀ i, i < wn b → mI M 212 i = jI (wx b i) ∧ mI M 213 i = jI (wy b i)
theorem RAB_i {M : MM} {a b : WY} (h1 : RA1 M a) (h2 : RB1 M b) : RAB M a b := ⟨h1.1, h2.1, h1.2, h2.2⟩
/-- a piece of a way -/
def pc (a : WY) (i k : Nat) : WY := (k + 1 - i, fun t => wx a (i + t), fun t => wy a (i + t))
def sRA : Nat → Nat → Bool := sB 203 27 27 210 211
def sRB : Nat → Nat → Bool := sB 203 28 28 212 213
theorem w212_8_s {M0 : MM} {k w i0 k0 : Nat} {W : Nat → WY} {P : MM → Prop} (hL0 : Lay M0) (hW : RWs M0 k W) (hw : w < k) (h1 : i0 ≤ k0) (h2 : k0 < wn (W w)) (hX : ∀ M', Fr sRA M0 M' → RA1 M' (pc (W w) i0 k0) → P M') :
    ∀ (q p : Nat) (M : MM), p + q = k0 + 1 → i0 ≤ p → Fr sRA M0 M → mI M 203 27 = jI ((p - i0 : Nat) : Int) → (∀ t, t < p - i0 → mI M 210 t = jI (wx (W w) (i0 + t)) ∧ mI M 211 t = jI (wy (W w) (i0 + t))) → w212_8 (q + 1) 203 (jI (w : Int)) (jI (k0 : Int)) (jI (p : Int)) M P := by
  have n8 := (hW.2.2 w hw).1.2.1
  intro q
  induction q with
  | zero =>
    intro p M hp hi hF hn hS
    unfold w212_8
    simp (disch := omega) only [jI_eq, jI_le, jI_lt, jL_eq, jL_le, jL_lt, jI_l]
    refine br_t (by omega) (hX M hF ⟨?_, ?_⟩)
    · rw [hn]; show _ = jI ((k0 + 1 - i0 : Nat) : Int); rw [show p - i0 = k0 + 1 - i0 by omega]
    · intro t ht
      have ht' : t < k0 + 1 - i0 := ht
      exact hS t (by omega)
  | succ q ih =>
    intro p M hp hi hF hn hS
    have hL := hF.1 hL0
    have hW' := RWs_fr hF (sB_f (by omega) (by omega)) (fun q => sB_f (by omega) (by omega)) hW
    unfold w212_8
    simp (disch := omega) only [jI_eq, jI_le, jI_lt, jL_eq, jL_le, jL_lt, jI_l]
    refine br_f (by omega) ⟨kd_203 hL, kd_203 hL, kd_203 hL, w184_q hL hW' hw (by omega) ?_⟩
    simp (disch := omega) only [kd_sI, kd_sL, kd_sR, true_and, and_true, Option.some.injEq, exists_eq_left', gI_y, gI_n, gL_y, gL_n, gR_y, gR_n, gI_sL, gI_sR, gL_sI, gL_sR, gR_sI, gR_sL, kd_203 hL, rf_203_23 hL, hn, jI_cn, i210 hL]
    refine w185_q (lay_sI hL) (RWs_fr (Fr_sI (S := sRA) Fr_r (sB_t2 (by omega))) (sB_f (by omega) (by omega)) (fun q => sB_f (by omega) (by omega)) hW') hw (by omega) ?_
    simp (disch := omega) only [kd_sI, kd_sL, kd_sR, true_and, and_true, Option.some.injEq, exists_eq_left', gI_y, gI_n, gL_y, gL_n, gR_y, gR_n, gI_sL, gI_sR, gL_sI, gL_sR, gR_sI, gR_sL, kd_203 hL, rf_203_24 hL, hn, jI_cn, i211 (lay_sI hL), w212_56, jI_lit, jL_lit, jI_add, jI_sub, jI_mul, jI_neg, jL_add, jL_sub, jL_mul, jL_neg, jL_i, c_s1]
    refine ih (p + 1) _ (by omega) (by omega) (Fr_sI (Fr_sI (Fr_sI hF (sB_t2 (by omega))) (sB_t2 (by omega))) (sB_t1 (by omega))) ?_ ?_
    · rw [gI_y ⟨rfl, rfl⟩, show p + 1 - i0 = p - i0 + 1 by omega]
    · intro t ht
      by_cases e : t = p - i0
      · subst e
        rw [show i0 + (p - i0) = p by omega]
        refine ⟨?_, ?_⟩ <;> simp (disch := omega) only [gI_y, gI_n, gL_y, gL_n, gR_y, gR_n, gI_sL, gI_sR, gL_sI, gL_sR, gR_sI, gR_sL]
      · have := hS t (by omega)
        refine ⟨?_, ?_⟩ <;> simp (disch := omega) only [gI_y, gI_n, gL_y, gL_n, gR_y, gR_n, gI_sL, gI_sR, gL_sI, gL_sR, gR_sI, gR_sL, this]
theorem w212_s {M0 : MM} {k w i0 k0 : Nat} {W : Nat → WY} {P : MM → Prop} (hL0 : Lay M0) (hW : RWs M0 k W) (hw : w < k) (h1 : i0 ≤ k0) (h2 : k0 < wn (W w)) (hX : ∀ M', Fr sRA M0 M' → RA1 M' (pc (W w) i0 k0) → P M') : w212 203 (jI (w : Int)) (jI (i0 : Int)) (jI (k0 : Int)) M0 P := by
  refine ⟨kd_203 hL0, k0 + 1 - i0 + 1, w212_8_s hL0 hW hw h1 h2 hX (k0 + 1 - i0) i0 _ (by omega) (Nat.le_refl _) (Fr_sI Fr_r (sB_t1 (by omega))) ?_ (fun t ht => by omega)⟩
  rw [gI_y ⟨rfl, rfl⟩, Nat.sub_self]; rfl
theorem w214_s {M : MM} {k w p t : Nat} {W : Nat → WY} {P : MM → Prop} (hL : Lay M) (hW : RWs M k W) (hw : w < k) (hp : p < wn (W w)) (ht : t < 8) (hn : mI M 203 28 = jI (t : Int)) (hP : P (sI (sI (sI M 212 t (jI (wx (W w) p))) 213 t (jI (wy (W w) p))) 203 28 (jI ((t + 1 : Nat) : Int)))) : w214 203 (jI (w : Int)) (jI (p : Int)) M P := by
  refine ⟨kd_203 hL, kd_203 hL, kd_203 hL, w184_q hL hW hw hp ?_⟩
  simp (disch := omega) only [kd_sI, kd_sL, kd_sR, true_and, and_true, Option.some.injEq, exists_eq_left', gI_y, gI_n, gL_y, gL_n, gR_y, gR_n, gI_sL, gI_sR, gL_sI, gL_sR, gR_sI, gR_sL, kd_203 hL, rf_203_25 hL, hn, jI_cn, i212 hL]
  refine w185_q (lay_sI hL) (RWs_fr (Fr_sI (S := sRB) Fr_r (sB_t2 (by omega))) (sB_f (by omega) (by omega)) (fun q => sB_f (by omega) (by omega)) hW) hw hp ?_
  simp (disch := omega) only [kd_sI, kd_sL, kd_sR, true_and, and_true, Option.some.injEq, exists_eq_left', gI_y, gI_n, gL_y, gL_n, gR_y, gR_n, gI_sL, gI_sR, gL_sI, gL_sR, gR_sI, gR_sL, kd_203 hL, rf_203_26 hL, hn, jI_cn, i213 (lay_sI hL), w214_40, jI_lit, jL_lit, jI_add, jI_sub, jI_mul, jI_neg, jL_add, jL_sub, jL_mul, jL_neg, jL_i, c_s1]
  exact hP
theorem w213_8_s {M0 : MM} {k w i0 k0 : Nat} {W : Nat → WY} {P : MM → Prop} (hL0 : Lay M0) (hW : RWs M0 k W) (hw : w < k) (h1 : i0 ≤ k0) (h2 : k0 < wn (W w)) (hX : ∀ M', Fr sRB M0 M' → RB1 M' (pc (W w) i0 k0) → P M') :
    ∀ (q p : Nat) (M : MM), p + q = k0 + 1 → i0 ≤ p → Fr sRB M0 M → mI M 203 28 = jI ((p - i0 : Nat) : Int) → (∀ t, t < p - i0 → mI M 212 t = jI (wx (W w) (i0 + t)) ∧ mI M 213 t = jI (wy (W w) (i0 + t))) → w213_8 (q + 1) 203 (jI (w : Int)) (jI (k0 : Int)) (jI (p : Int)) M P := by
  have n8 := (hW.2.2 w hw).1.2.1
  intro q
  induction q with
  | zero =>
    intro p M hp hi hF hn hS
    unfold w213_8
    simp (disch := omega) only [jI_eq, jI_le, jI_lt, jL_eq, jL_le, jL_lt, jI_l]
    refine br_t (by omega) (hX M hF ⟨?_, ?_⟩)
    · rw [hn]; show _ = jI ((k0 + 1 - i0 : Nat) : Int); rw [show p - i0 = k0 + 1 - i0 by omega]
    · intro t ht
      have ht' : t < k0 + 1 - i0 := ht
      exact hS t (by omega)
  | succ q ih =>
    intro p M hp hi hF hn hS
    have hL := hF.1 hL0
    have hW' := RWs_fr hF (sB_f (by omega) (by omega)) (fun q => sB_f (by omega) (by omega)) hW
    unfold w213_8
    simp (disch := omega) only [jI_eq, jI_le, jI_lt, jL_eq, jL_le, jL_lt, jI_l]
    refine br_f (by omega) ⟨kd_203 hL, w214_s hL hW' hw (by omega) (by omega) hn ?_⟩
    simp only [jI_lit, jL_lit, jI_add, jI_sub, jI_mul, jI_neg, jL_add, jL_sub, jL_mul, jL_neg, jL_i, c_s1]
    refine ih (p + 1) _ (by omega) (by omega) (Fr_sI (Fr_sI (Fr_sI hF (sB_t2 (by omega))) (sB_t2 (by omega))) (sB_t1 (by omega))) ?_ ?_
    · rw [gI_y ⟨rfl, rfl⟩, show p + 1 - i0 = p - i0 + 1 by omega]
    · intro t ht
      by_cases e : t = p - i0
      · subst e
        rw [show i0 + (p - i0) = p by omega]
        refine ⟨?_, ?_⟩ <;> simp (disch := omega) only [gI_y, gI_n, gL_y, gL_n, gR_y, gR_n, gI_sL, gI_sR, gL_sI, gL_sR, gR_sI, gR_sL]
      · have := hS t (by omega)
        refine ⟨?_, ?_⟩ <;> simp (disch := omega) only [gI_y, gI_n, gL_y, gL_n, gR_y, gR_n, gI_sL, gI_sR, gL_sI, gL_sR, gR_sI, gR_sL, this]
theorem w213_s {M0 : MM} {k w i0 k0 : Nat} {W : Nat → WY} {P : MM → Prop} (hL0 : Lay M0) (hW : RWs M0 k W) (hw : w < k) (h1 : i0 ≤ k0) (h2 : k0 < wn (W w)) (hX : ∀ M', Fr sRB M0 M' → RB1 M' (pc (W w) i0 k0) → P M') : w213 203 (jI (w : Int)) (jI (i0 : Int)) (jI (k0 : Int)) M0 P := by
  refine ⟨kd_203 hL0, k0 + 1 - i0 + 1, w213_8_s hL0 hW hw h1 h2 hX (k0 + 1 - i0) i0 _ (by omega) (Nat.le_refl _) (Fr_sI Fr_r (sB_t1 (by omega))) ?_ (fun t ht => by omega)⟩
  rw [gI_y ⟨rfl, rfl⟩, Nat.sub_self]; rfl
/-- ways with the same points up to their count -/
def sameW (a b : WY) : Prop := wn a = wn b ∧ ∀ i, i < wn a → wx a i = wx b i ∧ wy a i = wy b i
theorem RA1_c {M : MM} {a b : WY} (h : RA1 M a) (e : sameW a b) : RA1 M b := ⟨by rw [← e.1]; exact h.1, fun i hi => by
  rw [← (e.2 i (by rw [e.1]; exact hi)).1, ← (e.2 i (by rw [e.1]; exact hi)).2]; exact h.2 i (by rw [e.1]; exact hi)⟩
theorem RB1_c {M : MM} {a b : WY} (h : RB1 M a) (e : sameW a b) : RB1 M b := ⟨by rw [← e.1]; exact h.1, fun i hi => by
  rw [← (e.2 i (by rw [e.1]; exact hi)).1, ← (e.2 i (by rw [e.1]; exact hi)).2]; exact h.2 i (by rw [e.1]; exact hi)⟩
theorem pc_all {a : WY} (h : gW a) : sameW (pc a 0 (wn a - 1)) a := by
  have := h.1
  refine ⟨?_, fun i hi => ?_⟩
  · show wn a - 1 + 1 - 0 = wn a; omega
  · show wx a (0 + i) = _ ∧ wy a (0 + i) = _; rw [Nat.zero_add]; exact ⟨rfl, rfl⟩
def sRL : Nat → Nat → Bool := sB 203 27 28 210 213
theorem c_m1 {n : Nat} (h : 1 ≤ n) : ((n : Int) - 1) = ((n - 1 : Nat) : Int) := by omega
theorem w211_s {M0 : MM} {k w o : Nat} {W : Nat → WY} {P : MM → Prop} (hL0 : Lay M0) (hW : RWs M0 k W) (hw : w < k) (ho : o < k) (hX : ∀ M', Fr sRL M0 M' → RAB M' (W w) (W o) → P M') : w211 203 (jI (w : Int)) (jI (o : Int)) M0 P := by
  have g1 := (hW.2.2 w hw).1
  have g2 := (hW.2.2 o ho).1
  have a1 := g1.1
  have b1 := g2.1
  refine ⟨kd_203 hL0, w180_q hL0 hW hw ⟨kd_203 hL0, ?_⟩⟩
  simp only [jI_lit, jL_lit, jI_add, jI_sub, jI_mul, jI_neg, jL_add, jL_sub, jL_mul, jL_neg, jL_i, c_m1 (show 1 ≤ wn (W w) by omega)]
  refine w212_s (i0 := 0) hL0 hW hw (by omega) (by omega) (fun M1 hF1 h1 => ?_)
  have hL1 := hF1.1 hL0
  have hW1 := RWs_fr hF1 (sB_f (by omega) (by omega)) (fun q => sB_f (by omega) (by omega)) hW
  refine ⟨kd_203 hL1, w180_q hL1 hW1 ho ⟨kd_203 hL1, ?_⟩⟩
  simp only [jI_lit, jL_lit, jI_add, jI_sub, jI_mul, jI_neg, jL_add, jL_sub, jL_mul, jL_neg, jL_i, c_m1 (show 1 ≤ wn (W o) by omega)]
  refine w213_s (i0 := 0) hL1 hW1 ho (by omega) (by omega) (fun M2 hF2 h2 => ?_)
  refine hX M2 (Fr_t (Fr_w hF1 (sB_w (by omega) (by omega))) (Fr_w hF2 (sB_w (by omega) (by omega)))) (RAB_i ?_ (RB1_c h2 (pc_all g2)))
  have h1' := RA1_c h1 (pc_all g1)
  exact ⟨(Fr_I hF2 (sB_f (by omega) (by omega))).trans h1'.1, fun i hi => ⟨(Fr_I hF2 (sB_f (by omega) (by omega))).trans (h1'.2 i hi).1, (Fr_I hF2 (sB_f (by omega) (by omega))).trans (h1'.2 i hi).2⟩⟩
theorem w215_s {M : MM} {n d : Int} {P : MM → Prop} (hL : Lay M) (h1 : 0 ≤ n ∧ n ≤ 100000) (h2 : 0 ≤ d ∧ d ≤ 1000) (hP : P (sL (sL M 203 29 (jL n)) 203 30 (jL d))) : w215 203 (jI n) (jI d) M P := by
  simp (disch := omega) only [w215, kd_sI, kd_sL, kd_sR, true_and, and_true, Option.some.injEq, exists_eq_left', kd_203 hL, jI_l]
  exact hP
