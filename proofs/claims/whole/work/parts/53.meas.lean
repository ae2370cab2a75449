/-! ===== the class's cells: measured ===== -/
def oL (i j : Nat) : Nat := 63 + (i * 8 + j)
def oF (i j : Nat) : Nat := 63 + ((7 + j) * 8 + i)
def sMea (x k : Nat) : Bool := Nat.ble 63 x && Nat.ble x 174 && Nat.ble 5 k
theorem sMea_f {x k : Nat} (h : x < 63 ∨ 174 < x ∨ k < 5) : sMea x k = false := by
  unfold sMea
  refine Bool.eq_false_iff.mpr fun q => ?_
  simp only [Bool.and_eq_true, Nat.ble_eq] at q
  omega
theorem sMea_t {x k : Nat} (h : 63 ≤ x ∧ x ≤ 174 ∧ 5 ≤ k) : sMea x k = true := by
  unfold sMea
  simp only [Bool.and_eq_true, Nat.ble_eq]
  omega
theorem fx_side {o : Nat} (h : 63 ≤ o ∧ o ≤ 174) : fxR o 10 = false := by
  unfold fxR
  rw [show Nat.beq 10 10 = true from rfl, Nat.ble_eq.mpr h.1, Nat.ble_eq.mpr (show o ≤ 184 by omega), Bool.true_and, Bool.true_and, Bool.or_true]; rfl
theorem Fr_sp {M M' : MM} {o : Nat} {L f s n d : Int} (h : Fr sMea M M') (ho : 63 ≤ o ∧ o ≤ 174) : Fr sMea M (spM M' o L f s n d) :=
  Fr_sR (Fr_sI (Fr_sI (Fr_sI (Fr_sL (Fr_sL h (sMea_t (by omega))) (sMea_t (by omega))) (sMea_t (by omega))) (sMea_t (by omega))) (sMea_t (by omega))) (sMea_t (by omega)) (fx_side ho)
theorem sdG_fr {S : Nat → Nat → Bool} {M M' : MM} {o : Nat} {L f s : Int} (hF : Fr S M M') (hS : ∀ k, k < 5 → S o k = false) (h : sdG M o L f s) : sdG M' o L f s :=
  ⟨(Fr_L hF (hS 0 (by omega))).trans h.1, (Fr_L hF (hS 1 (by omega))).trans h.2.1, (Fr_L hF (hS 2 (by omega))).trans h.2.2.1, (Fr_L hF (hS 3 (by omega))).trans h.2.2.2.1, (Fr_L hF (hS 4 (by omega))).trans h.2.2.2.2⟩
theorem sdE_sp {M : MM} {o : Nat} {L f s n d : Int} (h : sdG M o L f s) : sdE (spM M o L f s n d) o L f s n d ∧ mR (spM M o L f s n d) o 10 = none := by
  unfold spM
  obtain ⟨q0, q1, q2, q3, q4⟩ := h
  refine ⟨⟨⟨?_, ?_, ?_, ?_, ?_⟩, ?_, ?_, ?_, ?_, ?_⟩, ?_⟩ <;> simp (disch := omega) only [gI_y, gI_n, gL_y, gL_n, gR_y, gR_n, gI_sL, gI_sR, gL_sI, gL_sR, gR_sI, gR_sL, q0, q1, q2, q3, q4]
theorem sdE_sn {M : MM} {o o' : Nat} {L f s L' f' s' n d : Int} (ho : o' ≠ o) (h : sdE M o' L' f' s' n d ∧ mR M o' 10 = none) : sdE (spM M o L f s n d) o' L' f' s' n d ∧ mR (spM M o L f s n d) o' 10 = none := by
  unfold spM
  obtain ⟨⟨⟨q0, q1, q2, q3, q4⟩, q5, q6, q7, q8, q9⟩, q10⟩ := h
  refine ⟨⟨⟨?_, ?_, ?_, ?_, ?_⟩, ?_, ?_, ?_, ?_, ?_⟩, ?_⟩ <;> simp (disch := omega) only [gI_y, gI_n, gL_y, gL_n, gR_y, gR_n, gI_sL, gI_sR, gL_sI, gL_sR, gR_sI, gR_sL, q0, q1, q2, q3, q4, q5, q6, q7, q8, q9, q10]
def sdN (M : MM) (a b : WY) (n d : Int) (r p : Nat) : Prop := sdE M (63 + (r * 8 + p)) (eL (rE a b r) (rI r)) (eF (rE a b r) (rI r) (rQ a b r) p) (eS (rE a b r) (rI r) (rQ a b r) p) n d
theorem rN_in {a b : WY} {r p : Nat} (h : p < rN a b r) : rI r + 1 < wn (rE a b r) ∧ p < wn (rQ a b r) := by
  unfold rN at h
  by_cases q : rI r + 1 < wn (rE a b r)
  · rw [if_pos q] at h; exact ⟨q, h⟩
  · rw [if_neg q] at h; omega
theorem g_rE {a b : WY} (ga : gW a) (gb : gW b) (r : Nat) : gW (rE a b r) ∧ gW (rQ a b r) := by
  unfold rE rQ
  by_cases h : r < 7
  · rw [if_pos h, if_pos h]; exact ⟨ga, gb⟩
  · rw [if_neg h, if_neg h]; exact ⟨gb, ga⟩
/-- cells laid for two ways -/
def Laid (M : MM) (a b : WY) : Prop := mI M 59 1 = jI ((wn a : Int) - 1) ∧ mI M 59 2 = jI ((wn b : Int) - 1) ∧ ∀ r p, p < rN a b r → r < 14 → sdR M a b r p
theorem Laid_LI {M0 M : MM} {a b : WY} (h : LI M0 a b 14 0 M) : Laid M a b := ⟨h.2.1, h.2.2.1, fun r p x y => h.2.2.2 r p x (Or.inl y) y⟩
def MI1 (M0 : MM) (a b : WY) (n d : Int) (r p : Nat) (M : MM) : Prop := Fr sMea M0 M ∧ ∀ r' p', p' < rN a b r' → (r' < r ∨ (r' = r ∧ p' < p)) → r' < 14 → sdN M a b n d r' p' ∧ mR M (63 + (r' * 8 + p')) 10 = none
theorem w80_13_s {M0 : MM} {r : Nat} {a b : WY} {n d : Int} {k3 : Nat → Int64 → Int64 → Int32 → MM → Prop} {P : MM → Prop} (hL0 : Lay M0) (hld : Laid M0 a b) (ga : gW a) (gb : gW b) (hE : gE n d) (hr : r < 14) (hX : ∀ M', MI1 M0 a b n d (r + 1) 0 M' → k3 59 (jL n) (jL d) (jI ((r + 1 : Nat) : Int)) M') :
    ∀ (q p : Nat) (M : MM), p + q = rN a b r → MI1 M0 a b n d r p M → w80_13 k3 (q + 1) 59 (jL n) (jL d) (jI (r : Int)) (jI (p : Int)) M P := by
  have hr8 := rN_le (r := r) ga gb
  intro q
  induction q with
  | zero =>
    intro p M hp hI
    obtain ⟨hF, hS⟩ := hI
    have hL := hF.1 hL0
    refine ⟨kd_59 hL, w79_s hL ((Fr_I hF (sMea_f (by omega))).trans hld.1) ((Fr_I hF (sMea_f (by omega))).trans hld.2.1) ga gb hr ?_⟩
    rw [jI_le (by omega) (by omega) (by omega) (by omega)]
    refine br_t (by omega) ?_
    simp only [jI_lit, jL_lit, jI_add, jI_sub, jI_mul, jI_neg, jL_add, jL_sub, jL_mul, jL_neg, jL_i, c_s1]
    exact hX M ⟨hF, fun r' p' x y z => hS r' p' x (by
      by_cases e : r' = r
      · subst e; right; exact ⟨rfl, by omega⟩
      · left; omega) z⟩
  | succ q ih =>
    intro p M hp hI
    obtain ⟨hF, hS⟩ := hI
    have hL := hF.1 hL0
    have hp8 : p < 8 := by omega
    refine ⟨kd_59 hL, w79_s hL ((Fr_I hF (sMea_f (by omega))).trans hld.1) ((Fr_I hF (sMea_f (by omega))).trans hld.2.1) ga gb hr ?_⟩
    rw [jI_le (by omega) (by omega) (by omega) (by omega)]
    have hk : kd M (63 + (r * 8 + p)) 7 := kd_S hL (by omega)
    refine br_f (by omega) ⟨kd_59 hL, 60, rf_59_0 hL, ?_⟩
    simp (disch := omega) only [jI_lit, jL_lit, jI_add, jI_sub, jI_mul, jI_neg, jL_add, jL_sub, jL_mul, jL_neg, jL_i, c_m8, c_add, c_s1, inb60 hL, jI_cn, rf_60 hL, kd_sI, kd_sL, kd_sR, true_and, and_true, Option.some.injEq, exists_eq_left', hk]
    have hin := rN_in (a := a) (b := b) (r := r) (p := p) (by omega)
    have hg := g_rE ga gb r
    have hG := sdG_fr hF (fun k hk => sMea_f (Or.inr (Or.inr hk))) (hld.2.2 r p (by omega) hr)
    refine w81_s hk hG (sdB_of hg.1 hg.2 hin.1 hin.2) hE ?_
    refine ih (p + 1) _ (by omega) ⟨Fr_sp hF (by omega), ?_⟩
    intro r' p' x y z
    have := rN_le (r := r') ga gb
    by_cases e : r' = r ∧ p' = p
    · obtain ⟨rfl, rfl⟩ := e
      exact sdE_sp hG
    · exact sdE_sn (by omega) (hS r' p' x (by omega) z)
theorem w80_3_s {M0 : MM} {a b : WY} {n d : Int} {P : MM → Prop} (hL0 : Lay M0) (hld : Laid M0 a b) (ga : gW a) (gb : gW b) (hE : gE n d) (hX : ∀ M', MI1 M0 a b n d 14 0 M' → ∃ n2, w80_57 n2 59 (jI 0) M' P) :
    ∀ (q r : Nat) (M : MM), r + q = 14 → MI1 M0 a b n d r 0 M → w80_3 (q + 1) 59 (jL n) (jL d) (jI (r : Int)) M P := by
  intro q
  induction q with
  | zero =>
    intro r M hr hI
    have : r = 14 := by omega
    subst this
    exact br_t (by decide) (hX M hI)
  | succ q ih =>
    intro r M hr hI
    unfold w80_3
    simp (disch := omega) only [jI_lit, jL_lit, jI_add, jI_sub, jI_mul, jI_neg, jL_add, jL_sub, jL_mul, jL_neg, jL_i, jI_eq, jI_le, jI_lt, jL_eq, jL_le, jL_lt, jI_l]
    refine br_f (by omega) ⟨rN a b r + 1, ?_⟩
    exact w80_13_s hL0 hld ga gb hE (by omega) (fun M' hI' => ih (r + 1) M' (by omega) hI') (rN a b r) 0 M (by omega) hI
theorem w82_s {M : MM} {i j : Nat} {P : Option Nat → MM → Prop} (hL : Lay M) (h : i * 8 + j < 112) (hP : P (some (oL i j)) M) : w82 59 (jI (i : Int)) (jI (j : Int)) M P := by
  simp (disch := omega) only [w82, kd_sI, kd_sL, kd_sR, true_and, and_true, Option.some.injEq, exists_eq_left', kd_59 hL, rf_59_0 hL, jI_lit, jL_lit, jI_add, jI_sub, jI_mul, jI_neg, jL_add, jL_sub, jL_mul, jL_neg, jL_i, c_m8, c_add, inb60 hL, jI_cn, rf_60 hL]
  exact hP
theorem c_7 (j : Nat) : ((7 : Int) + (j : Int)) = ((7 + j : Nat) : Int) := rfl
theorem w83_s {M : MM} {i j : Nat} {P : Option Nat → MM → Prop} (hL : Lay M) (h : (7 + j) * 8 + i < 112) (hP : P (some (oF i j)) M) : w83 59 (jI (i : Int)) (jI (j : Int)) M P := by
  simp (disch := omega) only [w83, kd_sI, kd_sL, kd_sR, true_and, and_true, Option.some.injEq, exists_eq_left', kd_59 hL, rf_59_0 hL, jI_lit, jL_lit, jI_add, jI_sub, jI_mul, jI_neg, jL_add, jL_sub, jL_mul, jL_neg, jL_i, c_7, c_m8, c_add, inb60 hL, jI_cn, rf_60 hL]
  exact hP
/-- all sides measured; LOWs as told -/
def ST (M0 : MM) (a b : WY) (n d : Int) (lfv lwv : Nat → Nat → Option Nat) (M : MM) : Prop :=
  Fr sMea M0 M ∧
  (∀ i j, i < wn a → j + 1 < wn b → sdE M (oF i j) (eL b j) (eF b j a i) (eS b j a i) n d ∧ mR M (oF i j) 10 = (lfv i j).map (fun k => oF k j)) ∧
  (∀ i j, i + 1 < wn a → j < wn b → sdE M (oL i j) (eL a i) (eF a i b j) (eS a i b j) n d ∧ mR M (oL i j) 10 = (lwv i j).map (fun k => oL i k))
theorem ST_1 {M0 M : MM} {a b : WY} {n d : Int} (ga : gW a) (gb : gW b) (h : MI1 M0 a b n d 14 0 M) : ST M0 a b n d (fun _ _ => none) (fun _ _ => none) M := by
  have a2 := ga.2.1
  have b2 := gb.2.1
  refine ⟨h.1, fun i j hi hj => ?_, fun i j hi hj => ?_⟩
  · have h7 : ¬ 7 + j < 7 := by omega
    have e1 : rI (7 + j) = j := by unfold rI; rw [if_neg h7]; omega
    have e2 : rE a b (7 + j) = b := if_neg h7
    have e3 : rQ a b (7 + j) = a := if_neg h7
    have hn : i < rN a b (7 + j) := by unfold rN; rw [e1, e2, e3, if_pos hj]; exact hi
    have q := h.2 (7 + j) i hn (by omega) (by omega)
    unfold sdN at q
    rw [e1, e2, e3] at q
    exact q
  · have h7 : i < 7 := by omega
    have e1 : rI i = i := if_pos h7
    have e2 : rE a b i = a := if_pos h7
    have e3 : rQ a b i = b := if_pos h7
    have hn : j < rN a b i := by unfold rN; rw [e1, e2, e3, if_pos hi]; exact hj
    have q := h.2 i j hn (by omega) (by omega)
    unfold sdN at q
    rw [e1, e2, e3] at q
    exact q
theorem ST_c {M0 M : MM} {a b : WY} {n d : Int} {lfv lwv lfv' lwv' : Nat → Nat → Option Nat} (h : ST M0 a b n d lfv lwv M) (h1 : ∀ i j, i < wn a → j + 1 < wn b → lfv i j = lfv' i j) (h2 : ∀ i j, i + 1 < wn a → j < wn b → lwv i j = lwv' i j) : ST M0 a b n d lfv' lwv' M :=
  ⟨h.1, fun i j hi hj => by rw [← h1 i j hi hj]; exact h.2.1 i j hi hj, fun i j hi hj => by rw [← h2 i j hi hj]; exact h.2.2 i j hi hj⟩
def uP (f : Nat → Nat → Option Nat) (i j : Nat) (r : Option Nat) : Nat → Nat → Option Nat := fun i' j' => if i' = i ∧ j' = j then r else f i' j'
theorem sdE_sR {M : MM} {o o' k : Nat} {v : Option Nat} {L f s n d : Int} (h : sdE M o L f s n d) : sdE (sR M o' k v) o L f s n d := h
theorem ST_F {M0 M : MM} {a b : WY} {n d : Int} {lfv lwv : Nat → Nat → Option Nat} {i j : Nat} {r : Option Nat} (ga : gW a) (gb : gW b) (hi : i < wn a) (hj : j + 1 < wn b) (h : ST M0 a b n d lfv lwv M) (hn : lfv i j = none) : ST M0 a b n d (uP lfv i j r) lwv (cfM M (oF i j) (fun k => oF k j) r) := by
  have a2 := ga.2.1
  have b2 := gb.2.1
  unfold cfM
  cases r with
  | none =>
    refine ST_c h (fun i' j' _ _ => ?_) (fun _ _ _ _ => rfl)
    unfold uP
    by_cases e : i' = i ∧ j' = j
    · rw [if_pos e, e.1, e.2, hn]
    · rw [if_neg e]
  | some k =>
    refine ⟨Fr_sR h.1 (sMea_t (by unfold oF; omega)) (fx_side (by unfold oF; omega)), fun i' j' hi' hj' => ⟨(h.2.1 i' j' hi' hj').1, ?_⟩, fun i' j' hi' hj' => ⟨(h.2.2 i' j' hi' hj').1, ?_⟩⟩
    · unfold uP
      by_cases e : i' = i ∧ j' = j
      · rw [if_pos e, e.1, e.2, gR_y ⟨rfl, rfl⟩]; rfl
      · rw [if_neg e, gR_n (by unfold oF; omega)]
        exact (h.2.1 i' j' hi' hj').2
    · dsimp only
      rw [gR_n (by unfold oF oL; omega)]
      exact (h.2.2 i' j' hi' hj').2
theorem ST_W {M0 M : MM} {a b : WY} {n d : Int} {lfv lwv : Nat → Nat → Option Nat} {i j : Nat} {r : Option Nat} (ga : gW a) (gb : gW b) (hi : i + 1 < wn a) (hj : j < wn b) (h : ST M0 a b n d lfv lwv M) (hn : lwv i j = none) : ST M0 a b n d lfv (uP lwv i j r) (cfM M (oL i j) (fun k => oL i k) r) := by
  have a2 := ga.2.1
  have b2 := gb.2.1
  unfold cfM
  cases r with
  | none =>
    refine ST_c h (fun _ _ _ _ => rfl) (fun i' j' _ _ => ?_)
    unfold uP
    by_cases e : i' = i ∧ j' = j
    · rw [if_pos e, e.1, e.2, hn]
    · rw [if_neg e]
  | some k =>
    refine ⟨Fr_sR h.1 (sMea_t (by unfold oL; omega)) (fx_side (by unfold oL; omega)), fun i' j' hi' hj' => ⟨(h.2.1 i' j' hi' hj').1, ?_⟩, fun i' j' hi' hj' => ⟨(h.2.2 i' j' hi' hj').1, ?_⟩⟩
    · dsimp only
      rw [gR_n (by unfold oF oL; omega)]
      exact (h.2.1 i' j' hi' hj').2
    · unfold uP
      by_cases e : i' = i ∧ j' = j
      · rw [if_pos e, e.1, e.2, gR_y ⟨rfl, rfl⟩]; rfl
      · rw [if_neg e, gR_n (by unfold oL; omega)]
        exact (h.2.2 i' j' hi' hj').2
