/-! sums: the class adds up -/
theorem i178 {M : MM} (h : Lay M) {k : Nat} (q : k < 64) : inb M 178 11 (jI (k : Int)) := by rw [← nI_j]; exact in_178 h q
theorem i179 {M : MM} (h : Lay M) {k : Nat} (q : k < 64) : inb M 179 11 (jI (k : Int)) := by rw [← nI_j]; exact in_179 h q
theorem i180 {M : MM} (h : Lay M) {k : Nat} (q : k < 64) : inb M 180 11 (jI (k : Int)) := by rw [← nI_j]; exact in_180 h q
theorem w98_s {M : MM} {o an bn i j i' j' mv : Nat} {h : Nat → Nat → Int} {P : Int32 → MM → Prop} (hL : Lay M) (h5 : mI M 175 5 = jI ((an : Int) - 1)) (h6 : mI M 175 6 = jI ((bn : Int) - 1)) (a2 : an ≤ 8) (b2 : bn ≤ 8) (ho : ∀ k : Nat, k < 64 → inb M o 11 (jI (k : Int))) (hA : hvA M o h an bn i j) (hi : i < an) (hj : j < bn) (hm : mv = 0 ∧ i' = i + 1 ∧ j' = j + 1 ∨ mv = 1 ∧ i' = i + 1 ∧ j' = j ∨ mv = 2 ∧ i' = i ∧ j' = j + 1) (hP : P (jI (okV an bn h i' j')) M) : w98 175 (some o) (jI (i : Int)) (jI (j : Int)) (jI (mv : Int)) M P := by
  have ei : jI (i : Int) + 1 = jI ((i + 1 : Nat) : Int) := by rw [show (1 : Int32) = jI 1 from rfl, jI_add, c_s1]
  have ej : jI (j : Int) + 1 = jI ((j + 1 : Nat) : Int) := by rw [show (1 : Int32) = jI 1 from rfl, jI_add, c_s1]
  unfold w98 w98_13
  rw [ei, ej]
  rcases hm with ⟨rfl, rfl, rfl⟩ | ⟨rfl, rfl, rfl⟩ | ⟨rfl, rfl, rfl⟩
  · exact br_t (by decide) (br_t (by decide) (w98_28_s hL h5 h6 a2 b2 ho hA (by omega) (by omega) (by omega) hP))
  · exact br_t (by decide) (br_f (by decide) (w98_28_s hL h5 h6 a2 b2 ho hA (by omega) (by omega) (by omega) hP))
  · exact br_f (by decide) (br_t (by decide) (w98_28_s hL h5 h6 a2 b2 ho hA (by omega) (by omega) (by omega) hP))
def tL (an bn : Nat) (h c : Nat → Nat → Int) (l : Int) (i j : Nat) : Int := if i < an ∧ j < bn ∧ (l = -1 ∨ h i j = l) then c i j else 0
theorem w122_m {M : MM} {o an bn i j i' j' mv n : Nat} {h c : Nat → Nat → Int} {l acc : Int} {P : Int32 → MM → Prop} (hL : Lay M) (h5 : mI M 175 5 = jI ((an : Int) - 1)) (h6 : mI M 175 6 = jI ((bn : Int) - 1)) (a2 : an ≤ 8) (b2 : bn ≤ 8) (ho : ∀ k : Nat, k < 64 → inb M o 11 (jI (k : Int))) (hA : hvA M 178 h an bn i j) (hC : hvA M o c an bn i j) (hi : i < an) (hj : j < bn) (hm : mv = 0 ∧ i' = i + 1 ∧ j' = j + 1 ∨ mv = 1 ∧ i' = i + 1 ∧ j' = j ∨ mv = 2 ∧ i' = i ∧ j' = j + 1) (l0 : -1 ≤ l) (l1 : l < 2147483647) (hn : w122_6 n 175 (some o) (jI (i : Int)) (jI (j : Int)) (jI l) (jL (acc + tL an bn h c l i' j')) (jI ((mv + 1 : Nat) : Int)) M P) : w122_6 (n + 1) 175 (some o) (jI (i : Int)) (jI (j : Int)) (jI l) (jL acc) (jI (mv : Int)) M P := by
  have e3 : ¬ ((3 : Int32) ≤ jI (mv : Int)) := by rw [show (3 : Int32) = jI 3 from rfl, jI_le (by omega) (by omega) (by omega) (by omega)]; omega
  have em : jI (mv : Int) + 1 = jI ((mv + 1 : Nat) : Int) := by rw [show (1 : Int32) = jI 1 from rfl, jI_add, c_s1]
  refine br_f e3 ⟨kd_175 hL, kd_175 hL, ?_⟩
  rw [rf_175_2 hL]
  refine w98_s hL h5 h6 a2 b2 (fun k hk => i178 hL hk) hA hi hj hm ?_
  unfold tL at hn
  unfold w122_46 w122_61
  rw [em]
  by_cases c0 : i' < an ∧ j' < bn
  · have hz := hA i' j' c0.1 c0.2 (by omega)
    have hy := hC i' j' c0.1 c0.2 (by omega)
    have ok : okV an bn h i' j' = h i' j' := if_pos c0
    have okc : okV an bn c i' j' = c i' j' := if_pos c0
    rw [ok]
    have add : (l = -1 ∨ h i' j' = l) → (kd M 175 4 ∧ w98 175 (some o) (jI (i : Int)) (jI (j : Int)) (jI (mv : Int)) M (fun r2 M1 => w122_6 n 175 (some o) (jI (i : Int)) (jI (j : Int)) (jI l) (jL acc + r2.toInt64) (jI ((mv + 1 : Nat) : Int)) M1 P)) := fun z => by
      refine ⟨kd_175 hL, w98_s hL h5 h6 a2 b2 ho hC hi hj hm ?_⟩
      rw [okc, jI_l (by omega) (by omega), jL_add]
      rw [if_pos ⟨c0.1, c0.2, z⟩] at hn
      exact hn
    have skip : ¬ (l = -1 ∨ h i' j' = l) → w122_6 n 175 (some o) (jI (i : Int)) (jI (j : Int)) (jI l) (jL acc) (jI ((mv + 1 : Nat) : Int)) M P := fun z => by
      rw [if_neg (fun y => z y.2.2), Int.add_zero] at hn
      exact hn
    refine br_f ?_ ⟨fun z => add (Or.inl ?_), fun z => ⟨fun y => skip ?_, fun y => add (Or.inr ?_)⟩⟩
    · rw [show (2147483647 : Int32) = jI 2147483647 from rfl, jI_eq (by omega) (by omega) (by omega) (by omega)]; omega
    · rw [show (-1 : Int32) = jI (-1) from rfl, jI_eq (by omega) (by omega) (by omega) (by omega)] at z; exact z
    · rw [show (-1 : Int32) = jI (-1) from rfl, jI_eq (by omega) (by omega) (by omega) (by omega)] at z
      rw [ne_eq, jI_eq (by omega) (by omega) (by omega) (by omega)] at y
      omega
    · rw [ne_eq, jI_eq (by omega) (by omega) (by omega) (by omega)] at y
      omega
  · have ok : okV an bn h i' j' = 2147483647 := if_neg c0
    rw [ok]
    rw [if_neg (fun y => c0 ⟨y.1, y.2.1⟩), Int.add_zero] at hn
    exact br_t rfl hn
theorem w122_s {M : MM} {o an bn i j : Nat} {h c : Nat → Nat → Int} {l : Int} {P : Int32 → MM → Prop} (hL : Lay M) (h5 : mI M 175 5 = jI ((an : Int) - 1)) (h6 : mI M 175 6 = jI ((bn : Int) - 1)) (a2 : an ≤ 8) (b2 : bn ≤ 8) (ho : ∀ k : Nat, k < 64 → inb M o 11 (jI (k : Int))) (hA : hvA M 178 h an bn i j) (hC : hvA M o c an bn i j) (hi : i < an) (hj : j < bn) (l0 : -1 ≤ l) (l1 : l < 2147483647) (t0 : 0 ≤ tL an bn h c l (i + 1) (j + 1) + tL an bn h c l (i + 1) j + tL an bn h c l i (j + 1)) (t1 : tL an bn h c l (i + 1) (j + 1) + tL an bn h c l (i + 1) j + tL an bn h c l i (j + 1) ≤ 1000000000) (hP : P (jI (tL an bn h c l (i + 1) (j + 1) + tL an bn h c l (i + 1) j + tL an bn h c l i (j + 1))) M) : w122 175 (some o) (jI (i : Int)) (jI (j : Int)) (jI l) M P := by
  refine ⟨4, w122_m (mv := 0) (acc := 0) hL h5 h6 a2 b2 ho hA hC hi hj (Or.inl ⟨rfl, rfl, rfl⟩) l0 l1 (w122_m (mv := 1) hL h5 h6 a2 b2 ho hA hC hi hj (Or.inr (Or.inl ⟨rfl, rfl, rfl⟩)) l0 l1 (w122_m (mv := 2) hL h5 h6 a2 b2 ho hA hC hi hj (Or.inr (Or.inr ⟨rfl, rfl, rfl⟩)) l0 l1 ?_))⟩
  refine br_t (by decide) ?_
  rw [Int.zero_add]
  refine w52_s (y := 1000000000) (by omega) (by omega) (by omega) (by omega) ?_
  rw [Int.min_eq_left (by omega), jL_i]
  exact hP
/-- the three tables from cell (i, q) on -/
def sJs : Nat → Nat → Bool := sB 175 1 0 178 180
def sQ (a b : WY) : Nat → Nat → Int := fun i j => qd a i b j
theorem sQ_b {a b : WY} (ga : gW a) (gb : gW b) : ∀ i j, i < wn a → j < wn b → 0 ≤ sQ a b i j ∧ sQ a b i j ≤ 648 := fun i j hi hj => qd_b ga gb hi hj
theorem sv_z {a b : WY} (ga : gW a) (gb : gW b) {i j : Nat} (hi : i < wn a) (hj : j < wn b) : 0 ≤ sv (sQ a b) (wn a) (wn b) i j ∧ sv (sQ a b) (wn a) (wn b) i j ≤ 10368 := by
  have a2 := ga.2.1
  have b2 := gb.2.1
  have h := sv_b (sQ a b) (wn a) (wn b) (sQ_b ga gb) _ i j (Nat.le_refl _) hi hj
  have : (648 : Int) * (((wn a - i) + (wn b - j) : Nat) : Int) ≤ 648 * 16 := Int.mul_le_mul_of_nonneg_left (by omega) (by omega)
  omega
def SI (M0 : MM) (a b : WY) (i q : Nat) (M : MM) : Prop := Fr sJs M0 M ∧ ∀ i' j', i' < wn a → j' < wn b → (i < i' ∨ (i' = i ∧ q ≤ j')) → mI M 178 (8 * i' + j') = jI (sv (sQ a b) (wn a) (wn b) i' j') ∧ mI M 179 (8 * i' + j') = jI (cvv (sQ a b) (wn a) (wn b) i' j' : Int) ∧ mI M 180 (8 * i' + j') = jI (cvv qz0 (wn a) (wn b) i' j' : Int)
theorem w121_46_s {M0 M : MM} {a b : WY} {i j : Nat} {s0 : Int32} {k5 : Nat → Int32 → MM → Prop} {k14 : Nat → Int32 → Int32 → MM → Prop} {P : MM → Prop} (hL0 : Lay M0) (ga : gW a) (gb : gW b) (h5 : mI M0 175 5 = jI ((wn a : Int) - 1)) (h6 : mI M0 175 6 = jI ((wn b : Int) - 1)) (hS : ∀ i' j', i' < wn a → j' < wn b → mI M0 176 (8 * i' + j') = jI (qd a i' b j')) (h : SI M0 a b i (j + 1) M) (hi : i < wn a) (hj : j < wn b) (es : s0 = if i + 1 = wn a ∧ j + 1 = wn b then 1 else 0) (hX : ∀ M', SI M0 a b i j M' → k14 175 (jI (i : Int)) (jI ((j : Int) - 1)) M') : w121_46 k5 k14 175 (jI (i : Int)) (jI (j : Int)) (jI ((8 * i + j : Nat) : Int)) s0 M P := by
  have a2 := ga.2.1
  have b2 := gb.2.1
  have hL := h.1.1 hL0
  have g5 : mI M 175 5 = jI ((wn a : Int) - 1) := (Fr_I h.1 (sB_f (by omega) (by omega))).trans h5
  have g6 : mI M 175 6 = jI ((wn b : Int) - 1) := (Fr_I h.1 (sB_f (by omega) (by omega))).trans h6
  have gS : mI M 176 (8 * i + j) = jI (qd a i b j) := (Fr_I h.1 (sB_f (by omega) (by omega))).trans (hS i j hi hj)
  have hA : hvA M 178 (sv (sQ a b) (wn a) (wn b)) (wn a) (wn b) i j := fun i' j' h1 h2 h3 => by
    have z := sv_z ga gb h1 h2
    exact ⟨(h.2 i' j' h1 h2 (by omega)).1, by omega, by omega⟩
  have hB : hvA M 179 (fun i j => (cvv (sQ a b) (wn a) (wn b) i j : Int)) (wn a) (wn b) i j := fun i' j' h1 h2 h3 => by
    have z := cv_9 (sQ a b) a2 b2 h1 h2
    exact ⟨(h.2 i' j' h1 h2 (by omega)).2.1, by dsimp only; omega, by dsimp only; omega⟩
  have hC : hvA M 180 (fun i j => (cvv qz0 (wn a) (wn b) i j : Int)) (wn a) (wn b) i j := fun i' j' h1 h2 h3 => by
    have z := cv_9 qz0 a2 b2 h1 h2
    exact ⟨(h.2 i' j' h1 h2 (by omega)).2.2, by dsimp only; omega, by dsimp only; omega⟩
  have sz := sv_z ga gb hi hj
  have qz := qd_b ga gb hi hj
  have sE := sv_e (sQ a b) (wn a) (wn b) i j
  rw [show sQ a b i j = qd a i b j from rfl] at sE
  have nb : nxM (wn a) (wn b) (sv (sQ a b) (wn a) (wn b)) i j = 0 ∨ 0 ≤ nxM (wn a) (wn b) (sv (sQ a b) (wn a) (wn b)) i j := by
    by_cases c : i + 1 < wn a ∨ j + 1 < wn b
    · right
      rcases nxd (h := sv (sQ a b) (wn a) (wn b)) c with ⟨c1, c2, c3⟩ | ⟨c1, c3⟩ | ⟨c2, c3⟩
      · have := sv_z ga gb c1 c2; omega
      · have := sv_z ga gb c1 hj; omega
      · have := sv_z ga gb hi c2; omega
    · left; unfold nxM; rw [if_neg (by omega), if_neg (by omega)]
  have cE := cvv_e (sQ a b) (wn a) (wn b) i j
  have dE := cvv_e qz0 (wn a) (wn b) i j
  have c9 := cv_9 (sQ a b) a2 b2 hi hj
  have d9 := cv_9 qz0 a2 b2 hi hj
  have ec : (jI ((8 * i + j : Nat) : Int)).toNatClampNeg = 8 * i + j := jI_cn (by omega)
  refine ⟨kd_175 hL, kd_175 hL, ?_⟩
  rw [rf_175_2 hL]
  refine w97_s hL g5 g6 a2 b2 (fun k hk => i178 hL hk) hA hi hj ⟨kd_175 hL, kd_175 hL, 176, rf_175_0 hL, i176 hL (by omega), 178, rf_175_2 hL, i178 hL (by omega), kd_175 hL, ?_⟩
  rw [ec, gS, jI_add, ← sE]
  -- after the first table
  have h1 : Fr sJs M0 (sI M 178 (8 * i + j) (jI (sv (sQ a b) (wn a) (wn b) i j))) := Fr_sI h.1 (sB_t2 (by omega))
  have fA : hvA (sI M 178 (8 * i + j) (jI (sv (sQ a b) (wn a) (wn b) i j))) 178 (sv (sQ a b) (wn a) (wn b)) (wn a) (wn b) i j := fun i' j' q1 q2 q3 => by rw [gI_n (by omega)]; exact hA i' j' q1 q2 q3
  have fB : hvA (sI M 178 (8 * i + j) (jI (sv (sQ a b) (wn a) (wn b) i j))) 179 (fun i j => (cvv (sQ a b) (wn a) (wn b) i j : Int)) (wn a) (wn b) i j := fun i' j' q1 q2 q3 => by rw [gI_n (by omega)]; exact hB i' j' q1 q2 q3
  have fC : hvA (sI M 178 (8 * i + j) (jI (sv (sQ a b) (wn a) (wn b) i j))) 180 (fun i j => (cvv qz0 (wn a) (wn b) i j : Int)) (wn a) (wn b) i j := fun i' j' q1 q2 q3 => by rw [gI_n (by omega)]; exact hC i' j' q1 q2 q3
  have f5 : mI (sI M 178 (8 * i + j) (jI (sv (sQ a b) (wn a) (wn b) i j))) 175 5 = jI ((wn a : Int) - 1) := by rw [gI_n (by omega)]; exact g5
  have f6 : mI (sI M 178 (8 * i + j) (jI (sv (sQ a b) (wn a) (wn b) i j))) 175 6 = jI ((wn b : Int) - 1) := by rw [gI_n (by omega)]; exact g6
  have fv : mI (sI M 178 (8 * i + j) (jI (sv (sQ a b) (wn a) (wn b) i j))) 178 (8 * i + j) = jI (sv (sQ a b) (wn a) (wn b) i j) := gI_y ⟨rfl, rfl⟩
  have fo : ∀ i' j', i' < wn a → j' < wn b → (i < i' ∨ (i' = i ∧ j < j')) → mI (sI M 178 (8 * i + j) (jI (sv (sQ a b) (wn a) (wn b) i j))) 178 (8 * i' + j') = jI (sv (sQ a b) (wn a) (wn b) i' j') := fun i' j' q1 q2 q3 => (fA i' j' q1 q2 q3).1
  have hL1 := h1.1 hL0
  generalize sI M 178 (8 * i + j) (jI (sv (sQ a b) (wn a) (wn b) i j)) = M1 at *
  -- the last step
  have last : ∀ v : Int, v = (cvv (sQ a b) (wn a) (wn b) i j : Int) → w121_101 k5 k14 175 (jI (i : Int)) (jI (j : Int)) (jI ((8 * i + j : Nat) : Int)) s0 (some 179) (jI ((8 * i + j : Nat) : Int)) (jI v) M1 P := by
    intro v ev
    subst ev
    refine ⟨179, rfl, i179 hL1 (by omega), kd_175 hL1, ?_⟩
    rw [ec]
    have h2 : Fr sJs M0 (sI M1 179 (8 * i + j) (jI (cvv (sQ a b) (wn a) (wn b) i j : Int))) := Fr_sI h1 (sB_t2 (by omega))
    have kA : hvA (sI M1 179 (8 * i + j) (jI (cvv (sQ a b) (wn a) (wn b) i j : Int))) 178 (sv (sQ a b) (wn a) (wn b)) (wn a) (wn b) i j := fun i' j' q1 q2 q3 => by rw [gI_n (by omega)]; exact fA i' j' q1 q2 q3
    have kC : hvA (sI M1 179 (8 * i + j) (jI (cvv (sQ a b) (wn a) (wn b) i j : Int))) 180 (fun i j => (cvv qz0 (wn a) (wn b) i j : Int)) (wn a) (wn b) i j := fun i' j' q1 q2 q3 => by rw [gI_n (by omega)]; exact fC i' j' q1 q2 q3
    have k5' : mI (sI M1 179 (8 * i + j) (jI (cvv (sQ a b) (wn a) (wn b) i j : Int))) 175 5 = jI ((wn a : Int) - 1) := by rw [gI_n (by omega)]; exact f5
    have k6' : mI (sI M1 179 (8 * i + j) (jI (cvv (sQ a b) (wn a) (wn b) i j : Int))) 175 6 = jI ((wn b : Int) - 1) := by rw [gI_n (by omega)]; exact f6
    have kB : ∀ i' j', i' < wn a → j' < wn b → (i < i' ∨ (i' = i ∧ j ≤ j')) → mI (sI M1 179 (8 * i + j) (jI (cvv (sQ a b) (wn a) (wn b) i j : Int))) 178 (8 * i' + j') = jI (sv (sQ a b) (wn a) (wn b) i' j') ∧ mI (sI M1 179 (8 * i + j) (jI (cvv (sQ a b) (wn a) (wn b) i j : Int))) 179 (8 * i' + j') = jI (cvv (sQ a b) (wn a) (wn b) i' j' : Int) := fun i' j' q1 q2 q3 => by
      rw [gI_n (by omega)]
      by_cases e : i' = i ∧ j' = j
      · rw [e.1, e.2, gI_y ⟨rfl, rfl⟩]; exact ⟨fv, rfl⟩
      · rw [gI_n (by omega)]
        exact ⟨fo i' j' q1 q2 (by omega), (fB i' j' q1 q2 (by omega)).1⟩
    have hL2 := h2.1 hL0
    generalize sI M1 179 (8 * i + j) (jI (cvv (sQ a b) (wn a) (wn b) i j : Int)) = M2 at *
    rw [rf_175_4 hL2]
    have fin : ∀ u : Int, u = (cvv qz0 (wn a) (wn b) i j : Int) → w121_127 k5 k14 175 (jI (i : Int)) (jI (j : Int)) (some 180) (jI ((8 * i + j : Nat) : Int)) (jI u) M2 P := by
      intro u eu
      subst eu
      refine ⟨180, rfl, i180 hL2 (by omega), ?_⟩
      rw [ec, show jI (j : Int) + (-1) = jI ((j : Int) - 1) by rw [show (-1 : Int32) = jI (-1) from rfl, jI_add]; congr 1]
      refine hX _ ⟨Fr_sI h2 (sB_t2 (by omega)), fun i' j' q1 q2 q3 => ?_⟩
      rw [gI_n (by omega), gI_n (by omega)]
      refine ⟨(kB i' j' q1 q2 q3).1, (kB i' j' q1 q2 q3).2, ?_⟩
      by_cases e : i' = i ∧ j' = j
      · rw [e.1, e.2]; exact gI_y ⟨rfl, rfl⟩
      · rw [gI_n (by omega)]; exact (kC i' j' q1 q2 (by omega)).1
    refine ⟨fun z => ⟨kd_175 hL2, kd_175 hL2, ?_⟩, fun z => fin 1 ?_⟩
    · have nc : ¬ (i + 1 = wn a ∧ j + 1 = wn b) := fun c => by rw [es, if_pos c] at z; exact absurd z (by decide)
      rw [if_neg nc] at dE
      have e0 : nxM (wn a) (wn b) (sv qz0 (wn a) (wn b)) i j = 0 := by
        have x := sv_e qz0 (wn a) (wn b) i j
        rw [sv_0 _ _ hi hj] at x
        have : qz0 i j = 0 := rfl
        omega
      rw [e0] at dE
      have tt : ∀ i' j', tL (wn a) (wn b) (sv (sQ a b) (wn a) (wn b)) (fun i j => (cvv qz0 (wn a) (wn b) i j : Int)) (-1) i' j' = (tK (wn a) (wn b) (sv qz0 (wn a) (wn b)) (cvv qz0 (wn a) (wn b)) 0 i' j' : Int) := fun i' j' => by
        unfold tL tK
        by_cases c : i' < wn a ∧ j' < wn b
        · rw [if_pos ⟨c.1, c.2, Or.inl rfl⟩, if_pos ⟨c.1, c.2, sv_0 _ _ c.1 c.2⟩]
        · rw [if_neg (fun y => c ⟨y.1, y.2.1⟩), if_neg (fun y => c ⟨y.1, y.2.1⟩)]; rfl
      refine w122_s (P := fun r3 M3 => w121_127 k5 k14 175 (jI (i : Int)) (jI (j : Int)) (some 180) (jI ((8 * i + j : Nat) : Int)) r3 M3 P) (l := -1) hL2 k5' k6' a2 b2 (fun k hk => i180 hL2 hk) kA kC hi hj (by omega) (by omega) ?_ ?_ (fin _ ?_)
      all_goals rw [tt, tt, tt]; omega
    · have c : i + 1 = wn a ∧ j + 1 = wn b := Classical.byContradiction fun c => z (by rw [es, if_neg c])
      rw [dE, if_pos c]; rfl
  rw [rf_175_3 hL1]
  refine ⟨fun z => ⟨kd_175 hL1, kd_175 hL1, ?_⟩, fun z => last 1 ?_⟩
  · have nc : ¬ (i + 1 = wn a ∧ j + 1 = wn b) := fun c => by rw [es, if_pos c] at z; exact absurd z (by decide)
    rw [if_neg nc] at cE
    have tt : ∀ i' j', tL (wn a) (wn b) (sv (sQ a b) (wn a) (wn b)) (fun i j => (cvv (sQ a b) (wn a) (wn b) i j : Int)) (nxM (wn a) (wn b) (sv (sQ a b) (wn a) (wn b)) i j) i' j' = (tK (wn a) (wn b) (sv (sQ a b) (wn a) (wn b)) (cvv (sQ a b) (wn a) (wn b)) (nxM (wn a) (wn b) (sv (sQ a b) (wn a) (wn b)) i j) i' j' : Int) := fun i' j' => by
      unfold tL tK
      by_cases c : i' < wn a ∧ j' < wn b ∧ sv (sQ a b) (wn a) (wn b) i' j' = nxM (wn a) (wn b) (sv (sQ a b) (wn a) (wn b)) i j
      · rw [if_pos ⟨c.1, c.2.1, Or.inr c.2.2⟩, if_pos c]
      · rw [if_neg c, if_neg]
        · rfl
        · rintro ⟨y1, y2, y3⟩
          exact c ⟨y1, y2, by omega⟩
    refine w122_s hL1 f5 f6 a2 b2 (fun k hk => i179 hL1 hk) fA fB hi hj (by omega) (by omega) ?_ ?_ (last _ ?_)
    all_goals rw [tt, tt, tt]; omega
  · have c : i + 1 = wn a ∧ j + 1 = wn b := Classical.byContradiction fun c => z (by rw [es, if_neg c])
    rw [cE, if_pos c]; rfl
theorem w121_s {M0 : MM} {a b : WY} {P : MM → Prop} (hL0 : Lay M0) (ga : gW a) (gb : gW b) (h5 : mI M0 175 5 = jI ((wn a : Int) - 1)) (h6 : mI M0 175 6 = jI ((wn b : Int) - 1)) (hS : ∀ i' j', i' < wn a → j' < wn b → mI M0 176 (8 * i' + j') = jI (qd a i' b j')) (hX : ∀ M', SI M0 a b 0 0 M' → P M') : w121 175 M0 P := by
  have a2 := ga.2.1
  have b2 := gb.2.1
  have inner : ∀ (K : Nat → Int32 → MM → Prop) (i : Nat), i < wn a → (∀ M', SI M0 a b i 0 M' → K 175 (jI ((i : Int) - 1)) M') → ∀ (q : Nat) (M : MM), q ≤ wn b → SI M0 a b i q M → w121_14 K (q + 1) 175 (jI (i : Int)) (jI ((q : Int) - 1)) M P := by
    intro K i hi hK q
    induction q with
    | zero =>
      intro M hq h
      refine br_t (by decide) ?_
      rw [show jI (i : Int) + (-1) = jI ((i : Int) - 1) by rw [show (-1 : Int32) = jI (-1) from rfl, jI_add]; congr 1]
      exact hK M h
    | succ q ih =>
      intro M hq h
      have hL := h.1.1 hL0
      have g5 : mI M 175 5 = jI ((wn a : Int) - 1) := (Fr_I h.1 (sB_f (by omega) (by omega))).trans h5
      have g6 : mI M 175 6 = jI ((wn b : Int) - 1) := (Fr_I h.1 (sB_f (by omega) (by omega))).trans h6
      rw [show ((q + 1 : Nat) : Int) - 1 = (q : Int) by omega]
      refine br_f (by rw [show (0 : Int32) = jI 0 from rfl, jI_lt (by omega) (by omega) (by omega) (by omega)]; omega) ⟨kd_175 hL, ?_⟩
      rw [g5, g6, show jI (i : Int) * 8 + jI (q : Int) = jI ((8 * i + q : Nat) : Int) by rw [show (8 : Int32) = jI 8 from rfl, jI_mul, jI_add]; congr 1; omega]
      have go : ∀ s0 : Int32, s0 = (if i + 1 = wn a ∧ q + 1 = wn b then 1 else 0) → w121_46 K (fun z0 z1 z2 z3 => w121_14 K (q + 1) z0 z1 z2 z3 P) 175 (jI (i : Int)) (jI (q : Int)) (jI ((8 * i + q : Nat) : Int)) s0 M P := fun s0 es => w121_46_s hL0 ga gb h5 h6 hS h hi (by omega) es (fun M' h' => ih M' (by omega) h')
      refine ⟨fun z => go 0 ?_, fun z => ⟨kd_175 hL, fun y => go 0 ?_, fun y => go 1 ?_⟩⟩
      · rw [ne_eq, jI_eq (by omega) (by omega) (by omega) (by omega)] at z
        rw [if_neg (by omega)]
      · rw [ne_eq, jI_eq (by omega) (by omega) (by omega) (by omega)] at y
        rw [if_neg (by omega)]
      · rw [ne_eq, jI_eq (by omega) (by omega) (by omega) (by omega)] at z y
        rw [if_pos (by omega)]
  have outer : ∀ (p : Nat) (M : MM), p ≤ wn a → SI M0 a b p 0 M → w121_5 (p + 1) 175 (jI ((p : Int) - 1)) M P := by
    intro p
    induction p with
    | zero => intro M hp h; exact br_t (by decide) (hX M h)
    | succ p ih =>
      intro M hp h
      have hL := h.1.1 hL0
      have g6 : mI M 175 6 = jI ((wn b : Int) - 1) := (Fr_I h.1 (sB_f (by omega) (by omega))).trans h6
      rw [show ((p + 1 : Nat) : Int) - 1 = (p : Int) by omega]
      refine br_f (by rw [show (0 : Int32) = jI 0 from rfl, jI_lt (by omega) (by omega) (by omega) (by omega)]; omega) ⟨kd_175 hL, wn b + 1, ?_⟩
      rw [g6]
      exact inner _ p (by omega) (fun M' h' => ih M' (by omega) h') (wn b) M (Nat.le_refl _) ⟨h.1, fun i' j' h1 h2 h3 => h.2 i' j' h1 h2 (by omega)⟩
  refine ⟨kd_175 hL0, wn a + 1, ?_⟩
  rw [h5]
  exact outer (wn a) M0 (Nat.le_refl _) ⟨Fr_r, fun i' j' h1 h2 h3 => absurd h3 (by omega)⟩
def sumV (l3 : Int32) (a b : WY) : Int := if l3 = 0 then sv (sQ a b) (wn a) (wn b) 0 0 else if l3 = 1 then (cvv (sQ a b) (wn a) (wn b) 0 0 : Int) else (cvv qz0 (wn a) (wn b) 0 0 : Int)
def sumA (k : Nat) (W : Nat → WY) (l1 l2 l3 : Int32) : Int32 × Int32 :=
  if frb l3 0 2 = true then (if chk2 k l1 l2 = 0 then (jI (sumV l3 (W l1.toNatClampNeg) (W l2.toNatClampNeg)), 0) else (-1, chk2 k l1 l2)) else (-1, 1)
