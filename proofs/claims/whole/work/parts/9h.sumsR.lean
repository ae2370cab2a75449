/-! sums: the reference -/
theorem i231 {M : MM} (h : Lay M) {k : Nat} (q : k < 64) : inb M 231 11 (jI (k : Int)) := by rw [← nI_j]; exact in_231 h q
theorem i232 {M : MM} (h : Lay M) {k : Nat} (q : k < 64) : inb M 232 12 (jI (k : Int)) := by rw [← nI_j]; exact in_232 h q
theorem i233 {M : MM} (h : Lay M) {k : Nat} (q : k < 64) : inb M 233 12 (jI (k : Int)) := by rw [← nI_j]; exact in_233 h q
def sSu : Nat → Nat → Bool := sB 203 1 0 231 233
/-- one cell of the three tables -/
def cel (M : MM) (x : Nat) (s b al : Int) : Prop := mI M 231 x = jI s ∧ mL M 232 x = jL b ∧ mL M 233 x = jL al
/-- what a hop adds -/
def adS (s s' : Int) : Int := min s s'
def adB (s b s' b' : Int) : Int := if s < s' then b else if s' < s then b' else b + b'
theorem w258_s {M : MM} {x y : Nat} {s b al s' b' al' : Int} {P : MM → Prop} (hL : Lay M) (hx : x < 64) (hy : y < 64) (hxy : x ≠ y) (hc : cel M x s b al) (hd : cel M y s' b' al') (b1 : 0 ≤ s ∧ s ≤ 1000000000) (b2 : 0 ≤ s' ∧ s' ≤ 1000000000) (b3 : 0 ≤ b ∧ 0 ≤ b' ∧ b + b' ≤ 1000000000) (b4 : 0 ≤ al ∧ 0 ≤ al' ∧ al + al' ≤ 1000000000) (hX : ∀ M', Fr sSu M M' → (∀ z, z ≠ x → mI M' 231 z = mI M 231 z ∧ mL M' 232 z = mL M 232 z ∧ mL M' 233 z = mL M 233 z) → cel M' x (adS s s') (adB s b s' b') (al + al') → P M') : w258 203 (jI (x : Int)) (jI (y : Int)) M P := by
  obtain ⟨c1, c2, c3⟩ := hc
  obtain ⟨d1, d2, d3⟩ := hd
  have ex : (jI (x : Int)).toNatClampNeg = x := jI_cn (by omega)
  have ey : (jI (y : Int)).toNatClampNeg = y := jI_cn (by omega)
  refine ⟨kd_203 hL, kd_203 hL, 233, rf_203_62 hL, i233 hL hx, kd_203 hL, 233, rf_203_62 hL, i233 hL hy, ?_⟩
  rw [ex, ey, c3, d3, jL_add]
  refine w52_s (x := 1000000000) (by omega) (by omega) (by omega) (by omega) ?_
  rw [Int.min_eq_right (by omega)]
  have h1 : Fr sSu M (sL M 233 x (jL (al + al'))) := Fr_sL Fr_r (sB_t2 (by omega))
  have hL1 := h1.1 hL
  have k1 : mI (sL M 233 x (jL (al + al'))) 231 x = jI s := c1
  have k2 : mL (sL M 233 x (jL (al + al'))) 232 x = jL b := by rw [gL_n (by omega)]; exact c2
  have k3 : mL (sL M 233 x (jL (al + al'))) 233 x = jL (al + al') := gL_y ⟨rfl, rfl⟩
  have m1 : mI (sL M 233 x (jL (al + al'))) 231 y = jI s' := d1
  have m2 : mL (sL M 233 x (jL (al + al'))) 232 y = jL b' := by rw [gL_n (by omega)]; exact d2
  have oth : ∀ z, z ≠ x → mI (sL M 233 x (jL (al + al'))) 231 z = mI M 231 z ∧ mL (sL M 233 x (jL (al + al'))) 232 z = mL M 232 z ∧ mL (sL M 233 x (jL (al + al'))) 233 z = mL M 233 z := fun z hz => ⟨rfl, by rw [gL_n (by omega)], by rw [gL_n (by omega)]⟩
  refine ⟨i233 hL hx, ?_⟩
  generalize sL M 233 x (jL (al + al')) = M1 at *
  refine ⟨kd_203 hL1, 231, rf_203_60 hL1, i231 hL1 hy, kd_203 hL1, 231, rf_203_60 hL1, i231 hL1 hx, ?_⟩
  rw [m1, k1, jI_le (by omega) (by omega) (by omega) (by omega)]
  have fin : ∀ v : Int, v = adB s b s' b' → s' ≤ s → w258_89 203 (jI (x : Int)) (jI (y : Int)) (some 232) (jI (x : Int)) (jL v) M1 P := by
    intro v ev z
    subst ev
    refine ⟨232, rfl, i232 hL1 hx, kd_203 hL1, kd_203 hL1, 231, rf_203_60 hL1, i231 hL1 hy, i231 hL1 hx, ?_⟩
    rw [ex, ey, gI_sL, m1]
    refine hX _ (Fr_sI (Fr_sL h1 (sB_t2 (by omega))) (sB_t2 (by omega))) (fun q hq => ?_) ⟨?_, ?_, ?_⟩
    · have o := oth q hq
      rw [gI_n (by omega), gI_sL, gL_sI, gL_n (by omega), gL_sI, gL_n (by omega)]
      exact o
    · rw [gI_y ⟨rfl, rfl⟩]; unfold adS; rw [Int.min_eq_right z]
    · rw [gL_sI, gL_y ⟨rfl, rfl⟩]
    · rw [gL_sI, gL_n (by omega)]; exact k3
  refine ⟨fun z => ⟨kd_203 hL1, kd_203 hL1, 231, rf_203_60 hL1, i231 hL1 hy, kd_203 hL1, 231, rf_203_60 hL1, i231 hL1 hx, ?_⟩, fun z => hX _ h1 oth ⟨?_, ?_, k3⟩⟩
  · rw [m1, k1, jI_le (by omega) (by omega) (by omega) (by omega)]
    refine ⟨fun y' => ⟨kd_203 hL1, 232, rf_203_61 hL1, i232 hL1 hx, kd_203 hL1, 232, rf_203_61 hL1, i232 hL1 hy, ?_⟩, fun y' => ⟨kd_203 hL1, 232, rf_203_61 hL1, i232 hL1 hy, ?_⟩⟩
    · rw [k2, m2, jL_add]
      refine w52_s (x := 1000000000) (by omega) (by omega) (by omega) (by omega) ?_
      rw [Int.min_eq_right (by omega)]
      exact fin _ (by unfold adB; rw [if_neg (by omega), if_neg (by omega)]) z
    · rw [m2]
      exact fin _ (by unfold adB; rw [if_neg (by omega), if_pos (by omega)]) z
  · unfold adS; rw [Int.min_eq_left (by omega)]; exact k1
  · unfold adB; rw [if_pos (by omega)]; exact k2
theorem adB_b {s b s' b' : Int} (h1 : 0 ≤ b) (h2 : 0 ≤ b') : 0 ≤ adB s b s' b' ∧ adB s b s' b' ≤ b + b' := by
  unfold adB
  split
  · omega
  · split <;> omega
theorem adB3 {x y z : Int} {nx ny nz : Nat} : adB (adS x y) (adB x (nx : Int) y (ny : Int)) z (nz : Int) = (((if x = min (min x y) z then nx else 0) + ((if y = min (min x y) z then ny else 0) + (if z = min (min x y) z then nz else 0)) : Nat) : Int) := by
  unfold adB adS
  repeat' split
  all_goals omega
def UI (M0 : MM) (a b : WY) (i q : Nat) (M : MM) : Prop := Fr sSu M0 M ∧ ∀ i' j', i' < wn a → j' < wn b → (i' < i ∨ (i' = i ∧ j' < q)) → cel M (8 * i' + j') (fS (sQ a b) i' j') (fN (sQ a b) i' j' : Int) (fN qz0 i' j' : Int)
theorem fS_z {a b : WY} (ga : gW a) (gb : gW b) {i j : Nat} (hi : i < wn a) (hj : j < wn b) : 0 ≤ fS (sQ a b) i j ∧ fS (sQ a b) i j ≤ 10368 := by
  have a2 := ga.2.1
  have b2 := gb.2.1
  have h := fS_b (sQ a b) (sQ_b ga gb) _ i j (Nat.le_refl _) hi hj
  have : (648 : Int) * ((i + j + 1 : Nat) : Int) ≤ 648 * 16 := Int.mul_le_mul_of_nonneg_left (by omega) (by omega)
  omega
theorem w258_u {M0 M : MM} {a b : WY} {i j i' j' : Nat} {s bb al : Int} {P : MM → Prop} (hL0 : Lay M0) (ga : gW a) (gb : gW b) (hi : i < wn a) (hj : j < wn b) (hi' : i' < wn a) (hj' : j' < wn b) (hb : i' < i ∨ (i' = i ∧ j' < j)) (hU : UI M0 a b i j M) (hc : cel M (8 * i + j) s bb al) (b1 : 0 ≤ s ∧ s ≤ 1000000000) (b2 : 0 ≤ bb ∧ bb ≤ 900000000) (b3 : 0 ≤ al ∧ al ≤ 900000000) (hX : ∀ M', UI M0 a b i j M' → cel M' (8 * i + j) (adS s (fS (sQ a b) i' j')) (adB s bb (fS (sQ a b) i' j') (fN (sQ a b) i' j' : Int)) (al + (fN qz0 i' j' : Int)) → P M') : w258 203 (jI ((8 * i + j : Nat) : Int)) (jI ((8 * i' + j' : Nat) : Int)) M P := by
  have a2 := ga.2.1
  have b2' := gb.2.1
  have z1 := fS_z ga gb hi' hj'
  have z2 := fN_9 (sQ a b) (show i' < 8 by omega) (show j' < 8 by omega)
  have z3 := fN_9 qz0 (show i' < 8 by omega) (show j' < 8 by omega)
  refine w258_s (hU.1.1 hL0) (by omega) (by omega) (by omega) hc (hU.2 i' j' hi' hj' hb) b1 (by omega) (by omega) (by omega) (fun M' hF ho hc' => hX M' ⟨Fr_t hU.1 hF, fun x y hx hy hxy => ?_⟩ hc')
  obtain ⟨o1, o2, o3⟩ := ho (8 * x + y) (by omega)
  obtain ⟨q1, q2, q3⟩ := hU.2 x y hx hy hxy
  exact ⟨o1.trans q1, o2.trans q2, o3.trans q3⟩
theorem w257_83_s {M0 M : MM} {a b : WY} {i j : Nat} {l3 s0 : Int32} {k42 : Nat → Int32 → Int32 → MM → Prop} {k54 : Nat → Int32 → Int32 → Int32 → MM → Prop} {P : Int32 → MM → Prop} (hL0 : Lay M0) (hR0 : RAB M0 a b) (ga : gW a) (gb : gW b) (hi : i < wn a) (hj : j < wn b) (hU : UI M0 a b i j M) (es : s0 = if i = 0 ∧ j = 0 then 1 else 0) (hX : ∀ M', UI M0 a b i (j + 1) M' → k54 203 l3 (jI (i : Int)) (jI ((j + 1 : Nat) : Int)) M') : w257_83 k42 k54 203 l3 (jI (i : Int)) (jI (j : Int)) (jI ((8 * i + j : Nat) : Int)) s0 M P := by
  have a2 := ga.2.1
  have b2 := gb.2.1
  have hL := hU.1.1 hL0
  have ec : (jI ((8 * i + j : Nat) : Int)).toNatClampNeg = 8 * i + j := jI_cn (by omega)
  have le0 : ∀ x : Nat, x < 100 → ((jI (x : Int) ≤ (0 : Int32)) ↔ x = 0) := fun x hx => by
    rw [show (0 : Int32) = jI 0 from rfl, jI_le (by omega) (by omega) (by omega) (by omega)]; omega
  have li := le0 i (by omega)
  have lj := le0 j (by omega)
  have qb := qd_b ga gb hi hj
  -- the last: the square is added
  have fin : ∀ (M3 : MM) (s bb al : Int), UI M0 a b i j M3 → cel M3 (8 * i + j) s bb al → s + qd a i b j = fS (sQ a b) i j → bb = (fN (sQ a b) i j : Int) → al = (fN qz0 i j : Int) → w257_190 k42 k54 203 l3 (jI (i : Int)) (jI (j : Int)) (jI ((8 * i + j : Nat) : Int)) M3 P := by
    intro M3 s bb al h3 hc e1 e2 e3
    have hL3 := h3.1.1 hL0
    have hR3 : RAB M3 a b := RAB_fr h3.1 (sB_f (by omega) (by omega)) (sB_f (by omega) (by omega)) (fun x k _ _ => sB_f (by omega) (by omega)) hR0
    refine ⟨kd_203 hL3, 231, rf_203_60 hL3, i231 hL3 (by omega), kd_203 hL3, w231_s hL3 hR3 ga gb hi hj ⟨i231 hL3 (by omega), ?_⟩⟩
    rw [ec, hc.1, jI_add, e1, show jI (j : Int) + 1 = jI ((j + 1 : Nat) : Int) by rw [show (1 : Int32) = jI 1 from rfl, jI_add, c_s1]]
    refine hX _ ⟨Fr_sI h3.1 (sB_t2 (by omega)), fun x y hx hy hxy => ?_⟩
    by_cases e : x = i ∧ y = j
    · rw [e.1, e.2]
      exact ⟨gI_y ⟨rfl, rfl⟩, by rw [gL_sI, hc.2.1, e2], by rw [gL_sI, hc.2.2, e3]⟩
    · obtain ⟨q1, q2, q3⟩ := h3.2 x y hx hy (by omega)
      exact ⟨by rw [gI_n (by omega)]; exact q1, q2, q3⟩
  have sE := fS_e (sQ a b) i j
  rw [show sQ a b i j = qd a i b j from rfl] at sE
  have nE := fN_e (sQ a b) i j
  have mE := fN_e qz0 i j
  simp only [fS_0] at mE
  have p0 : pvM (fS qz0) i j = 0 := by
    have x := fS_e qz0 i j
    rw [fS_0] at x
    have : qz0 i j = 0 := rfl
    omega
  rw [p0] at mE
  have st3 : ∀ (M3 : MM) (s bb al : Int), UI M0 a b i j M3 → cel M3 (8 * i + j) s bb al → (0 ≤ s ∧ s ≤ 1000000000) → (0 ≤ bb ∧ bb ≤ 100000000) → (0 ≤ al ∧ al ≤ 100000000) → (if 0 < j then adS s (fS (sQ a b) i (j - 1)) else s) + qd a i b j = fS (sQ a b) i j → (if 0 < j then adB s bb (fS (sQ a b) i (j - 1)) (fN (sQ a b) i (j - 1) : Int) else bb) = (fN (sQ a b) i j : Int) → (if 0 < j then al + (fN qz0 i (j - 1) : Int) else al) = (fN qz0 i j : Int) → w257_175 k42 k54 203 l3 (jI (i : Int)) (jI (j : Int)) (jI ((8 * i + j : Nat) : Int)) M3 P := by
    intro M3 s bb al h3 hc x1 x2 x3 e1 e2 e3
    have hL3 := h3.1.1 hL0
    refine ⟨fun z => ?_, fun z => ⟨kd_203 hL3, ?_⟩⟩
    · have z' := lj.mp z
      rw [if_neg (by omega)] at e1 e2 e3
      exact fin M3 s bb al h3 hc e1 e2 e3
    · have z' : 0 < j := Nat.pos_of_ne_zero (fun y => z (lj.mpr y))
      rw [if_pos z'] at e1 e2 e3
      rw [show jI ((8 * i + j : Nat) : Int) - 1 = jI ((8 * i + (j - 1) : Nat) : Int) by rw [show (1 : Int32) = jI 1 from rfl, jI_sub]; congr 1; omega]
      exact w258_u hL0 ga gb hi hj hi (by omega) (by omega) h3 hc x1 (by omega) (by omega) (fun M4 h4 hc4 => fin M4 _ _ _ h4 hc4 e1 e2 e3)
  have st2 : ∀ (M3 : MM) (s bb al s1 b1 a1 : Int), UI M0 a b i j M3 → cel M3 (8 * i + j) s bb al → (0 ≤ s ∧ s ≤ 1000000000) → (0 ≤ bb ∧ bb ≤ 50000000) → (0 ≤ al ∧ al ≤ 50000000) → (s1 = if 0 < i then adS s (fS (sQ a b) (i - 1) j) else s) → (b1 = if 0 < i then adB s bb (fS (sQ a b) (i - 1) j) (fN (sQ a b) (i - 1) j : Int) else bb) → (a1 = if 0 < i then al + (fN qz0 (i - 1) j : Int) else al) → (if 0 < j then adS s1 (fS (sQ a b) i (j - 1)) else s1) + qd a i b j = fS (sQ a b) i j → (if 0 < j then adB s1 b1 (fS (sQ a b) i (j - 1)) (fN (sQ a b) i (j - 1) : Int) else b1) = (fN (sQ a b) i j : Int) → (if 0 < j then a1 + (fN qz0 i (j - 1) : Int) else a1) = (fN qz0 i j : Int) → w257_159 k42 k54 203 l3 (jI (i : Int)) (jI (j : Int)) (jI ((8 * i + j : Nat) : Int)) M3 P := by
    intro M3 s bb al s1 b1 a1 h3 hc x1 x2 x3 y1 y2 y3 e1 e2 e3
    have hL3 := h3.1.1 hL0
    refine ⟨fun z => ?_, fun z => ⟨kd_203 hL3, ?_⟩⟩
    · have z' := li.mp z
      rw [if_neg (by omega)] at y1 y2 y3
      subst y1 y2 y3
      exact st3 M3 _ _ _ h3 hc x1 (by omega) (by omega) e1 e2 e3
    · have z' : 0 < i := Nat.pos_of_ne_zero (fun y => z (li.mpr y))
      rw [if_pos z'] at y1 y2 y3
      subst y1 y2 y3
      have f1 := fS_z ga gb (show i - 1 < wn a by omega) hj
      have f2 := fN_9 (sQ a b) (show i - 1 < 8 by omega) (show j < 8 by omega)
      have f3 := fN_9 qz0 (show i - 1 < 8 by omega) (show j < 8 by omega)
      have f4 := adB_b (s := s) (s' := fS (sQ a b) (i - 1) j) (b := bb) (b' := (fN (sQ a b) (i - 1) j : Int)) (by omega) (by omega)
      rw [show jI ((8 * i + j : Nat) : Int) - 8 = jI ((8 * (i - 1) + j : Nat) : Int) by rw [show (8 : Int32) = jI 8 from rfl, jI_sub]; congr 1; omega]
      exact w258_u hL0 ga gb hi hj (by omega) hj (by omega) h3 hc x1 (by omega) (by omega) (fun M4 h4 hc4 => st3 M4 _ _ _ h4 hc4 (by unfold adS; omega) (by omega) (by omega) e1 e2 e3)
  -- the tables' cell is laid
  have st0 : ∀ (s bb al : Int), (s = if i = 0 ∧ j = 0 then 0 else 1000000000) → (bb = if i = 0 ∧ j = 0 then 1 else 0) → (al = if i = 0 ∧ j = 0 then 1 else 0) → ∀ M3, UI M0 a b i j M3 → cel M3 (8 * i + j) s bb al → ((jI (i : Int) ≤ 0 → w257_159 k42 k54 203 l3 (jI (i : Int)) (jI (j : Int)) (jI ((8 * i + j : Nat) : Int)) M3 P) ∧ (¬ (jI (i : Int) ≤ 0) → ((jI (j : Int) ≤ 0 → w257_159 k42 k54 203 l3 (jI (i : Int)) (jI (j : Int)) (jI ((8 * i + j : Nat) : Int)) M3 P) ∧ (¬ (jI (j : Int) ≤ 0) → (kd M3 203 10 ∧ w258 203 (jI ((8 * i + j : Nat) : Int)) (jI ((8 * i + j : Nat) : Int) - (9 : Int32)) M3 (fun M2 => w257_159 k42 k54 203 l3 (jI (i : Int)) (jI (j : Int)) (jI ((8 * i + j : Nat) : Int)) M2 P)))))) := by
    intro s bb al es' eb ea M3 h3 hc
    have hL3 := h3.1.1 hL0
    have sb : 0 ≤ s ∧ s ≤ 1000000000 := by rw [es']; split <;> omega
    have bbb : 0 ≤ bb ∧ bb ≤ 1 := by rw [eb]; split <;> omega
    have ab : 0 ≤ al ∧ al ≤ 1 := by rw [ea]; split <;> omega
    have edge : ¬ (0 < i ∧ 0 < j) → w257_159 k42 k54 203 l3 (jI (i : Int)) (jI (j : Int)) (jI ((8 * i + j : Nat) : Int)) M3 P := by
      intro ne
      refine st2 M3 s bb al _ _ _ h3 hc sb (by omega) (by omega) rfl rfl rfl ?_ ?_ ?_
      · by_cases ci : 0 < i
        · have cj : ¬ 0 < j := fun y => ne ⟨ci, y⟩
          have f1 := fS_z ga gb (show i - 1 < wn a by omega) hj
          rw [if_neg cj, if_pos ci, es', if_neg (by omega), sE]
          unfold pvM adS
          rw [if_pos ci, if_neg cj]; omega
        · rw [if_neg ci]
          by_cases cj : 0 < j
          · have f1 := fS_z ga gb hi (show j - 1 < wn b by omega)
            rw [if_pos cj, es', if_neg (by omega), sE]
            unfold pvM adS
            rw [if_neg ci, if_pos cj]; omega
          · rw [if_neg cj, es', if_pos (by omega), sE]
            unfold pvM
            rw [if_neg ci, if_neg cj]; omega
      · by_cases ci : 0 < i
        · have cj : ¬ 0 < j := fun y => ne ⟨ci, y⟩
          have f1 := fS_z ga gb (show i - 1 < wn a by omega) hj
          have pe : pvM (fS (sQ a b)) i j = fS (sQ a b) (i - 1) j := by unfold pvM; rw [if_pos ci, if_neg cj]
          rw [if_neg cj, if_pos ci, es', eb, if_neg (by omega), if_neg (by omega), nE, pe, if_neg (by omega), if_neg (by omega), if_pos ⟨ci, rfl⟩, if_neg (by omega)]
          unfold adB
          rw [if_neg (by omega), if_pos (by omega)]; omega
        · rw [if_neg ci, if_neg ci]
          by_cases cj : 0 < j
          · have f1 := fS_z ga gb hi (show j - 1 < wn b by omega)
            have pe : pvM (fS (sQ a b)) i j = fS (sQ a b) i (j - 1) := by unfold pvM; rw [if_neg ci, if_pos cj]
            rw [if_pos cj, es', eb, if_neg (by omega), if_neg (by omega), nE, pe, if_neg (by omega), if_neg (by omega), if_neg (by omega), if_pos ⟨cj, rfl⟩]
            unfold adB
            rw [if_neg (by omega), if_pos (by omega)]; omega
          · rw [if_neg cj, eb, if_pos (by omega), nE, if_pos (by omega)]; rfl
      · rw [mE, ea]
        by_cases ci : 0 < i
        · have cj : ¬ 0 < j := fun y => ne ⟨ci, y⟩
          rw [if_neg cj, if_pos ci, if_neg (by omega), if_neg (by omega), if_neg (by omega), if_pos ⟨ci, rfl⟩, if_neg (by omega)]; omega
        · by_cases cj : 0 < j
          · rw [if_pos cj, if_neg ci, if_neg (by omega), if_neg (by omega), if_neg (by omega), if_neg (by omega), if_pos ⟨cj, rfl⟩]; omega
          · rw [if_neg cj, if_neg ci, if_pos (by omega), if_pos (by omega)]; rfl
    refine ⟨fun z => edge (fun y => by have := li.mp z; omega), fun z => ⟨fun y => edge (fun x => by have := lj.mp y; omega), fun y => ⟨kd_203 hL3, ?_⟩⟩⟩
    have ci : 0 < i := Nat.pos_of_ne_zero (fun x => z (li.mpr x))
    have cj : 0 < j := Nat.pos_of_ne_zero (fun x => y (lj.mpr x))
    have f1 := fS_z ga gb (show i - 1 < wn a by omega) (show j - 1 < wn b by omega)
    have f2 := fN_9 (sQ a b) (show i - 1 < 8 by omega) (show j - 1 < 8 by omega)
    have f3 := fN_9 qz0 (show i - 1 < 8 by omega) (show j - 1 < 8 by omega)
    have f4 := fS_z ga gb (show i - 1 < wn a by omega) hj
    have f5 := fS_z ga gb hi (show j - 1 < wn b by omega)
    rw [if_neg (by omega)] at es' eb ea
    subst es' eb ea
    have u1 : adS 1000000000 (fS (sQ a b) (i - 1) (j - 1)) = fS (sQ a b) (i - 1) (j - 1) := by unfold adS; omega
    have u2 : adB 1000000000 0 (fS (sQ a b) (i - 1) (j - 1)) (fN (sQ a b) (i - 1) (j - 1) : Int) = (fN (sQ a b) (i - 1) (j - 1) : Int) := by unfold adB; rw [if_neg (by omega), if_pos (by omega)]
    rw [show jI ((8 * i + j : Nat) : Int) - 9 = jI ((8 * (i - 1) + (j - 1) : Nat) : Int) by rw [show (9 : Int32) = jI 9 from rfl, jI_sub]; congr 1; omega]
    refine w258_u hL0 ga gb hi hj (by omega) (by omega) (by omega) h3 hc (by omega) (by omega) (by omega) (fun M4 h4 hc4 => ?_)
    rw [u1, u2] at hc4
    refine st2 M4 _ _ _ _ _ _ h4 hc4 (by omega) (by omega) (by omega) rfl rfl rfl ?_ ?_ ?_
    · rw [if_pos cj, if_pos ci, sE]
      unfold pvM adS
      rw [if_pos ci, if_pos cj]; omega
    · rw [if_pos cj, if_pos ci, if_pos ci, nE, if_neg (by omega)]
      have pe : pvM (fS (sQ a b)) i j = min (min (fS (sQ a b) (i - 1) (j - 1)) (fS (sQ a b) (i - 1) j)) (fS (sQ a b) i (j - 1)) := by unfold pvM; rw [if_pos ci, if_pos cj]
      rw [pe]
      have cA : (0 < i ∧ 0 < j ∧ fS (sQ a b) (i - 1) (j - 1) = min (min (fS (sQ a b) (i - 1) (j - 1)) (fS (sQ a b) (i - 1) j)) (fS (sQ a b) i (j - 1))) ↔ fS (sQ a b) (i - 1) (j - 1) = min (min (fS (sQ a b) (i - 1) (j - 1)) (fS (sQ a b) (i - 1) j)) (fS (sQ a b) i (j - 1)) := ⟨fun q => q.2.2, fun q => ⟨ci, cj, q⟩⟩
      have cB : (0 < i ∧ fS (sQ a b) (i - 1) j = min (min (fS (sQ a b) (i - 1) (j - 1)) (fS (sQ a b) (i - 1) j)) (fS (sQ a b) i (j - 1))) ↔ fS (sQ a b) (i - 1) j = min (min (fS (sQ a b) (i - 1) (j - 1)) (fS (sQ a b) (i - 1) j)) (fS (sQ a b) i (j - 1)) := ⟨fun q => q.2, fun q => ⟨ci, q⟩⟩
      have cC : (0 < j ∧ fS (sQ a b) i (j - 1) = min (min (fS (sQ a b) (i - 1) (j - 1)) (fS (sQ a b) (i - 1) j)) (fS (sQ a b) i (j - 1))) ↔ fS (sQ a b) i (j - 1) = min (min (fS (sQ a b) (i - 1) (j - 1)) (fS (sQ a b) (i - 1) j)) (fS (sQ a b) i (j - 1)) := ⟨fun q => q.2, fun q => ⟨cj, q⟩⟩
      simp only [cA, cB, cC]
      exact adB3
    · rw [if_pos cj, if_pos ci, mE, if_neg (by omega), if_pos ⟨ci, cj, rfl⟩, if_pos ⟨ci, rfl⟩, if_pos ⟨cj, rfl⟩]; omega
  -- laying
  have lay3 : ∀ (s bb al : Int), UI M0 a b i j (sL (sL (sI M 231 (8 * i + j) (jI s)) 232 (8 * i + j) (jL bb)) 233 (8 * i + j) (jL al)) ∧ cel (sL (sL (sI M 231 (8 * i + j) (jI s)) 232 (8 * i + j) (jL bb)) 233 (8 * i + j) (jL al)) (8 * i + j) s bb al := by
    intro s bb al
    refine ⟨⟨Fr_sL (Fr_sL (Fr_sI hU.1 (sB_t2 (by omega))) (sB_t2 (by omega))) (sB_t2 (by omega)), fun x y hx hy hxy => ?_⟩, ?_, ?_, ?_⟩
    · obtain ⟨q1, q2, q3⟩ := hU.2 x y hx hy hxy
      refine ⟨?_, ?_, ?_⟩
      · rw [gI_sL, gI_sL, gI_n (by omega)]; exact q1
      · rw [gL_n (by omega), gL_n (by omega), gL_sI]; exact q2
      · rw [gL_n (by omega), gL_n (by omega), gL_sI]; exact q3
    · rw [gI_sL, gI_sL, gI_y ⟨rfl, rfl⟩]
    · rw [gL_n (by omega), gL_y ⟨rfl, rfl⟩]
    · rw [gL_y ⟨rfl, rfl⟩]
  unfold w257_83 w257_103 w257_120 w257_137
  rw [rf_203_60 hL]
  by_cases c : i = 0 ∧ j = 0
  · rw [if_pos c] at es
    subst es
    have l3' := lay3 0 1 1
    refine ⟨kd_203 hL, br_f (by decide) ⟨231, rfl, i231 hL (by omega), kd_203 hL, br_f (by decide) ⟨232, by rw [ec]; exact rf_203_61 (lay_sI hL), i232 hL (by omega), kd_203 hL, br_f (by decide) ⟨233, by rw [ec]; exact rf_203_62 (lay_sL (lay_sI hL)), i233 hL (by omega), ?_⟩⟩⟩⟩
    rw [ec]
    exact st0 0 1 1 (if_pos c).symm (if_pos c).symm (if_pos c).symm _ l3'.1 l3'.2
  · rw [if_neg c] at es
    subst es
    have l3' := lay3 1000000000 0 0
    refine ⟨kd_203 hL, br_t rfl ⟨231, rfl, i231 hL (by omega), kd_203 hL, br_t rfl ⟨232, by rw [ec]; exact rf_203_61 (lay_sI hL), i232 hL (by omega), kd_203 hL, br_t rfl ⟨233, by rw [ec]; exact rf_203_62 (lay_sL (lay_sI hL)), i233 hL (by omega), ?_⟩⟩⟩⟩
    rw [ec]
    exact st0 1000000000 0 0 (if_neg c).symm (if_neg c).symm (if_neg c).symm _ l3'.1 l3'.2
theorem w257_42_s {M0 : MM} {a b : WY} {l3 : Int32} {P : Int32 → MM → Prop} (hL0 : Lay M0) (hR0 : RAB M0 a b) (ga : gW a) (gb : gW b) (hX : ∀ M', Fr sSu M0 M' → P (jI (sumV l3 a b)) (sI M' 203 9 0)) : ∃ n, w257_42 n 203 l3 0 M0 P := by
  have a1 := ga.1
  have b1 := gb.1
  have a2 := ga.2.1
  have b2 := gb.2.1
  have inner : ∀ (K : Nat → Int32 → Int32 → MM → Prop) (i : Nat), i < wn a → (∀ M', UI M0 a b i (wn b) M' → K 203 l3 (jI ((i + 1 : Nat) : Int)) M') → ∀ (q j : Nat) (M : MM), j + q = wn b → UI M0 a b i j M → w257_54 K (q + 1) 203 l3 (jI (i : Int)) (jI (j : Int)) M P := by
    intro K i hi hK q
    induction q with
    | zero =>
      intro j M hj h
      have hL := h.1.1 hL0
      have g28 : mI M 203 28 = jI (wn b : Int) := (Fr_I h.1 (sB_f (by omega) (by omega))).trans hR0.2.1
      refine ⟨kd_203 hL, br_t ?_ ?_⟩
      · rw [g28, jI_le (by omega) (by omega) (by omega) (by omega)]; omega
      · rw [show jI (i : Int) + 1 = jI ((i + 1 : Nat) : Int) by rw [show (1 : Int32) = jI 1 from rfl, jI_add, c_s1]]
        rw [show j = wn b by omega] at h
        exact hK M h
    | succ q ih =>
      intro j M hj h
      have hL := h.1.1 hL0
      have g28 : mI M 203 28 = jI (wn b : Int) := (Fr_I h.1 (sB_f (by omega) (by omega))).trans hR0.2.1
      refine ⟨kd_203 hL, br_f ?_ ?_⟩
      · rw [g28, jI_le (by omega) (by omega) (by omega) (by omega)]; omega
      rw [show (8 : Int32) * jI (i : Int) + jI (j : Int) = jI ((8 * i + j : Nat) : Int) by rw [show (8 : Int32) = jI 8 from rfl, jI_mul, jI_add]; congr 1]
      refine ⟨fun z => w257_83_s hL0 hR0 ga gb hi (by omega) h ?_ (fun M' h' => ih (j + 1) M' (by omega) h'), fun z => w257_83_s hL0 hR0 ga gb hi (by omega) h ?_ (fun M' h' => ih (j + 1) M' (by omega) h')⟩
      · rw [show (0 : Int32) = jI 0 from rfl, ne_eq, jI_eq (by omega) (by omega) (by omega) (by omega)] at z
        rw [if_neg (by omega)]
      · rw [show (0 : Int32) = jI 0 from rfl, ne_eq, jI_eq (by omega) (by omega) (by omega) (by omega)] at z
        rw [if_pos (by omega)]
  have outer : ∀ (q i : Nat) (M : MM), i + q = wn a → UI M0 a b i 0 M → w257_42 (q + 1) 203 l3 (jI (i : Int)) M P := by
    intro q
    induction q with
    | zero =>
      intro i M hi h
      have hL := h.1.1 hL0
      have g27 : mI M 203 27 = jI (wn a : Int) := (Fr_I h.1 (sB_f (by omega) (by omega))).trans hR0.1
      have g28 : mI M 203 28 = jI (wn b : Int) := (Fr_I h.1 (sB_f (by omega) (by omega))).trans hR0.2.1
      obtain ⟨v1, v2, v3⟩ := h.2 (wn a - 1) (wn b - 1) (by omega) (by omega) (by omega)
      have bo := both (sQ a b) (show 0 < wn a by omega) (show 0 < wn b by omega)
      have bo0 := both qz0 (show 0 < wn a by omega) (show 0 < wn b by omega)
      rw [bo.1] at v1
      rw [bo.2] at v2
      rw [bo0.2] at v3
      have at' : (8 : Int32) * (jI (wn a : Int) - 1) + jI (wn b : Int) - 1 = jI ((8 * (wn a - 1) + (wn b - 1) : Nat) : Int) := by
        rw [show (8 : Int32) = jI 8 from rfl, show (1 : Int32) = jI 1 from rfl, jI_sub, jI_mul, jI_add, jI_sub]; congr 1; omega
      have ec : (jI ((8 * (wn a - 1) + (wn b - 1) : Nat) : Int)).toNatClampNeg = 8 * (wn a - 1) + (wn b - 1) := jI_cn (by omega)
      refine ⟨kd_203 hL, br_t ?_ ⟨kd_203 hL, kd_203 hL, ?_⟩⟩
      · rw [g27, jI_le (by omega) (by omega) (by omega) (by omega)]; omega
      rw [g27, g28, at', ec]
      unfold sumV at hX
      refine ⟨fun z => ⟨fun y => ⟨kd_203 hL, 233, rf_203_62 hL, i233 hL (by omega), 203, rfl, kd_203 hL, kd_203 hL, ?_⟩, fun y => ⟨kd_203 hL, 232, rf_203_61 hL, i232 hL (by omega), 203, rfl, kd_203 hL, kd_203 hL, ?_⟩⟩, fun z => ⟨kd_203 hL, 231, rf_203_60 hL, i231 hL (by omega), 203, rfl, kd_203 hL, kd_203 hL, ?_⟩⟩
      · rw [if_neg z, if_neg y] at hX
        rw [v3, jL_i]; exact hX M h.1
      · rw [if_neg z, if_pos (Classical.not_not.mp y)] at hX
        rw [v2, jL_i]; exact hX M h.1
      · rw [if_pos (Classical.not_not.mp z)] at hX
        rw [v1]; exact hX M h.1
    | succ q ih =>
      intro i M hi h
      have hL := h.1.1 hL0
      have g27 : mI M 203 27 = jI (wn a : Int) := (Fr_I h.1 (sB_f (by omega) (by omega))).trans hR0.1
      refine ⟨kd_203 hL, br_f ?_ ⟨wn b + 1, inner _ i (by omega) (fun M' h' => ih (i + 1) M' (by omega) ⟨h'.1, fun x y hx hy hxy => h'.2 x y hx hy (by omega)⟩) (wn b) 0 M (by omega) h⟩⟩
      rw [g27, jI_le (by omega) (by omega) (by omega) (by omega)]; omega
  exact ⟨wn a + 1, outer (wn a) 0 M0 (by omega) ⟨Fr_r, fun x y _ _ h => absurd h (by omega)⟩⟩
theorem sSu_Q {x k : Nat} (h : sRQ x k = false) : sSu x k = false := by
  refine sB_f (by omega) (fun z => ?_)
  rw [sRQ_2 (by omega)] at h; cases h
theorem w257_q {M : MM} {k : Nat} {W : Nat → WY} {l1 l2 l3 : Int32} {P : Int32 → MM → Prop} (hL : Lay M) (hW : RWs M k W) (hX : ∀ M' r st, Fr sRQ M M' → mI M' 203 9 = st → (r, st) = sumA k W l1 l2 l3 → P r M') : w257 203 l1 l2 l3 M P := by
  have hC := RWs_RW hL hW
  have k4 := hW.2.1
  unfold sumA at hX
  refine w166_s ?_
  cases hf : frb l3 0 2 with
  | false =>
    rw [if_neg (by rw [hf]; decide)] at hX
    exact br_f (by decide) (br_f (by decide) ⟨kd_203 hL, kd_203 hL, hX _ _ _ (Fr_s9 Fr_r) (gI_y ⟨rfl, rfl⟩) rfl⟩)
  | true =>
    rw [if_pos hf] at hX
    refine br_t (by decide) ⟨kd_203 hL, w202_s hC ?_⟩
    by_cases c : chk2 k l1 l2 = 0
    · rw [if_pos c] at hX
      refine br_t (by rw [c]; decide) ?_
      obtain ⟨w, o, rfl, rfl, hw, ho, hne⟩ := chk2_0 k4 c
      rw [jI_cn (by omega), jI_cn (by omega)] at hX
      refine ⟨kd_203 hL, w211_s hL hW hw ho (fun M1 h1 hR => ?_)⟩
      exact w257_42_s (h1.1 hL) hR (hW.2.2 w hw).1 (hW.2.2 o ho).1 (fun M2 h2 => hX _ _ _ (Fr_s9 (Fr_t (Fr_w h1 (fun x k h => sRL_Q h)) (Fr_w h2 (fun x k h => sSu_Q h)))) (gI_y ⟨rfl, rfl⟩) rfl)
    · rw [if_neg c] at hX
      refine br_f ?_ ⟨kd_203 hL, kd_203 hL, hX _ _ _ (Fr_s9 Fr_r) (gI_y ⟨rfl, rfl⟩) rfl⟩
      unfold chk2 at c ⊢
      split
      · split
        · decide
        · rename_i a b; rw [if_pos a, if_neg b] at c; exact absurd rfl c
      · decide
