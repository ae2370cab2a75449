/-! hops: the class's question -/
theorem w119_19_s {M0 : MM} {a b : WY} {T m : Nat} {P : Int32 → MM → Prop} (hL0 : Lay M0) (hJ0 : JP M0 a b) (ga : gW a) (gb : gW b) (hT9 : hEnd a b (hit a b (hv a b 0 0) T (0, 0))) (hTo : ∀ t, t ≤ T → hOk a b (hv a b 0 0) (hit a b (hv a b 0 0) t (0, 0)) ∧ (t < T → ¬ hEnd a b (hit a b (hv a b 0 0) t (0, 0)))) (hm : m ≤ 16) (hT1 : T ≤ 14)
    (hX : ∀ (M' : MM), Fr sJ8 M0 M' → mI M' 175 7 = jI ((hit a b (hv a b 0 0) (min m T) (0, 0)).1 : Int) → mI M' 175 8 = jI ((hit a b (hv a b 0 0) (min m T) (0, 0)).2 : Int) → P (jI ((min m T : Nat) : Int)) M') :
    ∀ (q t : Nat) (M : MM), t + q = min m T → Fr sJ8 M0 M → mI M 175 7 = jI ((hit a b (hv a b 0 0) t (0, 0)).1 : Int) → mI M 175 8 = jI ((hit a b (hv a b 0 0) t (0, 0)).2 : Int) → w119_19 (q + 1) 175 (jI (t : Int)) (jI (m : Int)) M P := by
  have a2 := ga.2.1
  have b2 := gb.2.1
  intro q
  induction q with
  | zero =>
    intro t M ht hF h7 h8
    have hL := hF.1 hL0
    have hJ := JP_fr hF hJ0
    have fin := hX M hF
    rw [show min m T = t by omega] at fin
    refine ⟨fun _ => fin h7 h8, fun z => ?_⟩
    rw [jI_le (by omega) (by omega) (by omega) (by omega)] at z
    have e : t = T := by omega
    have hen := hT9
    rw [← e] at hen
    unfold hEnd at hen
    refine ⟨kd_175 hL, kd_175 hL, br_f ?_ ⟨kd_175 hL, kd_175 hL, br_t ?_ (fin h7 h8)⟩⟩
    · rw [h7, hJ.1, jI_lt (by omega) (by omega) (by omega) (by omega)]; omega
    · rw [h8, hJ.2.1, jI_le (by omega) (by omega) (by omega) (by omega)]; omega
  | succ q ih =>
    intro t M ht hF h7 h8
    have hL := hF.1 hL0
    have hJ := JP_fr hF hJ0
    have ho := hTo t (by omega)
    have ne := ho.2 (by omega)
    have g := w119_46_s (k19 := fun z0 z1 z2 z3 => w119_19 (q + 1) z0 z1 z2 z3 P) (l2 := jI (t : Int)) (l3 := jI (m : Int)) (P := P) hL0 hF hJ0 ga gb h7 h8 ho.1 ne (fun M' hF' h7' h8' => by
      rw [show (1 : Int32) = jI 1 from rfl, jI_add, c_s1]
      exact ih (t + 1) M' (by omega) hF' h7' h8')
    have o1 := ho.1
    unfold hOk at o1
    unfold hEnd at ne
    refine br_f ?_ ⟨kd_175 hL, kd_175 hL, fun _ => g, fun z => ⟨kd_175 hL, kd_175 hL, br_f ?_ g⟩⟩
    · rw [jI_le (by omega) (by omega) (by omega) (by omega)]; omega
    · rw [h7, hJ.1, jI_lt (by omega) (by omega) (by omega) (by omega)] at z
      rw [h8, hJ.2.1, jI_le (by omega) (by omega) (by omega) (by omega)]; omega
def hopT (a b : WY) : Nat := hT a b (hv a b 0 0) 14 (0, 0)
def hopP (a b : WY) (t : Nat) : Nat × Nat := hit a b (hv a b 0 0) t (0, 0)
theorem hopT_ok {a b : WY} (ga : gW a) (gb : gW b) : hopT a b ≤ 14 ∧ hEnd a b (hopP a b (hopT a b)) ∧ ∀ t, t ≤ hopT a b → hOk a b (hv a b 0 0) (hopP a b t) ∧ (t < hopT a b → ¬ hEnd a b (hopP a b t)) := by
  have a1 := ga.1
  have b1 := gb.1
  have a2 := ga.2.1
  have b2 := gb.2.1
  exact hT_ok 14 (0, 0) ⟨by show 0 < wn a; omega, by show 0 < wn b; omega, Int.le_refl _⟩ (by omega)
theorem w119_s {M : MM} {a b : WY} {m : Nat} {l1 : Int32} {P : Int32 → MM → Prop} (hL : Lay M) (hJ : JP M a b) (ga : gW a) (gb : gW b) (hl : ∃ x : Int, l1 = jI x ∧ 0 ≤ x ∧ x < 2147483648 ∧ (m : Int) = min x 16)
    (hX : ∀ (M' : MM), Fr sJ8 M M' → mI M' 175 7 = jI ((hopP a b (min m (hopT a b))).1 : Int) → mI M' 175 8 = jI ((hopP a b (min m (hopT a b))).2 : Int) → P (jI ((min m (hopT a b) : Nat) : Int)) M') : w119 175 l1 M P := by
  obtain ⟨x, rfl, x0, x1, xm⟩ := hl
  obtain ⟨t1, t2, t3⟩ := hopT_ok ga gb
  refine ⟨kd_175 hL, kd_175 hL, w70_s (y := 16) (by omega) (by omega) (by omega) (by omega) ⟨min m (hopT a b) + 1, ?_⟩⟩
  rw [← xm]
  refine w119_19_s hL hJ ga gb t2 t3 (by omega) t1 hX (min m (hopT a b)) 0 _ (by omega) (Fr_sI (Fr_sI Fr_r (sB_t1 (by omega))) (sB_t1 (by omega))) ?_ (gI_y ⟨rfl, rfl⟩)
  rw [gI_n (by omega), gI_y ⟨rfl, rfl⟩]
  rfl
