/-! hops: the reference's question -/
theorem w256_40_s {M0 M : MM} {a b : WY} {t : Nat} {k20 : Nat → Int32 → Int32 → Int32 → MM → Prop} {P : MM → Prop} (hL0 : Lay M0) (hR : RAB M0 a b) (hK : ∀ i' j', i' < wn a → j' < wn b → mI M0 226 (8 * i' + j') = jI (hv a b i' j')) (ga : gW a) (gb : gW b) (ht : t + 1 < 16) (h : WP (hopP a b) M0 (t + 1) M) (hs : hOk a b (hv a b 0 0) (hopP a b t)) (he : ¬ hEnd a b (hopP a b t))
    (hX : ∀ M', WP (hopP a b) M0 (t + 2) M' → k20 203 (jI (hv a b 0 0)) (jI ((hopP a b (t + 1)).1 : Int)) (jI ((hopP a b (t + 1)).2 : Int)) M') : w256_40 k20 203 (jI (hv a b 0 0)) (jI ((hopP a b t).1 : Int)) (jI ((hopP a b t).2 : Int)) M P := by
  have a1 := ga.1
  have b1 := gb.1
  have a2 := ga.2.1
  have b2 := gb.2.1
  have hL := h.1.1 hL0
  have hz := hv_z ga gb (show 0 < wn a by omega) (show 0 < wn b by omega)
  have e27 : mI M 203 27 = jI (wn a : Int) := (Fr_I h.1 (sTw_f (by omega) (by omega))).trans hR.1
  have e28 : mI M 203 28 = jI (wn b : Int) := (Fr_I h.1 (sTw_f (by omega) (by omega))).trans hR.2.1
  have hK' : ∀ i' j', i' < wn a → j' < wn b → mI M 226 (8 * i' + j') = jI (hv a b i' j') := fun i' j' q1 q2 => (Fr_I h.1 (sTw_f (by omega) (by omega))).trans (hK i' j' q1 q2)
  have es : hopP a b (t + 1) = hstp a b (hv a b 0 0) (hopP a b t) := rfl
  have fin : ∀ i' j' : Nat, hstp a b (hv a b 0 0) (hopP a b t) = (i', j') → w256_143 k20 203 (jI (hv a b 0 0)) (jI (i' : Int)) (jI (j' : Int)) M P := fun i' j' e => by
    rw [e] at es
    rw [es] at hX
    exact ⟨kd_203 hL, w254_g hL0 h ht es (fun M' h' => hX M' h')⟩
  generalize hopP a b t = s at *
  obtain ⟨s1, s2, s3⟩ := hs
  have ei : jI (s.1 : Int) + 1 = jI ((s.1 + 1 : Nat) : Int) := by rw [show (1 : Int32) = jI 1 from rfl, jI_add, c_s1]
  have ej : jI (s.2 : Int) + 1 = jI ((s.2 + 1 : Nat) : Int) := by rw [show (1 : Int32) = jI 1 from rfl, jI_add, c_s1]
  have up : ¬ ((s.1 + 1 < wn a ∧ s.2 + 1 < wn b) ∧ hv a b (s.1 + 1) (s.2 + 1) ≤ hv a b 0 0) → ¬ (s.1 + 1 < wn a ∧ hv a b (s.1 + 1) s.2 ≤ hv a b 0 0) → w256_140 k20 203 (jI (hv a b 0 0)) (jI (s.1 : Int)) (jI (s.2 : Int)) M P := fun n1 n2 => by
    have f := fin s.1 (s.2 + 1) (by unfold hstp; rw [if_neg n1, if_neg n2])
    unfold w256_140
    rw [ej]
    exact f
  have g111 : ∀ l4 : Int32, (l4 = 0 ↔ ¬ s.1 + 1 < wn a) → ¬ ((s.1 + 1 < wn a ∧ s.2 + 1 < wn b) ∧ hv a b (s.1 + 1) (s.2 + 1) ≤ hv a b 0 0) → w256_111 k20 203 (jI (hv a b 0 0)) (jI (s.1 : Int)) (jI (s.2 : Int)) l4 M P := fun l4 h4 n1 => by
    refine ⟨fun z => up n1 (fun y => h4.mp z y.1), fun z => ⟨kd_203 hL, 226, rf_203_46 hL, ?_⟩⟩
    have c1 : s.1 + 1 < wn a := Classical.not_not.mp (fun y => z (h4.mpr y))
    have hz1 := hv_z ga gb c1 s2
    rw [show (8 : Int32) * jI (s.1 : Int) + 8 + jI (s.2 : Int) = jI ((8 * (s.1 + 1) + s.2 : Nat) : Int) by rw [show (8 : Int32) = jI 8 from rfl, jI_mul, jI_add, jI_add]; congr 1]
    refine ⟨i226 hL (by omega), ?_⟩
    rw [jI_cn (by omega), hK' _ _ c1 s2, jI_lt (by omega) (by omega) (by omega) (by omega)]
    refine ⟨fun y => up n1 (fun x => by omega), fun y => ?_⟩
    have f := fin (s.1 + 1) s.2 (by unfold hstp; rw [if_neg n1, if_pos ⟨c1, by omega⟩])
    rw [ei]
    exact f
  have g72 : ∀ l4 s0 : Int32, (l4 = 0 ↔ ¬ s.1 + 1 < wn a) → (s0 = 0 ↔ ¬ s.2 + 1 < wn b) → w256_72 k20 203 (jI (hv a b 0 0)) (jI (s.1 : Int)) (jI (s.2 : Int)) l4 s0 M P := fun l4 s0 h4 h0 => by
    refine ⟨fun z => g111 l4 h4 (fun y => h4.mp z y.1.1), fun z => ⟨fun y => g111 l4 h4 (fun x => h0.mp y x.1.2), fun y => ⟨kd_203 hL, 226, rf_203_46 hL, ?_⟩⟩⟩
    have c1 : s.1 + 1 < wn a := Classical.not_not.mp (fun y => z (h4.mpr y))
    have c2 : s.2 + 1 < wn b := Classical.not_not.mp (fun x => y (h0.mpr x))
    have hz1 := hv_z ga gb c1 c2
    rw [show (8 : Int32) * jI (s.1 : Int) + 9 + jI (s.2 : Int) = jI ((8 * (s.1 + 1) + (s.2 + 1) : Nat) : Int) by rw [show (8 : Int32) = jI 8 from rfl, show (9 : Int32) = jI 9 from rfl, jI_mul, jI_add, jI_add]; congr 1; omega]
    refine ⟨i226 hL (by omega), ?_⟩
    rw [jI_cn (by omega), hK' _ _ c1 c2, jI_lt (by omega) (by omega) (by omega) (by omega)]
    refine ⟨fun x => g111 l4 h4 (fun v => by omega), fun x => ?_⟩
    have f := fin (s.1 + 1) (s.2 + 1) (by unfold hstp; rw [if_pos ⟨⟨c1, c2⟩, by omega⟩])
    rw [ei, ej]
    exact f
  have g55 : ∀ l4 : Int32, (l4 = 0 ↔ ¬ s.1 + 1 < wn a) → w256_55 k20 203 (jI (hv a b 0 0)) (jI (s.1 : Int)) (jI (s.2 : Int)) l4 M P := fun l4 h4 => by
    refine ⟨kd_203 hL, ?_⟩
    rw [e28, ej, jI_le (by omega) (by omega) (by omega) (by omega)]
    exact ⟨fun z => g72 _ _ h4 ⟨fun _ => by omega, fun _ => rfl⟩, fun z => g72 _ _ h4 ⟨fun y => absurd y (by decide), fun y => absurd y (by omega)⟩⟩
  refine ⟨kd_203 hL, ?_⟩
  rw [e27, ei, jI_le (by omega) (by omega) (by omega) (by omega)]
  exact ⟨fun z => g55 _ ⟨fun _ => by omega, fun _ => rfl⟩, fun z => g55 _ ⟨fun y => absurd y (by decide), fun y => absurd y (by omega)⟩⟩
theorem w256_20_s {M0 : MM} {a b : WY} {P : MM → Prop} (hL0 : Lay M0) (hR : RAB M0 a b) (hK : ∀ i' j', i' < wn a → j' < wn b → mI M0 226 (8 * i' + j') = jI (hv a b i' j')) (ga : gW a) (gb : gW b) (hX : ∀ M', WP (hopP a b) M0 (hopT a b + 1) M' → P M') :
    ∀ (q t : Nat) (M : MM), t + q = hopT a b → WP (hopP a b) M0 (t + 1) M → w256_20 (q + 1) 203 (jI (hv a b 0 0)) (jI ((hopP a b t).1 : Int)) (jI ((hopP a b t).2 : Int)) M P := by
  have a2 := ga.2.1
  have b2 := gb.2.1
  obtain ⟨t1, t2, t3⟩ := hopT_ok ga gb
  have e : ∀ (x : Nat), jI (x : Int) + 1 = jI ((x + 1 : Nat) : Int) := fun x => by rw [show (1 : Int32) = jI 1 from rfl, jI_add, c_s1]
  intro q
  induction q with
  | zero =>
    intro t M ht h
    have hL := h.1.1 hL0
    have e27 : mI M 203 27 = jI (wn a : Int) := (Fr_I h.1 (sTw_f (by omega) (by omega))).trans hR.1
    have e28 : mI M 203 28 = jI (wn b : Int) := (Fr_I h.1 (sTw_f (by omega) (by omega))).trans hR.2.1
    have et : t = hopT a b := by omega
    subst et
    unfold hEnd at t2
    refine ⟨kd_203 hL, br_f ?_ ⟨kd_203 hL, br_t ?_ (hX M h)⟩⟩
    · rw [e27, e, jI_lt (by omega) (by omega) (by omega) (by omega)]; omega
    · rw [e28, e, jI_le (by omega) (by omega) (by omega) (by omega)]; omega
  | succ q ih =>
    intro t M ht h
    have hL := h.1.1 hL0
    have e27 : mI M 203 27 = jI (wn a : Int) := (Fr_I h.1 (sTw_f (by omega) (by omega))).trans hR.1
    have e28 : mI M 203 28 = jI (wn b : Int) := (Fr_I h.1 (sTw_f (by omega) (by omega))).trans hR.2.1
    have ho := t3 t (by omega)
    have ne := ho.2 (by omega)
    have g := w256_40_s (k20 := fun z0 z1 z2 z3 z4 => w256_20 (q + 1) z0 z1 z2 z3 z4 P) (P := P) hL0 hR hK ga gb (by omega) h ho.1 ne (fun M' h' => ih (t + 1) M' (by omega) h')
    have o1 := ho.1
    unfold hOk at o1
    unfold hEnd at ne
    refine ⟨kd_203 hL, fun _ => g, fun z => ⟨kd_203 hL, br_f ?_ g⟩⟩
    rw [e27, e, jI_lt (by omega) (by omega) (by omega) (by omega)] at z
    rw [e28, e, jI_le (by omega) (by omega) (by omega) (by omega)]; omega
def sHW : Nat → Nat → Bool := sB 203 59 59 226 230
theorem w256_s {M : MM} {a b : WY} {P : MM → Prop} (hL : Lay M) (hR : RAB M a b) (ga : gW a) (gb : gW b) (hX : ∀ M', Fr sHW M M' → mI M' 203 59 = jI ((hopT a b + 1 : Nat) : Int) → (∀ t, t ≤ hopT a b → mI M' 229 t = jI ((hopP a b t).1 : Int) ∧ mI M' 230 t = jI ((hopP a b t).2 : Int)) → P M') : w256 203 M P := by
  refine ⟨kd_203 hL, w241_s hL hR ga gb (fun M1 h1 => ?_)⟩
  have hL1 := h1.1.1 hL
  have hR1 : RAB M1 a b := RAB_fr h1.1 (sHp_f (by omega)) (sHp_f (by omega)) (fun x k _ _ => sHp_f (by omega)) hR
  refine ⟨kd_203 hL1, kd_203 hL1, w254_g (p := hopP a b) (t := 0) (i := 0) (j := 0) hL1 ⟨Fr_sI Fr_r (sB_t1 (by omega)), gI_y ⟨rfl, rfl⟩, fun t' ht => absurd ht (by omega)⟩ (by omega) rfl (fun M2 h2 => ⟨hopT a b + 1, ?_⟩)⟩
  refine w256_20_s hL1 hR1 (fun i' j' q1 q2 => h1.2 i' j' q1 q2 (by omega)) ga gb (fun M3 h3 => ?_) (hopT a b) 0 M2 (by omega) h2
  refine hX M3 (Fr_t (Fr_w h1.1 (sB_w (o := 203) (c := 1) (d := 0) (a := 226) (b := 226) (by omega) (by omega))) (Fr_w h3.1 (sB_w (o := 203) (c := 59) (d := 59) (a := 229) (b := 230) (by omega) (by omega)))) h3.2.1 (fun t ht => h3.2.2 t (by omega))
