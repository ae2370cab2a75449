/-! HOPS: the reference's loops, and ENOUGH by HOPS -/
theorem w241_18_s {M0 : MM} {a b : WY} {i : Nat} {k7 : Nat → Int32 → MM → Prop} {P : Int32 → MM → Prop} (hL0 : Lay M0) (hR : RAB M0 a b) (ga : gW a) (gb : gW b) (hi : i < wn a) (hX : ∀ M', KI M0 a b i 0 M' → k7 203 (jI ((i : Int) - 1)) M') :
    ∀ (q : Nat) (M : MM), q ≤ wn b → KI M0 a b i q M → w241_18 k7 (q + 1) 203 (jI (i : Int)) (jI ((q : Int) - 1)) M P := by
  have a2 := ga.2.1
  have b2 := gb.2.1
  intro q
  induction q with
  | zero =>
    intro M hq h
    refine br_t (by decide) ?_
    rw [show jI (i : Int) + (-1) = jI ((i : Int) - 1) by rw [show (-1 : Int32) = jI (-1) from rfl, jI_add]; congr 1]
    exact hX M h
  | succ q ih =>
    intro M hq h
    have hL := h.1.1 hL0
    have e27 : mI M 203 27 = jI (wn a : Int) := (Fr_I h.1 (sHp_f (by omega))).trans hR.1
    have e28 : mI M 203 28 = jI (wn b : Int) := (Fr_I h.1 (sHp_f (by omega))).trans hR.2.1
    rw [show ((q + 1 : Nat) : Int) - 1 = (q : Int) by omega]
    have go : ∀ v : Int, v = (if i + 1 = wn a ∧ q + 1 = wn b then 0 else 1000000000) → w241_49 k7 (fun z0 z1 z2 z3 => w241_18 k7 (q + 1) z0 z1 z2 z3 P) 203 (jI (i : Int)) (jI (q : Int)) (jI v) M P := fun v hv =>
      w241_49_s hL0 hR ga gb h hi (by omega) hv (fun M' h' => ih M' (by omega) h')
    refine br_f ?_ ⟨kd_203 hL, ?_⟩
    · rw [show (0 : Int32) = jI 0 from rfl, jI_lt (by omega) (by omega) (by omega) (by omega)]; omega
    rw [e27, e28, show (1 : Int32) = jI 1 from rfl, jI_sub, jI_sub]
    have e1 : jI (i : Int) = jI ((wn a : Int) - 1) ↔ i + 1 = wn a := by rw [jI_eq (by omega) (by omega) (by omega) (by omega)]; omega
    have e2 : jI (q : Int) = jI ((wn b : Int) - 1) ↔ q + 1 = wn b := by rw [jI_eq (by omega) (by omega) (by omega) (by omega)]; omega
    refine ⟨fun z => go 1000000000 (if_neg (fun y => z (e1.mpr y.1))).symm, fun z => ⟨kd_203 hL, fun y => go 1000000000 (if_neg (fun x => y (e2.mpr x.2))).symm, fun y => go 0 (if_pos ⟨e1.mp (Classical.not_not.mp z), e2.mp (Classical.not_not.mp y)⟩).symm⟩⟩
theorem w241_7_s {M0 : MM} {a b : WY} {P : Int32 → MM → Prop} (hL0 : Lay M0) (hR : RAB M0 a b) (ga : gW a) (gb : gW b) (hX : ∀ M', KI M0 a b 0 0 M' → P (jI (hv a b 0 0)) M') :
    ∀ (p : Nat) (M : MM), p ≤ wn a → KI M0 a b p 0 M → w241_7 (p + 1) 203 (jI ((p : Int) - 1)) M P := by
  have a1 := ga.1
  have b1 := gb.1
  have a2 := ga.2.1
  have b2 := gb.2.1
  intro p
  induction p with
  | zero =>
    intro M hp h
    have hL := h.1.1 hL0
    refine br_t (by decide) ⟨kd_203 hL, 226, rf_203_46 hL, i226 (k := 0) hL (by omega), ?_⟩
    rw [show (0 : Int32).toNatClampNeg = 8 * 0 + 0 from rfl, h.2 0 0 (by omega) (by omega) (by omega)]
    exact hX M h
  | succ p ih =>
    intro M hp h
    have hL := h.1.1 hL0
    have e28 : mI M 203 28 = jI (wn b : Int) := (Fr_I h.1 (sHp_f (by omega))).trans hR.2.1
    rw [show ((p + 1 : Nat) : Int) - 1 = (p : Int) by omega]
    refine br_f ?_ ⟨kd_203 hL, wn b + 1, ?_⟩
    · rw [show (0 : Int32) = jI 0 from rfl, jI_lt (by omega) (by omega) (by omega) (by omega)]; omega
    rw [e28, show (1 : Int32) = jI 1 from rfl, jI_sub]
    exact w241_18_s (k7 := fun z0 z1 z2 => w241_7 (p + 1) z0 z1 z2 P) hL0 hR ga gb (by omega) (fun M' h' => ih M' (by omega) h') (wn b) M (Nat.le_refl _) ⟨h.1, fun i' j' h1 h2 h3 => h.2 i' j' h1 h2 (by omega)⟩
theorem w241_s {M : MM} {a b : WY} {P : Int32 → MM → Prop} (hL : Lay M) (hR : RAB M a b) (ga : gW a) (gb : gW b) (hX : ∀ M', KI M a b 0 0 M' → P (jI (hv a b 0 0)) M') : w241 203 M P := by
  refine ⟨kd_203 hL, wn a + 1, ?_⟩
  rw [hR.1, show (1 : Int32) = jI 1 from rfl, jI_sub]
  exact w241_7_s hL hR ga gb hX (wn a) M (Nat.le_refl _) ⟨Fr_r, fun i' j' h1 h2 h3 => absurd h3 (by omega)⟩
theorem hv_le {a b : WY} {n d : Int} (ga : gW a) (gb : gW b) (hd : 0 < d) (h : hv a b 0 0 * d ≤ n) : gN (geo a b n d) 0 0 = true ∧ gN (geo a b n d) (wn a - 1) (wn b - 1) = true := by
  have a1 := ga.1
  have b1 := gb.1
  have h0 := hv_0 a b 0 0
  have h9 := hv_9 (a := a) (b := b) _ 0 0 (Nat.le_refl _) (by omega) (by omega)
  exact ⟨decide_eq_true (Int.le_trans (Int.mul_le_mul_of_nonneg_right h0 (by omega)) h), decide_eq_true (Int.le_trans (Int.mul_le_mul_of_nonneg_right h9 (by omega)) h)⟩
theorem w239_2 {M : MM} {a b : WY} {n d : Int} {P : Int32 → MM → Prop} (hL : Lay M) (hR : RAB M a b) (hD : REd M n d) (ga : gW a) (gb : gW b) (hE : gE n d) (hX : ∀ M', Fr sHp M M' → P (bI (decide (hv a b 0 0 * d ≤ n))) M') : w239 203 2 M P := by
  have a1 := ga.1
  have b1 := gb.1
  have hz := hv_z ga gb (show 0 < wn a by omega) (show 0 < wn b by omega)
  refine ⟨kd_203 hL, w240_s hL hR hD ga gb hE ?_⟩
  cases h09 : (gN (geo a b n d) 0 0 && gN (geo a b n d) (wn a - 1) (wn b - 1)) with
  | false =>
    have e : decide (hv a b 0 0 * d ≤ n) = false := decide_eq_false (fun z => by
      have := hv_le ga gb hE.2.2.1 z
      rw [this.1, this.2] at h09; cases h09)
    have := hX M Fr_r
    rw [e] at this
    exact br_f (by decide) this
  | true =>
    refine br_t (by decide) (br_f (fun z => z rfl) ⟨kd_203 hL, w241_s hL hR ga gb (fun M' h' => ?_)⟩)
    have hL' := h'.1.1 hL
    have hD' : REd M' n d := REd_fr h'.1 (sHp_f (by omega)) (sHp_f (by omega)) hD
    exact ⟨kd_203 hL', w232_s hL' hD' hE hz.1 hz.2 ⟨bI_01 _, hX M' h'.1⟩⟩
