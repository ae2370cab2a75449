/-! WEAK: the reference's rounds -/
theorem sSw_f {x k : Nat} (h : x ≠ 225) : sSw x k = false := sB_f (by omega) (by omega)
theorem fr214 {M0 M1 M : MM} {a b : WY} {n d : Int} {l : Bool} {i j : Nat} (h : FAll M0 a b n d M1) (hF : Fr sSw M1 M) (hs : isSd a b l i j) : mI M 214 (sX l i j) = bI (gF (geo a b n d) l i j) := by
  rw [Fr_I hF (sSw_f (by omega)), (h.2.2.1 l i j hs).1]
  cases l <;> rfl
theorem w242_125_s {M0 M1 M : MM} {a b : WY} {n d : Int} {i j : Nat} {f0 f : Nat → Nat → Bool} {fl : Bool} {k35 : Nat → Int32 → MM → Prop} {k43 : Nat → Int32 → Int32 → MM → Prop} {k55 : Nat → Int32 → Int32 → Int32 → MM → Prop} {P : Int32 → MM → Prop} (hL1 : Lay M1) (hR : RAB M1 a b) (hA : FAll M0 a b n d M1) (ga : gW a) (gb : gW b) (hi : i + 1 < wn a) (hj : j + 1 < wn b)
    (h : RV M1 (wn a) (wn b) (geo a b n d) f0 M fl f (dnE i j true)) (hX : ∀ M' fl' f', RV M1 (wn a) (wn b) (geo a b n d) f0 M' fl' f' (dnE i (j + 1) false) → k55 203 (bI fl') (jI (i : Int)) (jI ((j + 1 : Nat) : Int)) M') : w242_125 k35 k43 k55 203 (bI fl) (jI (i : Int)) (jI (j : Int)) M P := by
  have a2 := ga.2.1
  have b2 := gb.2.1
  have hL := h.1.1 hL1
  have e28 : mI M 203 28 = jI (wn b : Int) := (Fr_I h.1 (sSw_f (by omega))).trans hR.2.1
  have nx : ∀ M' fl' f', RV M1 (wn a) (wn b) (geo a b n d) f0 M' fl' f' (dnE i (j + 1) false) → w242_184 k35 k43 k55 203 (bI fl') (jI (i : Int)) (jI (j : Int)) M' P := fun M' fl' f' hy => by
    have := hX M' fl' f' hy
    unfold w242_184
    rw [show (1 : Int32) = jI 1 from rfl, jI_add, c_s1]
    exact this
  have ej : jI (j : Int) + 1 = jI ((j + 1 : Nat) : Int) := by rw [show (1 : Int32) = jI 1 from rfl, jI_add, c_s1]
  have skip : (∀ i' j', dnE i (j + 1) false false i' j' → j' + 2 < wn b → gF (geo a b n d) false i' (j' + 1) = true → dnE i j true false i' j') → RV M1 (wn a) (wn b) (geo a b n d) f0 M fl f (dnE i (j + 1) false) := fun hh =>
    ⟨h.1, h.2.1, SV_k h.2.2.1 (fun i' j' q _ _ => by unfold dnE at *; simp only [Bool.false_eq_true, and_true, and_false, or_false, true_and] at q ⊢; omega) hh, h.2.2.2.1, h.2.2.2.2⟩
  refine ⟨kd_203 hL, ?_⟩
  rw [ej, e28, show (1 : Int32) = jI 1 from rfl, jI_sub, jI_le (by omega) (by omega) (by omega) (by omega)]
  refine ⟨fun z => nx _ _ _ (skip (fun i' j' q q2 _ => ?_)), fun z => ⟨kd_203 hL, ?_⟩⟩
  · unfold dnE at *; simp only [Bool.false_eq_true, and_true, and_false, false_and, or_false, true_and] at q ⊢; omega
  · have hsd : isSd a b false i (j + 1) := ⟨by omega, by omega⟩
    have hs8 := sX_lt ga gb hsd
    refine w218_s (l := false) ⟨214, rf_203_34 hL, i214 hL hs8, ?_⟩
    rw [jI_cn (by omega), fr214 hA h.1 hsd]
    cases hf : gF (geo a b n d) false i (j + 1) with
    | false =>
      refine br_t rfl (nx _ _ _ (skip (fun i' j' q q2 q3 => ?_)))
      unfold dnE at *; simp only [Bool.false_eq_true, and_true, and_false, false_and, or_false, true_and] at q ⊢
      by_cases e : i' = i ∧ j' = j
      · rw [e.1, e.2, hf] at q3; cases q3
      · omega
    | true =>
      refine br_f (by decide) ⟨kd_203 hL, ?_⟩
      rw [show (8 : Int32) * jI (i : Int) + jI (j : Int) = jI ((8 * i + j : Nat) : Int) by rw [show (8 : Int32) = jI 8 from rfl, jI_mul, jI_add]; congr 1, show jI ((8 * i + j : Nat) : Int) + jI 1 = jI ((8 * i + (j + 1) : Nat) : Int) by rw [jI_add]; congr 1]
      refine w243_s hL h.2.1 (by omega) (by omega) (by omega) (by omega) (fun M' hF hm => ?_)
      have hS : SV (wn a) (wn b) (geo a b n d) f0 (jf f i j i (j + 1)) (dnE i (j + 1) false) := SV_f h.2.2.1 hi (by omega) hf (fun l i' j' q => by
        unfold dnE at *
        cases l with
        | true => simp only [Bool.false_eq_true, and_true, and_false, or_false, true_and] at q ⊢; omega
        | false => simp only [Bool.false_eq_true, and_true, and_false, false_and, or_false, true_and] at q ⊢; omega)
      have h' := RV_j h hF hm hS (by omega) (by omega) (by omega) (by omega)
      have fin := nx _ _ _ h'
      cases e1 : (f i j != f i (j + 1)) with
      | true => rw [e1] at fin; exact br_t (by decide) fin
      | false =>
        rw [e1, Bool.false_or] at fin
        refine br_f (by decide) ?_
        cases fl with
        | false => exact br_t rfl fin
        | true => exact br_f (by decide) fin
theorem w242_55_s {M0 M1 : MM} {a b : WY} {n d : Int} {i : Nat} {f0 : Nat → Nat → Bool} {k35 : Nat → Int32 → MM → Prop} {k43 : Nat → Int32 → Int32 → MM → Prop} {P : Int32 → MM → Prop} (hL1 : Lay M1) (hR : RAB M1 a b) (hA : FAll M0 a b n d M1) (ga : gW a) (gb : gW b) (hi : i + 1 < wn a)
    (hX : ∀ M' fl' f', RV M1 (wn a) (wn b) (geo a b n d) f0 M' fl' f' (dnE (i + 1) 0 false) → k43 203 (bI fl') (jI ((i + 1 : Nat) : Int)) M') :
    ∀ (q j : Nat) (M : MM) (fl : Bool) (f : Nat → Nat → Bool), j + q + 1 = wn b → RV M1 (wn a) (wn b) (geo a b n d) f0 M fl f (dnE i j false) → w242_55 k35 k43 (q + 1) 203 (bI fl) (jI (i : Int)) (jI (j : Int)) M P := by
  have a2 := ga.2.1
  have b2 := gb.2.1
  have ei : jI (i : Int) + 1 = jI ((i + 1 : Nat) : Int) := by rw [show (1 : Int32) = jI 1 from rfl, jI_add, c_s1]
  intro q
  induction q with
  | zero =>
    intro j M fl f hj h
    have hL := h.1.1 hL1
    have e28 : mI M 203 28 = jI (wn b : Int) := (Fr_I h.1 (sSw_f (by omega))).trans hR.2.1
    refine ⟨kd_203 hL, br_t ?_ ?_⟩
    · rw [e28, show (1 : Int32) = jI 1 from rfl, jI_sub, jI_le (by omega) (by omega) (by omega) (by omega)]; omega
    · rw [ei]
      refine hX M fl f ⟨h.1, h.2.1, ⟨h.2.2.1.1, h.2.2.1.2.1, fun i' j' d1 d2 d3 d4 d5 => h.2.2.1.2.2.1 i' j' ?_ d2 d3 d4 d5, fun i' j' d1 d2 d3 d4 d5 => h.2.2.1.2.2.2 i' j' ?_ d2 d3 d4 d5⟩, h.2.2.2⟩
      · unfold dnE at *; simp only [Bool.false_eq_true, and_true, and_false, or_false, true_and] at d1 ⊢; omega
      · unfold dnE at *; simp only [Bool.false_eq_true, and_true, and_false, false_and, or_false, true_and] at d1 ⊢; omega
  | succ q ih =>
    intro j M fl f hj h
    have hL := h.1.1 hL1
    have e28 : mI M 203 28 = jI (wn b : Int) := (Fr_I h.1 (sSw_f (by omega))).trans hR.2.1
    have e27 : mI M 203 27 = jI (wn a : Int) := (Fr_I h.1 (sSw_f (by omega))).trans hR.1
    have g : ∀ M' fl' f', RV M1 (wn a) (wn b) (geo a b n d) f0 M' fl' f' (dnE i j true) → w242_125 k35 k43 (fun z0 z1 z2 z3 z4 => w242_55 k35 k43 (q + 1) z0 z1 z2 z3 z4 P) 203 (bI fl') (jI (i : Int)) (jI (j : Int)) M' P := fun M' fl' f' hy => w242_125_s hL1 hR hA ga gb hi (by omega) hy (fun M' fl' f' hz => ih (j + 1) M' fl' f' (by omega) hz)
    have skip : (∀ i' j', dnE i j true true i' j' → i' + 2 < wn a → gF (geo a b n d) true (i' + 1) j' = true → dnE i j false true i' j') → RV M1 (wn a) (wn b) (geo a b n d) f0 M fl f (dnE i j true) := fun hh =>
      ⟨h.1, h.2.1, SV_k h.2.2.1 hh (fun i' j' q _ _ => by unfold dnE at *; simp only [Bool.false_eq_true, and_true, and_false, false_and, or_false, true_and] at q ⊢; omega), h.2.2.2.1, h.2.2.2.2⟩
    refine ⟨kd_203 hL, br_f ?_ ⟨kd_203 hL, ?_⟩⟩
    · rw [e28, show (1 : Int32) = jI 1 from rfl, jI_sub, jI_le (by omega) (by omega) (by omega) (by omega)]; omega
    rw [ei, e27, show (1 : Int32) = jI 1 from rfl, jI_sub, jI_le (by omega) (by omega) (by omega) (by omega)]
    refine ⟨fun z => g _ _ _ (skip (fun i' j' q q2 _ => ?_)), fun z => ⟨kd_203 hL, ?_⟩⟩
    · unfold dnE at *; simp only [Bool.false_eq_true, and_true, and_false, or_false, true_and] at q ⊢; omega
    · have hsd : isSd a b true (i + 1) j := ⟨by omega, by omega⟩
      have hs8 := sX_lt ga gb hsd
      refine w218_s (l := true) ⟨214, rf_203_34 hL, i214 hL hs8, ?_⟩
      rw [jI_cn (by omega), fr214 hA h.1 hsd]
      cases hf : gF (geo a b n d) true (i + 1) j with
      | false =>
        refine br_t rfl (g _ _ _ (skip (fun i' j' q q2 q3 => ?_)))
        unfold dnE at *; simp only [Bool.false_eq_true, and_true, and_false, or_false, true_and] at q ⊢
        by_cases e : i' = i ∧ j' = j
        · rw [e.1, e.2, hf] at q3; cases q3
        · omega
      | true =>
        refine br_f (by decide) ⟨kd_203 hL, ?_⟩
        rw [show (8 : Int32) * jI (i : Int) + jI (j : Int) = jI ((8 * i + j : Nat) : Int) by rw [show (8 : Int32) = jI 8 from rfl, jI_mul, jI_add]; congr 1, show (8 : Int32) * jI (i : Int) + 8 + jI (j : Int) = jI ((8 * (i + 1) + j : Nat) : Int) by rw [show (8 : Int32) = jI 8 from rfl, jI_mul, jI_add, jI_add]; congr 1]
        refine w243_s hL h.2.1 (by omega) (by omega) (by omega) (by omega) (fun M' hF hm => ?_)
        have hS : SV (wn a) (wn b) (geo a b n d) f0 (jf f i j (i + 1) j) (dnE i j true) := SV_t h.2.2.1 (by omega) (by omega) hf (fun l i' j' q => by
          unfold dnE at *
          cases l with
          | true => simp only [Bool.false_eq_true, and_true, and_false, or_false, true_and] at q ⊢; omega
          | false => simp only [Bool.false_eq_true, and_true, and_false, false_and, or_false, true_and] at q ⊢; omega)
        have h' := RV_j h hF hm hS (by omega) (by omega) (by omega) (by omega)
        have fin := g _ _ _ h'
        cases e1 : (f i j != f (i + 1) j) with
        | true => rw [e1] at fin; exact br_t (by decide) fin
        | false =>
          rw [e1, Bool.false_or] at fin
          refine br_f (by decide) ?_
          cases fl with
          | false => exact br_t rfl fin
          | true => exact br_f (by decide) fin
theorem w242_43_s {M0 M1 : MM} {a b : WY} {n d : Int} {f0 : Nat → Nat → Bool} {k35 : Nat → Int32 → MM → Prop} {P : Int32 → MM → Prop} (hL1 : Lay M1) (hR : RAB M1 a b) (hA : FAll M0 a b n d M1) (ga : gW a) (gb : gW b)
    (hX : ∀ M' fl' f', RV M1 (wn a) (wn b) (geo a b n d) f0 M' fl' f' allD → k35 203 (bI fl') M') :
    ∀ (q i : Nat) (M : MM) (fl : Bool) (f : Nat → Nat → Bool), i + q + 1 = wn a → RV M1 (wn a) (wn b) (geo a b n d) f0 M fl f (dnE i 0 false) → w242_43 k35 (q + 1) 203 (bI fl) (jI (i : Int)) M P := by
  have a2 := ga.2.1
  have b1 := gb.1
  intro q
  induction q with
  | zero =>
    intro i M fl f hi h
    have hL := h.1.1 hL1
    have e27 : mI M 203 27 = jI (wn a : Int) := (Fr_I h.1 (sSw_f (by omega))).trans hR.1
    refine ⟨kd_203 hL, br_t ?_ (hX M fl f ⟨h.1, h.2.1, ⟨h.2.2.1.1, h.2.2.1.2.1, fun i' j' d1 d2 d3 d4 d5 => h.2.2.1.2.2.1 i' j' (Or.inl (by omega)) d2 d3 d4 d5, fun i' j' d1 d2 d3 d4 d5 => h.2.2.1.2.2.2 i' j' (Or.inl (by omega)) d2 d3 d4 d5⟩, h.2.2.2⟩)⟩
    rw [e27, show (1 : Int32) = jI 1 from rfl, jI_sub, jI_le (by omega) (by omega) (by omega) (by omega)]; omega
  | succ q ih =>
    intro i M fl f hi h
    have hL := h.1.1 hL1
    have e27 : mI M 203 27 = jI (wn a : Int) := (Fr_I h.1 (sSw_f (by omega))).trans hR.1
    refine ⟨kd_203 hL, br_f ?_ ⟨wn b - 1 + 1, ?_⟩⟩
    · rw [e27, show (1 : Int32) = jI 1 from rfl, jI_sub, jI_le (by omega) (by omega) (by omega) (by omega)]; omega
    · exact w242_55_s (k35 := k35) (k43 := fun z0 z1 z2 z3 => w242_43 k35 (q + 1) z0 z1 z2 z3 P) hL1 hR hA ga gb (by omega) (fun M' fl' f' hy => ih (i + 1) M' fl' f' (by omega) hy) (wn b - 1) 0 M fl f (by omega) h
