/-! ===== ENOUGH by WALK: both sides ===== -/
theorem srv_e (an bn : Nat) (G : GG) : srv an bn G = (gN G 0 0 && gN G (an - 1) (bn - 1) && Rc G (an - 2) (bn - 2)) := rfl
theorem te_near {a b : WY} {n d : Int} (ga : gW a) : teB (eL a (wn a - 2)) n d (eF a (wn a - 2) b (wn b - 1)) (eS a (wn a - 2) b (wn b - 1)) = gN (geo a b n d) (wn a - 1) (wn b - 1) := by
  have := ga.1
  show decide ((eS a (wn a - 2) b (wn b - 1) - 2 * eF a (wn a - 2) b (wn b - 1) + eL a (wn a - 2)) * d ≤ n) = decide (qd a (wn a - 1) b (wn b - 1) * d ≤ n)
  rw [eE, qd_sym, show wn a - 2 + 1 = wn a - 1 by omega]
theorem w100_s {M : MM} {a b : WY} {n d : Int} {P : Int32 → MM → Prop} (hL : Lay M) (hM : MS M a b n d) (ga : gW a) (gb : gW b) (hP : P (bI (srv (wn a) (wn b) (geo a b n d))) M) : w100 59 0 M P := by
  have a1 := ga.1
  have a2 := ga.2.1
  have b1 := gb.1
  have b2 := gb.2.1
  rw [srv_e] at hP
  have q0 := (hM.2.2.2 0 0 (by omega) (by omega)).1
  have q9 := (hM.2.2.2 (wn a - 2) (wn b - 1) (by omega) (by omega)).1
  have hk0 : kd M (oL 0 0) 7 := kd_S hL (by omega)
  have hk9 : kd M (oL (wn a - 2) (wn b - 1)) 7 := kd_S hL (by omega)
  refine ⟨kd_59 hL, w82_s (i := 0) (j := 0) hL (by omega) ⟨oL 0 0, rfl, hk0, ?_⟩⟩
  have e0 : mI M (oL 0 0) 7 = bI (gN (geo a b n d) 0 0) := by
    rw [q0.2.2.2.1]
    show bI (decide (qd b 0 a 0 * d ≤ n)) = bI (decide (qd a 0 b 0 * d ≤ n))
    rw [qd_sym]
  rw [e0]
  cases h0 : gN (geo a b n d) 0 0 with
  | false =>
    rw [h0] at hP
    exact br_t rfl hP
  | true =>
    rw [h0, Bool.true_and] at hP
    refine br_f (by decide) ⟨kd_59 hL, kd_59 hL, kd_59 hL, ?_⟩
    rw [hM.1, hM.2.1]
    rw [show jI ((wn a : Int) - 1) - 1 = jI ((wn a - 2 : Nat) : Int) by rw [show (1 : Int32) = jI 1 from rfl, jI_sub]; congr 1; omega, show ((wn b : Int) - 1) = ((wn b - 1 : Nat) : Int) by omega]
    refine w82_s hL (by omega) ⟨_, rfl, hk9, ?_⟩
    rw [q9.2.2.2.2.1, te_near ga]
    cases h9 : gN (geo a b n d) (wn a - 1) (wn b - 1) with
    | false =>
      rw [h9] at hP
      exact br_f (by decide) hP
    | true =>
      rw [h9, Bool.true_and] at hP
      refine br_t (by decide) (br_t (by decide) ⟨kd_59 hL, kd_59 hL, kd_59 hL, ?_⟩)
      rw [hM.1, hM.2.1]
      rw [show jI ((wn a : Int) - 1) - 1 = jI ((wn a - 2 : Nat) : Int) by rw [show (1 : Int32) = jI 1 from rfl, jI_sub]; congr 1; omega, show jI ((wn b : Int) - 1) - 1 = jI ((wn b - 2 : Nat) : Int) by rw [show (1 : Int32) = jI 1 from rfl, jI_sub]; congr 1; omega]
      exact w104_s hL hM ga gb (by omega) (by omega) ⟨bI_01 _, hP⟩
theorem w240_s {M : MM} {a b : WY} {n d : Int} {P : Int32 → MM → Prop} (hL : Lay M) (hR : RAB M a b) (hD : REd M n d) (ga : gW a) (gb : gW b) (hE : gE n d) (hP : P (bI (gN (geo a b n d) 0 0 && gN (geo a b n d) (wn a - 1) (wn b - 1))) M) : w240 203 M P := by
  have a1 := ga.1
  have a2 := ga.2.1
  have b1 := gb.1
  have b2 := gb.2.1
  have q0 := qd_b ga gb (i := 0) (j := 0) (by omega) (by omega)
  have q9 := qd_b ga gb (i := wn a - 1) (j := wn b - 1) (by omega) (by omega)
  unfold w240 w240_40 w240_41
  refine ⟨kd_203 hL, w231_s (i := 0) (j := 0) hL hR ga gb (by omega) (by omega) ⟨kd_203 hL, w232_s hL hD hE q0.1 q0.2 ?_⟩⟩
  rw [show bI (decide (qd a 0 b 0 * d ≤ n)) = bI (gN (geo a b n d) 0 0) from rfl]
  cases h0 : gN (geo a b n d) 0 0 with
  | false =>
    rw [h0] at hP
    exact br_t rfl ⟨Or.inl rfl, hP⟩
  | true =>
    rw [h0, Bool.true_and] at hP
    refine br_f (by decide) ⟨kd_203 hL, kd_203 hL, kd_203 hL, ?_⟩
    rw [hR.1, hR.2.1]
    rw [show jI (wn a : Int) - 1 = jI ((wn a - 1 : Nat) : Int) by rw [show (1 : Int32) = jI 1 from rfl, jI_sub]; congr 1; omega, show jI (wn b : Int) - 1 = jI ((wn b - 1 : Nat) : Int) by rw [show (1 : Int32) = jI 1 from rfl, jI_sub]; congr 1; omega]
    refine w231_s hL hR ga gb (by omega) (by omega) ⟨kd_203 hL, w232_s hL hD hE q9.1 q9.2 ?_⟩
    rw [show bI (decide (qd a (wn a - 1) b (wn b - 1) * d ≤ n)) = bI (gN (geo a b n d) (wn a - 1) (wn b - 1)) from rfl]
    cases h9 : gN (geo a b n d) (wn a - 1) (wn b - 1) with
    | false =>
      rw [h9] at hP
      exact br_t rfl ⟨Or.inl rfl, hP⟩
    | true =>
      rw [h9] at hP
      exact br_f (by decide) ⟨Or.inr rfl, hP⟩
theorem w239_0 {M : MM} {a b : WY} {n d : Int} {P : Int32 → MM → Prop} (hL : Lay M) (hR : RAB M a b) (hD : REd M n d) (ga : gW a) (gb : gW b) (hE : gE n d) (hX : ∀ M', Fr sFA M M' → (srv (wn a) (wn b) (geo a b n d) = true → RST M a b n d (lG (geo a b n d)) M') → P (bI (srv (wn a) (wn b) (geo a b n d))) M') : w239 203 0 M P := by
  have a1 := ga.1
  have a2 := ga.2.1
  have b1 := gb.1
  have b2 := gb.2.1
  rw [srv_e] at hX
  refine ⟨kd_203 hL, w240_s hL hR hD ga gb hE ?_⟩
  unfold w239_85 w239_90
  cases h09 : (gN (geo a b n d) 0 0 && gN (geo a b n d) (wn a - 1) (wn b - 1)) with
  | false =>
    rw [h09] at hX
    exact br_f (by decide) (hX M Fr_r (fun z => by cases z))
  | true =>
    rw [h09, Bool.true_and] at hX
    refine br_t (by decide) (br_t (by decide) (br_t (by decide) ⟨kd_203 hL, w230_s hL hR hD ga gb hE (fun M1 h1 => ?_)⟩))
    have hL1 := h1.1.1 hL
    have hR1 := RAB_A h1.1 hR
    have sdF : isSd a b true (wn a - 2) (wn b - 2) := ⟨by omega, by omega⟩
    have sdW : isSd a b false (wn a - 2) (wn b - 2) := ⟨by omega, by omega⟩
    have rF : mI M1 215 (sX true (wn a - 2) (wn b - 2)) = bI (lf (geo a b n d) (wn a - 2) (wn b - 2)).isSome := rl_some (h1.2.2.2 _ _ _ sdF)
    have rW : mI M1 215 (sX false (wn a - 2) (wn b - 2)) = bI (lw (geo a b n d) (wn a - 2) (wn b - 2)).isSome := rl_some (h1.2.2.2 _ _ _ sdW)
    have ea : mI M1 203 27 - 2 = jI ((wn a - 2 : Nat) : Int) := by rw [hR1.1, show (2 : Int32) = jI 2 from rfl, jI_sub]; congr 1; omega
    have eb : mI M1 203 28 - 2 = jI ((wn b - 2 : Nat) : Int) := by rw [hR1.2.1, show (2 : Int32) = jI 2 from rfl, jI_sub]; congr 1; omega
    refine ⟨kd_203 hL1, kd_203 hL1, kd_203 hL1, ?_⟩
    rw [ea, eb]
    refine w218_s (l := true) ⟨215, rf_203_35 hL1, i215 hL1 (sX_lt ga gb sdF), ?_⟩
    rw [jI_cn (by have := sX_lt ga gb sdF; omega), rF]
    cases c1 : (lf (geo a b n d) (wn a - 2) (wn b - 2)).isSome with
    | true =>
      have e : Rc (geo a b n d) (wn a - 2) (wn b - 2) = true := by unfold Rc; rw [c1]; rfl
      rw [e] at hX
      exact br_t (by decide) ⟨Or.inr rfl, hX M1 h1.1 (fun _ => h1)⟩
    | false =>
      refine br_f (by decide) ⟨kd_203 hL1, kd_203 hL1, kd_203 hL1, ?_⟩
      rw [ea, eb]
      refine w218_s (l := false) ⟨215, rf_203_35 hL1, i215 hL1 (sX_lt ga gb sdW), ?_⟩
      rw [jI_cn (by have := sX_lt ga gb sdW; omega), rW]
      cases c2 : (lw (geo a b n d) (wn a - 2) (wn b - 2)).isSome with
      | true =>
        have e : Rc (geo a b n d) (wn a - 2) (wn b - 2) = true := by unfold Rc; rw [c1, c2]; rfl
        rw [e] at hX
        exact br_f (by decide) ⟨Or.inr rfl, hX M1 h1.1 (fun _ => h1)⟩
      | false =>
        have e : Rc (geo a b n d) (wn a - 2) (wn b - 2) = false := by unfold Rc; rw [c1, c2]; rfl
        rw [e] at hX
        exact br_t rfl ⟨Or.inl rfl, hX M1 h1.1 (fun _ => h1)⟩
/-! THE WALK, step by step from behind -/
def wst (G : GG) (s : Nat × Nat × Bool) : Nat × Nat × Bool :=
  if s.2.1 = 0 ∨ (0 < s.1 ∧ (if s.2.2 = true then (lf G s.1 s.2.1).isSome else !(lw G s.1 s.2.1).isSome) = true) then (s.1 - 1, s.2.1, false) else (s.1, s.2.1 - 1, true)
def stA (G : GG) (A B : Nat) : Nat → Nat × Nat × Bool
  | 0 => (A, B, true)
  | t + 1 => wst G (stA G A B t)
theorem stA_b (G : GG) (A B : Nat) : ∀ t, t ≤ A + B → (stA G A B t).1 + (stA G A B t).2.1 = A + B - t ∧ (stA G A B t).1 ≤ A ∧ (stA G A B t).2.1 ≤ B
  | 0, _ => ⟨by show A + B = A + B - 0; omega, Nat.le_refl _, Nat.le_refl _⟩
  | t + 1, h => by
    have q := stA_b G A B t (by omega)
    show (wst G (stA G A B t)).1 + (wst G (stA G A B t)).2.1 = A + B - (t + 1) ∧ (wst G (stA G A B t)).1 ≤ A ∧ (wst G (stA G A B t)).2.1 ≤ B
    unfold wst
    by_cases c : (stA G A B t).2.1 = 0 ∨ (0 < (stA G A B t).1 ∧ (if (stA G A B t).2.2 = true then (lf G (stA G A B t).1 (stA G A B t).2.1).isSome else !(lw G (stA G A B t).1 (stA G A B t).2.1).isSome) = true)
    · rw [if_pos c]; dsimp only
      rcases c with c | c <;> omega
    · rw [if_neg c]; dsimp only
      have : (stA G A B t).2.1 ≠ 0 := fun z => c (Or.inl z)
      omega
