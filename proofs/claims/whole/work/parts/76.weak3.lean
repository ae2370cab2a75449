/-! WEAK: the class's rounds -/
theorem w101_56_s {M : MM} {a b : WY} {n d : Int} {i : Nat} {x0 l1 : Int64} {l7 : Int32} {k24 : Nat → Int64 → Int64 → Int64 → Int32 → MM → Prop} {k44 : Nat → Int64 → Int64 → Int64 → Int32 → Int32 → MM → Prop} {P : Int32 → MM → Prop} (hL : Lay M) (hM : MS M a b n d) (ga : gW a) (gb : gW b) (hi : i + 1 < wn a)
    (hX : ∀ y, SW (wn a) (wn b) (geo a b n d) x0 y (dnE (i + 1) 0 false) → k44 59 l1 y x0 l7 (jI ((i + 1 : Nat) : Int)) M) :
    ∀ (q j : Nat) (x : Int64), j + q + 1 = wn b → SW (wn a) (wn b) (geo a b n d) x0 x (dnE i j false) → w101_56 k24 k44 (q + 1) 59 l1 x x0 l7 (jI (i : Int)) (jI (j : Int)) M P := by
  have a2 := ga.2.1
  have b2 := gb.2.1
  intro q
  induction q with
  | zero =>
    intro j x hj h
    refine ⟨kd_59 hL, br_t ?_ ?_⟩
    · rw [hM.2.1, jI_le (by omega) (by omega) (by omega) (by omega)]; omega
    · rw [show (1 : Int32) = jI 1 from rfl, jI_add, c_s1]
      have hg : ∀ y, SW (wn a) (wn b) (geo a b n d) x0 y (dnE (i + 1) 0 false) → k44 59 l1 y x0 l7 (jI ((i + 1 : Nat) : Int)) M := hX
      refine hg x ⟨h.1, h.2.1, fun i' j' d1 d2 d3 d4 d5 => h.2.2.1 i' j' ?_ d2 d3 d4 d5, fun i' j' d1 d2 d3 d4 d5 => h.2.2.2 i' j' ?_ d2 d3 d4 d5⟩
      · unfold dnE at *
        simp only [Bool.false_eq_true, and_true, and_false, or_false, true_and] at d1 ⊢; omega
      · unfold dnE at *
        simp only [Bool.false_eq_true, and_true, and_false, or_false, true_and] at d1 ⊢; omega
  | succ q ih =>
    intro j x hj h
    have nx : ∀ y, SW (wn a) (wn b) (geo a b n d) x0 y (dnE i (j + 1) false) → w101_56 k24 k44 (q + 1) 59 l1 y x0 l7 (jI (i : Int)) (jI ((j + 1 : Nat) : Int)) M P := fun y hy => ih (j + 1) y (by omega) hy
    refine ⟨kd_59 hL, br_f ?_ ?_⟩
    · rw [hM.2.1, jI_le (by omega) (by omega) (by omega) (by omega)]; omega
    have g : ∀ y, SW (wn a) (wn b) (geo a b n d) x0 y (dnE i j true) → w101_106 k24 k44 (fun z0 z1 z2 z3 z4 z5 z6 z7 => w101_56 k24 k44 (q + 1) z0 z1 z2 z3 z4 z5 z6 z7 P) 59 l1 y x0 l7 (jI (i : Int)) (jI (j : Int)) M P := fun y hy => w101_106_s hL hM ga gb hi (by omega) hy nx
    rw [show (0 : Int32) = jI 0 from rfl, jI_le (by omega) (by omega) (by omega) (by omega)]
    refine ⟨fun z => g _ (SW_k h (fun l i' j' q _ q3 _ => ?_)), fun z => ?_⟩
    · unfold dnE at *
      cases l with
      | true => have := q3 rfl; simp only [Bool.false_eq_true, and_true, and_false, or_false, true_and] at q ⊢; omega
      | false => simp only [Bool.false_eq_true, and_true, and_false, false_and, or_false, true_and] at q ⊢; omega
    · obtain ⟨i, rfl⟩ : ∃ q, i = q + 1 := ⟨i - 1, by omega⟩
      refine ⟨kd_59 hL, w83_s hL (by omega) ⟨_, rfl, kd_S hL (by omega), ?_⟩⟩
      rw [MS_fF hM (by omega) (by omega)]
      cases hf : gF (geo a b n d) true (i + 1) j with
      | false =>
        refine br_t rfl (g _ (SW_k h (fun l i' j' q q2 _ _ => ?_)))
        unfold dnE at *
        cases l with
        | false => simp only [Bool.false_eq_true, and_true, and_false, false_and, or_false, true_and] at q ⊢; omega
        | true =>
          simp only [Bool.false_eq_true, and_true, and_false, or_false, true_and] at q ⊢
          by_cases e : i' = i + 1 ∧ j' = j
          · rw [e.1, e.2, hf] at q2; cases q2
          · omega
      | true =>
        refine br_f (by decide) ?_
        rw [show jI ((i + 1 : Nat) : Int) - 1 = jI (i : Int) by rw [show (1 : Int32) = jI 1 from rfl, jI_sub]; congr 1; omega]
        refine w102_s (by omega) (by omega) (w102_s (by omega) (by omega) (w103_s (by omega) (by omega) (fun y hy => g y (SW_t (by omega) h (by omega) (by omega) hf hy (fun l i' j' q => ?_)))))
        unfold dnE at *
        cases l with
        | true => simp only [Bool.false_eq_true, and_true, and_false, or_false, true_and] at q ⊢; omega
        | false => simp only [Bool.false_eq_true, and_true, and_false, false_and, or_false, true_and] at q ⊢; omega
theorem w101_44_s {M : MM} {a b : WY} {n d : Int} {x0 l1 : Int64} {l7 : Int32} {k24 : Nat → Int64 → Int64 → Int64 → Int32 → MM → Prop} {P : Int32 → MM → Prop} (hL : Lay M) (hM : MS M a b n d) (ga : gW a) (gb : gW b)
    (hX : ∀ y, SW (wn a) (wn b) (geo a b n d) x0 y (fun _ _ _ => True) → k24 59 l1 y x0 (l7 + 1) M) :
    ∀ (q i : Nat) (x : Int64), i + q + 1 = wn a → SW (wn a) (wn b) (geo a b n d) x0 x (dnE i 0 false) → w101_44 k24 (q + 1) 59 l1 x x0 l7 (jI (i : Int)) M P := by
  have a2 := ga.2.1
  have b1 := gb.1
  have b2 := gb.2.1
  intro q
  induction q with
  | zero =>
    intro i x hi h
    refine ⟨kd_59 hL, br_t ?_ (hX x ⟨h.1, h.2.1, fun i' j' d1 d2 d3 d4 d5 => h.2.2.1 i' j' (Or.inl (by omega)) d2 d3 d4 d5, fun i' j' d1 d2 d3 d4 d5 => h.2.2.2 i' j' (Or.inl (by omega)) d2 d3 d4 d5⟩)⟩
    rw [hM.1, jI_le (by omega) (by omega) (by omega) (by omega)]; omega
  | succ q ih =>
    intro i x hi h
    refine ⟨kd_59 hL, br_f ?_ ⟨wn b - 1 + 1, ?_⟩⟩
    · rw [hM.1, jI_le (by omega) (by omega) (by omega) (by omega)]; omega
    · exact w101_56_s (k24 := k24) (k44 := fun z0 z1 z2 z3 z4 z5 z6 => w101_44 k24 (q + 1) z0 z1 z2 z3 z4 z5 z6 P) hL hM ga gb (by omega) (fun y hy => ih (i + 1) y (by omega) hy) (wn b - 1) 0 x (by omega) h
def allD : Bool → Nat → Nat → Prop := fun _ _ _ => True
theorem SW_bt {an bn : Nat} {G : GG} {x0 x : Int64} {D : Bool → Nat → Nat → Prop} (a8 : an ≤ 8) (b8 : bn ≤ 8) (h : SW an bn G x0 x D) {p : Nat} (hp : bt x p = true) : p < 49 := by
  obtain ⟨i, j, e, h1, h2, _⟩ := h.2.1 p hp
  omega
/-- a set that a whole sweep leaves alone is all that one comes to -/
theorem SW_fix {an bn : Nat} {G : GG} {x : Int64} (b8 : bn ≤ 8) (h : SW an bn G x x allD) (h0 : bt x 0 = true) {i j : Nat} (hj : j < 7) : bt x (7 * i + j) = true ↔ Sto an bn G i j := by
  constructor
  · intro q
    obtain ⟨i', j', e, e1, e2, e3⟩ := h.2.1 _ q
    obtain ⟨rfl, rfl⟩ := p7 e (by omega) (by omega)
    exact e3
  · intro q
    refine q (fun i j => bt x (7 * i + j) = true) h0 ⟨fun i j d1 d2 d3 => ⟨fun z => (h.2.2.1 i j trivial d1 d2 d3 (Or.inl z)).2, fun z => (h.2.2.1 i j trivial d1 d2 d3 (Or.inr z)).1⟩, fun i j d1 d2 d3 => ⟨fun z => (h.2.2.2 i j trivial d1 d2 d3 (Or.inl z)).2, fun z => (h.2.2.2 i j trivial d1 d2 d3 (Or.inr z)).1⟩⟩
theorem w101_165_s {M : MM} {x : Int64} {c : Nat} {P : Int32 → MM → Prop} (hc : c < 64) (hP : P (bI (bt x c)) M) : w101_165 (lN (2 ^ c)) x M P := by
  have e : (x &&& lN (2 ^ c) = 0) ↔ bt x c = false := by
    constructor
    · intro z
      have : bt (x &&& lN (2 ^ c)) c = bt 0 c := congrArg (fun v => bt v c) z
      rw [bt_and, bt_pow hc, decide_eq_true (rfl : c = c), Bool.and_true, bt_0] at this
      exact this
    · intro z
      refine bt_ext (fun q _ => ?_)
      rw [bt_and, bt_pow hc, bt_0]
      by_cases q1 : q = c
      · rw [q1, z, Bool.false_and]
      · rw [decide_eq_false q1, Bool.and_false]
  refine ⟨fun z => ⟨Or.inl rfl, ?_⟩, fun z => ⟨Or.inr rfl, ?_⟩⟩
  · rw [e.mp ((lc_eq _ _).mp z)] at hP; exact hP
  · cases hh : bt x c with
    | true => rw [hh] at hP; exact hP
    | false => exact absurd ((lc_eq _ _).mpr (e.mpr hh)) z
theorem w101_24_s {M : MM} {a b : WY} {n d : Int} {P : Int32 → MM → Prop} (hL : Lay M) (hM : MS M a b n d) (ga : gW a) (gb : gW b) (hX : ∀ e : Bool, (e = true ↔ Sto (wn a) (wn b) (geo a b n d) (wn a - 2) (wn b - 2)) → P (bI e) M) :
    ∀ (q r : Nat) (x0 x : Int64), r + q = 50 → SW (wn a) (wn b) (geo a b n d) x0 x allD → bt x 0 = true → r ≤ cdN (bt x0) 49 → w101_24 (q + 1) 59 (lN (2 ^ (7 * (wn a - 2) + (wn b - 2)))) x x0 (jI (r : Int)) M P := by
  have a1 := ga.1
  have a2 := ga.2.1
  have b1 := gb.1
  have b2 := gb.2.1
  intro q
  induction q with
  | zero =>
    intro r x0 x hr h h0 hc
    have := cdN_le (bt x0) 49
    omega
  | succ q ih =>
    intro r x0 x hr h h0 hc
    have hc49 := cdN_le (bt x0) 49
    refine br_f ?_ ⟨fun z => ?_, fun z => ⟨wn a - 1 + 1, ?_⟩⟩
    · rw [show (49 : Int32) = jI 49 from rfl, jI_lt (by omega) (by omega) (by omega) (by omega)]; omega
    · have e : x = x0 := (lc_eq _ _).mp z
      subst e
      exact w101_165_s (by omega) (hX _ (SW_fix b2 h h0 (by omega)))
    · have ne : x ≠ x0 := fun e => z ((lc_eq _ _).mpr e)
      have hlt : cdN (bt x0) 49 < cdN (bt x) 49 := by
        refine cdN_lt 49 (fun p _ => h.1 p) ?_
        refine Classical.byContradiction fun hn => ne (bt_ext (fun p _ => ?_))
        cases h1 : bt x p with
        | true =>
          cases h2 : bt x0 p with
          | true => rfl
          | false => exact absurd ⟨p, SW_bt a2 b2 h h1, h2, h1⟩ hn
        | false =>
          cases h2 : bt x0 p with
          | false => rfl
          | true => rw [h.1 p h2] at h1; cases h1
      have h' : SW (wn a) (wn b) (geo a b n d) x x (dnE 0 0 false) := ⟨fun _ q => q, h.2.1, fun i j d1 => absurd d1 (by unfold dnE; simp), fun i j d1 => absurd d1 (by unfold dnE; simp)⟩
      refine w101_44_s (k24 := fun z0 z1 z2 z3 z4 z5 => w101_24 (q + 1) z0 z1 z2 z3 z4 z5 P) hL hM ga gb (fun y hy => ?_) (wn a - 1) 0 x (by omega) h'
      show w101_24 (q + 1) 59 _ y x (jI (r : Int) + 1) M P
      rw [show (1 : Int32) = jI 1 from rfl, jI_add, c_s1]
      exact ih (r + 1) x y (by omega) hy (hy.1 0 h0) (by omega)
theorem w101_s {M : MM} {a b : WY} {n d : Int} {P : Int32 → MM → Prop} (hL : Lay M) (hM : MS M a b n d) (ga : gW a) (gb : gW b) (hX : ∀ e : Bool, (e = true ↔ Sto (wn a) (wn b) (geo a b n d) (wn a - 2) (wn b - 2)) → P (bI e) M) : w101 59 M P := by
  have a1 := ga.1
  have a2 := ga.2.1
  have b1 := gb.1
  have b2 := gb.2.1
  refine ⟨kd_59 hL, kd_59 hL, ?_⟩
  rw [hM.1, hM.2.1]
  rw [show jI ((wn a : Int) - 1) - 1 = jI ((wn a - 2 : Nat) : Int) by rw [show (1 : Int32) = jI 1 from rfl, jI_sub]; congr 1; omega, show jI ((wn b : Int) - 1) - 1 = jI ((wn b - 2 : Nat) : Int) by rw [show (1 : Int32) = jI 1 from rfl, jI_sub]; congr 1; omega]
  refine w102_s (by omega) (by omega) ⟨51, ?_⟩
  have h : SW (wn a) (wn b) (geo a b n d) 0 1 allD := by
    refine ⟨fun p q => (by rw [bt_0] at q; cases q), fun p q => ?_, fun i j _ _ _ _ z => ?_, fun i j _ _ _ _ z => ?_⟩
    · rw [bt_1] at q
      exact ⟨0, 0, by rw [of_decide_eq_true q], by omega, by omega, Sto_0⟩
    · rw [bt_0, bt_0] at z; rcases z with z | z <;> cases z
    · rw [bt_0, bt_0] at z; rcases z with z | z <;> cases z
  exact w101_24_s hL hM ga gb hX 50 0 0 1 (by omega) h (by rw [bt_1]; rfl) (by omega)
