/-! ===== reachesAll ===== -/
def pF (a b : WY) (l : Bool) (i j k : Nat) : Int := if l = true then eF b j a k else eF a i b k
def pS (a b : WY) (l : Bool) (i j k : Nat) : Int := if l = true then eS b j a k else eS a i b k
def RST (M0 : MM) (a b : WY) (n d : Int) (lv : Bool → Nat → Nat → Option Nat) (M : MM) : Prop :=
  Fr sFA M0 M ∧ (∀ l i j, isSd a b l i j → rfS M (sX l i j) (xL a b l i j) (xF a b l i j) (xS a b l i j) n d) ∧
  (∀ s, s < 128 → (∀ l i j, isSd a b l i j → sX l i j ≠ s) → mI M 214 s = bI false ∧ mI M 215 s = bI false ∧ mI M 216 s = bI false) ∧
  (∀ l i j, isSd a b l i j → rlS M (sX l i j) (xL a b l i j) n d (pF a b l i j) (pS a b l i j) (lv l i j))
def uL (lv : Bool → Nat → Nat → Option Nat) (l : Bool) (i j : Nat) (r : Option Nat) : Bool → Nat → Nat → Option Nat := fun l' i' j' => if l' = l ∧ i' = i ∧ j' = j then r else lv l' i' j'
theorem RST_c {M0 M : MM} {a b : WY} {n d : Int} {lv lv' : Bool → Nat → Nat → Option Nat} (h : RST M0 a b n d lv M) (he : ∀ l i j, isSd a b l i j → lv l i j = lv' l i j) : RST M0 a b n d lv' M :=
  ⟨h.1, h.2.1, h.2.2.1, fun l i j x => by rw [← he l i j x]; exact h.2.2.2 l i j x⟩
theorem RST_0 {M0 M : MM} {a b : WY} {n d : Int} (ga : gW a) (gb : gW b) (h : FAll M0 a b n d M) : RST M0 a b n d (fun _ _ _ => none) M :=
  ⟨h.1, h.2.2.1, fun s q z => ⟨(h.2.2.2 s q z).1, h.2.1 s q, (h.2.2.2 s q z).2⟩, fun l i j x => h.2.1 _ (sX_lt ga gb x)⟩
theorem sRc_A {s x k : Nat} (h : sFA x k = false) : sRc s x k = false := sRc_f (fun z => by rw [sFA_t (by omega)] at h; cases h)
theorem rlS_fr {S : Nat → Nat → Bool} {M M' : MM} {s : Nat} {L n d : Int} {f q : Nat → Int} {r : Option Nat} (hF : Fr S M M') (hS : ∀ x, S x s = false) (h : rlS M s L n d f q r) : rlS M' s L n d f q r := by
  cases r with
  | none => exact (Fr_I hF (hS 215)).trans h
  | some k =>
    obtain ⟨h1, h2, h3, g, h4, h5⟩ := h
    exact ⟨(Fr_I hF (hS 215)).trans h1, (Fr_L hF (hS 221)).trans h2, (Fr_L hF (hS 222)).trans h3, g, (Fr_I hF (hS 223)).trans h4, h5⟩
theorem RST_u {M0 M M' : MM} {a b : WY} {n d : Int} {lv : Bool → Nat → Nat → Option Nat} {l : Bool} {i j : Nat} {r : Option Nat} (ga : gW a) (gb : gW b) (h : RST M0 a b n d lv M) (hs : isSd a b l i j) (hn : lv l i j = none) (h0 : r = none → M' = M) (h1 : ∀ k, r = some k → Fr (sRc (sX l i j)) M M' ∧ rlS M' (sX l i j) (xL a b l i j) n d (pF a b l i j) (pS a b l i j) (some k)) : RST M0 a b n d (uL lv l i j r) M' := by
  cases r with
  | none =>
    rw [h0 rfl]
    refine RST_c h (fun l' i' j' x => ?_)
    unfold uL
    by_cases e : l' = l ∧ i' = i ∧ j' = j
    · rw [if_pos e, e.1, e.2.1, e.2.2, hn]
    · rw [if_neg e]
  | some k =>
    obtain ⟨hF, hr⟩ := h1 k rfl
    refine ⟨Fr_t h.1 (Fr_w hF (fun x k q => sRc_A q)), fun l' i' j' x => ?_, fun s q z => ?_, fun l' i' j' x => ?_⟩
    · exact rfS_fr hF (fun x q1 q2 q3 q4 q5 q6 => sRc_f (by omega)) (h.2.1 l' i' j' x)
    · have z' := z l i j hs
      have := h.2.2.1 s q z
      exact ⟨(Fr_I hF (sRc_f (by omega))).trans this.1, (Fr_I hF (sRc_f (by omega))).trans this.2.1, (Fr_I hF (sRc_f (by omega))).trans this.2.2⟩
    · unfold uL
      by_cases e : l' = l ∧ i' = i ∧ j' = j
      · rw [if_pos e]
        obtain ⟨rfl, rfl, rfl⟩ := e
        exact hr
      · rw [if_neg e]
        refine rlS_fr hF (fun x' => sRc_f (fun z => e ?_)) (h.2.2.2 l' i' j' x)
        exact sX_inj ga gb x hs z.2
theorem w231_s {M : MM} {a b : WY} {i j : Nat} {P : Int32 → MM → Prop} (hL : Lay M) (hR : RAB M a b) (ga : gW a) (gb : gW b) (hi : i < wn a) (hj : j < wn b) (hP : P (jI (qd a i b j)) M) : w231 203 (jI (i : Int)) (jI (j : Int)) M P := by
  have a2 := ga.2.1
  have b2 := gb.2.1
  obtain ⟨r1, r2, r3, r4⟩ := hR
  simp (disch := omega) only [w231, w187, kd_sI, kd_sL, kd_sR, true_and, and_true, Option.some.injEq, exists_eq_left', kd_203 hL, rf_203_23 hL, rf_203_24 hL, rf_203_25 hL, rf_203_26 hL, jI_cn, i210 hL, i211 hL, i212 hL, i213 hL, fun i hi => (r3 i hi).1, fun i hi => (r3 i hi).2, fun i hi => (r4 i hi).1, fun i hi => (r4 i hi).2, jI_lit, jL_lit, jI_add, jI_sub, jI_mul, jI_neg, jL_add, jL_sub, jL_mul, jL_neg, jL_i]
  exact hP
theorem w232_s {M : MM} {x n d : Int} {P : Int32 → MM → Prop} (hL : Lay M) (hD : REd M n d) (hE : gE n d) (h0 : 0 ≤ x) (h1 : x ≤ 648) (hP : P (bI (decide (x * d ≤ n))) M) : w232 203 (jI x) M P := by
  have hE' := hE
  unfold gE at hE'
  have m1 := mul_p h0 (show 0 ≤ d by omega)
  have m2 := mul_mono h1 (show d ≤ 1679616 by omega) (by omega) (by omega)
  have hQ : ∀ r : Int, (r = if x * d ≤ n then 1 else 0) → P (jI r) M := fun r e => by rw [bI_j] at hP; rw [e]; simpa only [decide_eq_true_eq] using hP
  simp (disch := omega) only [w232, w232_20, kd_sI, kd_sL, kd_sR, true_and, and_true, Option.some.injEq, exists_eq_left', kd_203 hL, hD.1, hD.2, lc_le, lc_ge, lc_lt, lc_gt, lc_eq, ne_eq, jI_lit, jL_lit, jI_add, jI_sub, jI_mul, jI_neg, jL_add, jL_sub, jL_mul, jL_neg, jL_i, jI_eq, jI_le, jI_lt, jL_eq, jL_le, jL_lt, jI_l, true_or, or_true, not_true_eq_false, not_false_eq_true]
  exact And.intro (fun _ => hQ _ (by omega)) (fun _ => hQ _ (by omega))
theorem rl_rim {M : MM} {a b : WY} {n d : Int} {l : Bool} {i j : Nat} (h : fsB n d (pS a b l i j 0) = true) : rlS (rcM M (sX l i j) 0 1 0) (sX l i j) (xL a b l i j) n d (pF a b l i j) (pS a b l i j) (some 0) := by
  have := rlS_rc (M := M) (s := sX l i j) (k := 0) (L := xL a b l i j) (n := n) (d := d) (g := 1) (f := pF a b l i j) (q := pS a b l i j) (Or.inr ⟨rfl, h⟩)
  rw [if_pos h, if_pos h] at this
  exact this
def rmS (G : GG) (i j : Nat) : Bool → Nat → Nat → Option Nat := fun l i' j' => if l = false ∧ j' = 0 ∧ i' < i ∧ rimB G i' = true then some 0 else if l = true ∧ i' = 0 ∧ j' < j ∧ rimL G j' = true then some 0 else none
theorem w230_22_s {M0 : MM} {a b : WY} {n d : Int} {P : MM → Prop} (hL0 : Lay M0) (hR : RAB M0 a b) (hD : REd M0 n d) (ga : gW a) (gb : gW b) (hE : gE n d) (hX : ∀ M', RST M0 a b n d (rmS (geo a b n d) (wn a - 1) 0) M' → ∃ n2, w230_82 n2 203 (jI 1) (jI 0) M' P) :
    ∀ (q i : Nat) (z : Bool) (M : MM), i + q + 1 = wn a → (z = true ↔ ∀ k, k < i → gN (geo a b n d) k 0 = true) → RST M0 a b n d (rmS (geo a b n d) i 0) M → w230_22 (q + 1) 203 (bI z) (jI (i : Int)) M P := by
  have a2 := ga.2.1
  have b1 := gb.1
  intro q
  induction q with
  | zero =>
    intro i z M hi hz hS
    have hL := hS.1.1 hL0
    refine ⟨kd_203 hL, ?_⟩
    rw [(RAB_A hS.1 hR).1]
    simp (disch := omega) only [jI_lit, jL_lit, jI_add, jI_sub, jI_mul, jI_neg, jL_add, jL_sub, jL_mul, jL_neg, jL_i, jI_eq, jI_le, jI_lt, jL_eq, jL_le, jL_lt, jI_l]
    refine br_t (by omega) (hX M ?_)
    rw [show wn a - 1 = i by omega]; exact hS
  | succ q ih =>
    intro i z M hi hz hS
    have hL := hS.1.1 hL0
    have hR' := RAB_A hS.1 hR
    have hD' := REd_A hS.1 hD
    have hsd : isSd a b false i 0 := ⟨by omega, by omega⟩
    -- one that stays as it was
    have stay : ¬ rimB (geo a b n d) i = true → RST M0 a b n d (rmS (geo a b n d) (i + 1) 0) M := fun hr => RST_c hS (fun l' i' j' x => by
      unfold rmS
      by_cases e : l' = false ∧ j' = 0 ∧ i' < i ∧ rimB (geo a b n d) i' = true
      · rw [if_pos e, if_pos ⟨e.1, e.2.1, by omega, e.2.2.2⟩]
      · rw [if_neg e]
        have : ¬ (l' = false ∧ j' = 0 ∧ i' < i + 1 ∧ rimB (geo a b n d) i' = true) := fun w => by
          by_cases ei : i' = i
          · subst ei; exact hr w.2.2.2
          · exact e ⟨w.1, w.2.1, by omega, w.2.2.2⟩
        rw [if_neg this])
    have off : ∀ M1 : MM, M1 = M → ¬ rimB (geo a b n d) i = true → w230_53 (fun z0 z1 z2 z3 => w230_22 (q + 1) z0 z1 z2 z3 P) 203 (jI (i : Int)) M1 P := by
      intro M1 e hr
      subst e
      refine br_t rfl ?_
      have := ih (i + 1) false M1 (by omega) ⟨fun w => (by cases w), fun w => absurd (rimB_i (fun k hk => w k (by omega))) hr⟩ (stay hr)
      unfold w230_72
      simp only [jI_lit, jL_lit, jI_add, jI_sub, jI_mul, jI_neg, jL_add, jL_sub, jL_mul, jL_neg, jL_i, c_s1]
      exact this
    refine ⟨kd_203 hL, ?_⟩
    rw [hR'.1]
    simp (disch := omega) only [jI_lit, jL_lit, jI_add, jI_sub, jI_mul, jI_neg, jL_add, jL_sub, jL_mul, jL_neg, jL_i, jI_eq, jI_le, jI_lt, jL_eq, jL_le, jL_lt, jI_l]
    refine br_f (by omega) ?_
    cases z with
    | false =>
      refine br_t rfl (off M rfl (fun w => ?_))
      have := hz.mpr (fun k hk => rimB_n w k (by omega))
      cases this
    | true =>
      have hq := qd_b ga gb (i := i) (j := 0) (by omega) (by omega)
      refine br_f (by decide) ⟨kd_203 hL, w231_s (j := 0) hL hR' ga gb (by omega) (by omega) ⟨kd_203 hL, w232_s hL hD' hE hq.1 hq.2 ?_⟩⟩
      rw [show bI (decide (qd a i b 0 * d ≤ n)) = bI (gN (geo a b n d) i 0) from rfl]
      cases hc : gN (geo a b n d) i 0 with
      | false =>
        refine br_t rfl (off M rfl (fun w => ?_))
        have := rimB_n w i (Nat.le_refl _)
        rw [hc] at this; cases this
      | true =>
        refine br_f (by decide) ?_
        have hrim : rimB (geo a b n d) i = true := rimB_i (fun k hk => by
          by_cases e : k < i
          · exact hz.mp rfl k e
          · have : k = i := by omega
            subst this; exact hc)
        refine br_f (by decide) (w218_s (l := false) (j := 0) ⟨kd_203 hL, w233_s (x := 0) (g := 1) (y := 0) hL (sX_lt ga gb hsd) ?_⟩)
        unfold w230_72
        simp only [jI_lit, jL_lit, jI_add, jI_sub, jI_mul, jI_neg, jL_add, jL_sub, jL_mul, jL_neg, jL_i, c_s1]
        have hfs : fsB n d (pS a b false i 0 0) = true := by
          show decide (qd b 0 a i * d ≤ n) = true
          rw [qd_sym]; exact hc
        refine ih (i + 1) true _ (by omega) ⟨fun _ k hk => rimB_n hrim k (by omega), fun _ => rfl⟩ (RST_c (RST_u (r := some 0) ga gb hS hsd ?_ (fun w => by cases w) (fun k w => ?_)) (fun l' i' j' x => ?_))
        · unfold rmS
          rw [if_neg (by omega), if_neg (by simp)]
        · obtain rfl : 0 = k := Option.some.inj w
          exact ⟨Fr_rc Fr_r, rl_rim hfs⟩
        · unfold uL rmS
          by_cases e : l' = false ∧ i' = i ∧ j' = 0
          · rw [if_pos e, if_pos ⟨e.1, e.2.2, by omega, by rw [e.2.1]; exact hrim⟩]
          · rw [if_neg e]
            by_cases e2 : l' = false ∧ j' = 0 ∧ i' < i ∧ rimB (geo a b n d) i' = true
            · rw [if_pos e2, if_pos ⟨e2.1, e2.2.1, by omega, e2.2.2.2⟩]
            · rw [if_neg e2]
              have : ¬ (l' = false ∧ j' = 0 ∧ i' < i + 1 ∧ rimB (geo a b n d) i' = true) := fun w => by
                by_cases ei : i' = i
                · exact e ⟨w.1, ei, w.2.1⟩
                · exact e2 ⟨w.1, w.2.1, by omega, w.2.2.2⟩
              rw [if_neg this]
theorem w230_82_s {M0 : MM} {a b : WY} {n d : Int} {P : MM → Prop} (hL0 : Lay M0) (hR : RAB M0 a b) (hD : REd M0 n d) (ga : gW a) (gb : gW b) (hE : gE n d) (hX : ∀ M', RST M0 a b n d (rmS (geo a b n d) (wn a - 1) (wn b - 1)) M' → ∃ n2, w230_140 n2 203 (jI 0) M' P) :
    ∀ (q j : Nat) (z : Bool) (M : MM), j + q + 1 = wn b → (z = true ↔ ∀ k, k < j → gN (geo a b n d) 0 k = true) → RST M0 a b n d (rmS (geo a b n d) (wn a - 1) j) M → w230_82 (q + 1) 203 (bI z) (jI (j : Int)) M P := by
  have a1 := ga.1
  have b2 := gb.2.1
  intro q
  induction q with
  | zero =>
    intro j z M hi hz hS
    have hL := hS.1.1 hL0
    refine ⟨kd_203 hL, ?_⟩
    rw [(RAB_A hS.1 hR).2.1]
    simp (disch := omega) only [jI_lit, jL_lit, jI_add, jI_sub, jI_mul, jI_neg, jL_add, jL_sub, jL_mul, jL_neg, jL_i, jI_eq, jI_le, jI_lt, jL_eq, jL_le, jL_lt, jI_l]
    refine br_t (by omega) (hX M ?_)
    rw [show wn b - 1 = j by omega]; exact hS
  | succ q ih =>
    intro j z M hi hz hS
    have hL := hS.1.1 hL0
    have hR' := RAB_A hS.1 hR
    have hD' := REd_A hS.1 hD
    have hsd : isSd a b true 0 j := ⟨by omega, by omega⟩
    have stay : ¬ rimL (geo a b n d) j = true → RST M0 a b n d (rmS (geo a b n d) (wn a - 1) (j + 1)) M := fun hr => RST_c hS (fun l' i' j' x => by
      unfold rmS
      by_cases e0 : l' = false ∧ j' = 0 ∧ i' < wn a - 1 ∧ rimB (geo a b n d) i' = true
      · rw [if_pos e0, if_pos e0]
      · rw [if_neg e0, if_neg e0]
        by_cases e : l' = true ∧ i' = 0 ∧ j' < j ∧ rimL (geo a b n d) j' = true
        · rw [if_pos e, if_pos ⟨e.1, e.2.1, by omega, e.2.2.2⟩]
        · rw [if_neg e]
          have : ¬ (l' = true ∧ i' = 0 ∧ j' < j + 1 ∧ rimL (geo a b n d) j' = true) := fun w => by
            by_cases ei : j' = j
            · subst ei; exact hr w.2.2.2
            · exact e ⟨w.1, w.2.1, by omega, w.2.2.2⟩
          rw [if_neg this])
    have off : ∀ M1 : MM, M1 = M → ¬ rimL (geo a b n d) j = true → w230_113 (fun z0 z1 z2 z3 => w230_82 (q + 1) z0 z1 z2 z3 P) 203 (jI (j : Int)) M1 P := by
      intro M1 e hr
      subst e
      refine br_t rfl ?_
      have := ih (j + 1) false M1 (by omega) ⟨fun w => (by cases w), fun w => absurd (rimL_i (fun k hk => w k (by omega))) hr⟩ (stay hr)
      unfold w230_132
      simp only [jI_lit, jL_lit, jI_add, jI_sub, jI_mul, jI_neg, jL_add, jL_sub, jL_mul, jL_neg, jL_i, c_s1]
      exact this
    refine ⟨kd_203 hL, ?_⟩
    rw [hR'.2.1]
    simp (disch := omega) only [jI_lit, jL_lit, jI_add, jI_sub, jI_mul, jI_neg, jL_add, jL_sub, jL_mul, jL_neg, jL_i, jI_eq, jI_le, jI_lt, jL_eq, jL_le, jL_lt, jI_l]
    refine br_f (by omega) ?_
    cases z with
    | false =>
      refine br_t rfl (off M rfl (fun w => ?_))
      have := hz.mpr (fun k hk => rimL_n w k (by omega))
      cases this
    | true =>
      have hq := qd_b ga gb (i := 0) (j := j) (by omega) (by omega)
      refine br_f (by decide) ⟨kd_203 hL, w231_s (i := 0) hL hR' ga gb (by omega) (by omega) ⟨kd_203 hL, w232_s hL hD' hE hq.1 hq.2 ?_⟩⟩
      rw [show bI (decide (qd a 0 b j * d ≤ n)) = bI (gN (geo a b n d) 0 j) from rfl]
      cases hc : gN (geo a b n d) 0 j with
      | false =>
        refine br_t rfl (off M rfl (fun w => ?_))
        have := rimL_n w j (Nat.le_refl _)
        rw [hc] at this; cases this
      | true =>
        refine br_f (by decide) ?_
        have hrim : rimL (geo a b n d) j = true := rimL_i (fun k hk => by
          by_cases e : k < j
          · exact hz.mp rfl k e
          · have : k = j := by omega
            subst this; exact hc)
        refine br_f (by decide) (w218_s (l := true) (i := 0) ⟨kd_203 hL, w233_s (x := 0) (g := 1) (y := 0) hL (sX_lt ga gb hsd) ?_⟩)
        unfold w230_132
        simp only [jI_lit, jL_lit, jI_add, jI_sub, jI_mul, jI_neg, jL_add, jL_sub, jL_mul, jL_neg, jL_i, c_s1]
        have hfs : fsB n d (pS a b true 0 j 0) = true := hc
        refine ih (j + 1) true _ (by omega) ⟨fun _ k hk => rimL_n hrim k (by omega), fun _ => rfl⟩ (RST_c (RST_u (r := some 0) ga gb hS hsd ?_ (fun w => by cases w) (fun k w => ?_)) (fun l' i' j' x => ?_))
        · unfold rmS
          rw [if_neg (by simp), if_neg (by omega)]
        · obtain rfl : 0 = k := Option.some.inj w
          exact ⟨Fr_rc Fr_r, rl_rim hfs⟩
        · unfold uL rmS
          by_cases e : l' = true ∧ i' = 0 ∧ j' = j
          · rw [if_pos e, if_neg (fun w => by rw [e.1] at w; simp at w), if_pos ⟨e.1, e.2.1, by omega, by rw [e.2.2]; exact hrim⟩]
          · rw [if_neg e]
            by_cases e0 : l' = false ∧ j' = 0 ∧ i' < wn a - 1 ∧ rimB (geo a b n d) i' = true
            · rw [if_pos e0, if_pos e0]
            · rw [if_neg e0, if_neg e0]
              by_cases e2 : l' = true ∧ i' = 0 ∧ j' < j ∧ rimL (geo a b n d) j' = true
              · rw [if_pos e2, if_pos ⟨e2.1, e2.2.1, by omega, e2.2.2.2⟩]
              · rw [if_neg e2]
                have : ¬ (l' = true ∧ i' = 0 ∧ j' < j + 1 ∧ rimL (geo a b n d) j' = true) := fun w => by
                  by_cases ei : j' = j
                  · exact e ⟨w.1, w.2.1, ei⟩
                  · exact e2 ⟨w.1, w.2.1, by omega, w.2.2.2⟩
                rw [if_neg this]
def lS (G : GG) (i j : Nat) : Bool → Nat → Nat → Option Nat := fun l i' j' => if l = true then lfS G i j i' j' else lwS G i j i' j'
theorem rl_some {M : MM} {s : Nat} {L n d : Int} {f q : Nat → Int} {r : Option Nat} (h : rlS M s L n d f q r) : mI M 215 s = bI r.isSome := by
  cases r with
  | none => exact h
  | some k => exact h.1
theorem w230_152_s {M0 : MM} {a b : WY} {n d : Int} {i : Nat} {k140 : Nat → Int32 → MM → Prop} {P : MM → Prop} (hL0 : Lay M0) (hR : RAB M0 a b) (hD : REd M0 n d) (ga : gW a) (gb : gW b) (hE : gE n d) (hi : i + 1 < wn a) (hX : ∀ M', RST M0 a b n d (lS (geo a b n d) (i + 1) 0) M' → k140 203 (jI ((i + 1 : Nat) : Int)) M') :
    ∀ (q j : Nat) (M : MM), j + q + 1 = wn b → RST M0 a b n d (lS (geo a b n d) i j) M → w230_152 k140 (q + 1) 203 (jI (i : Int)) (jI (j : Int)) M P := by
  have a2 := ga.2.1
  have b1 := gb.1
  have b2 := gb.2.1
  have ok := geo_ok (n := n) ga gb hE.2.2.1
  intro q
  induction q with
  | zero =>
    intro j M hj hS
    have hL := hS.1.1 hL0
    refine ⟨kd_203 hL, ?_⟩
    rw [(RAB_A hS.1 hR).2.1]
    simp (disch := omega) only [jI_lit, jL_lit, jI_add, jI_sub, jI_mul, jI_neg, jL_add, jL_sub, jL_mul, jL_neg, jL_i, jI_eq, jI_le, jI_lt, jL_eq, jL_le, jL_lt, jI_l, c_s1]
    refine br_t (by omega) (hX M (RST_c hS (fun l' i' j' x => ?_)))
    unfold lS
    cases l' with
    | true =>
      have x' : i' < wn a ∧ j' + 1 < wn b := x
      simp only [if_true]
      unfold lfS
      by_cases e : i' ≤ i + 1
      · rw [if_pos (by omega), if_pos (by omega)]
      · rw [if_neg (by omega), if_neg (by omega)]
    | false =>
      have x' : i' + 1 < wn a ∧ j' < wn b := x
      simp only [Bool.false_eq_true, if_false]
      unfold lwS
      by_cases e : i' < i + 1 ∨ j' = 0
      · rw [if_pos (by omega), if_pos (by omega)]
      · rw [if_neg (by omega), if_neg (by omega)]
  | succ q ih =>
    intro j M hj hS
    have hL := hS.1.1 hL0
    have hj1 : j + 1 < wn b := by omega
    refine ⟨kd_203 hL, ?_⟩
    rw [(RAB_A hS.1 hR).2.1]
    simp (disch := omega) only [jI_lit, jL_lit, jI_add, jI_sub, jI_mul, jI_neg, jL_add, jL_sub, jL_mul, jL_neg, jL_i, jI_eq, jI_le, jI_lt, jL_eq, jL_le, jL_lt, jI_l, c_s1]
    refine br_f (by omega) (w218_s (l := true) (w218_s (l := false) (w218_s (l := true) ⟨kd_203 hL, ?_⟩)))
    have sdF1 : isSd a b true (i + 1) j := ⟨hi, hj1⟩
    have sdF0 : isSd a b true i j := ⟨by omega, hj1⟩
    have sdW0 : isSd a b false i j := ⟨hi, by omega⟩
    have sdW1 : isSd a b false i (j + 1) := ⟨hi, hj1⟩
    have rF0 := hS.2.2.2 true i j sdF0
    have rW0 := hS.2.2.2 false i j sdW0
    have eF0 : lS (geo a b n d) i j true i j = lf (geo a b n d) i j := show lfS (geo a b n d) i j i j = _ from if_pos (by omega)
    have eW0 : lS (geo a b n d) i j false i j = lw (geo a b n d) i j := show lwS (geo a b n d) i j i j = _ from if_pos (by omega)
    have eF1 : lS (geo a b n d) i j true (i + 1) j = none := show lfS (geo a b n d) i j (i + 1) j = _ from if_neg (by omega)
    have eW1 : lS (geo a b n d) i j false i (j + 1) = none := show lwS (geo a b n d) i j i (j + 1) = _ from if_neg (by omega)
    rw [eF0] at rF0
    rw [eW0] at rW0
    refine w234_s (self := i + 1) (f := fun k => eF b j a k) (q := fun k => eS b j a k) hL (REd_A hS.1 hD).2 (sX_lt ga gb sdF1) (sX_lt ga gb sdW0) (sX_lt ga gb sdF0) hE (hS.2.1 true (i + 1) j sdF1) (xB ga gb sdF1) (rl_some rW0) rF0 ?_ ?_
    · intro k hk
      have z := lf_free ok (by omega) hj1 hk
      exact ⟨sdB_of gb ga hj1 (by omega), z.2⟩
    · intro M2 r hr h0 h1
      have er : r = lf (geo a b n d) (i + 1) j := hr.trans (lf_s (geo a b n d) i j).symm
      have hS2 := RST_u ga gb hS sdF1 eF1 h0 h1
      rw [er] at hS2
      have hL2 := hS2.1.1 hL0
      refine w218_s (l := false) (j := j + 1) ⟨kd_203 hL2, ?_⟩
      have tF0 := hS2.2.2.2 true i j sdF0
      have tW0 := hS2.2.2.2 false i j sdW0
      have eF2 : uL (lS (geo a b n d) i j) true (i + 1) j (lf (geo a b n d) (i + 1) j) true i j = lf (geo a b n d) i j := by
        unfold uL; rw [if_neg (by omega)]; exact eF0
      have eW2 : uL (lS (geo a b n d) i j) true (i + 1) j (lf (geo a b n d) (i + 1) j) false i j = lw (geo a b n d) i j := by
        unfold uL; rw [if_neg (by simp)]; exact eW0
      have eW3 : uL (lS (geo a b n d) i j) true (i + 1) j (lf (geo a b n d) (i + 1) j) false i (j + 1) = none := by
        unfold uL; rw [if_neg (by simp)]; exact eW1
      rw [eF2] at tF0
      rw [eW2] at tW0
      refine w234_s (self := j + 1) (f := fun k => eF a i b k) (q := fun k => eS a i b k) hL2 (REd_A hS2.1 hD).2 (sX_lt ga gb sdW1) (sX_lt ga gb sdF0) (sX_lt ga gb sdW0) hE (hS2.2.1 false i (j + 1) sdW1) (xB ga gb sdW1) (rl_some tF0) tW0 ?_ ?_
      · intro k hk
        have z := lw_free ok hi (by omega) hk
        exact ⟨sdB_of ga gb hi (by omega), z.2⟩
      · intro M3 r2 hr2 h02 h12
        have er2 : r2 = lw (geo a b n d) i (j + 1) := hr2.trans (lw_s (geo a b n d) i j).symm
        have hS3 := RST_u ga gb hS2 sdW1 eW3 h02 h12
        rw [er2] at hS3
        refine ih (j + 1) M3 (by omega) (RST_c hS3 (fun l' i' j' x => ?_))
        unfold uL lS
        cases l' with
        | true =>
          rw [if_neg (show ¬ (true = false ∧ _) by simp), if_pos rfl, if_pos rfl]
          unfold lfS
          by_cases e : i' = i + 1 ∧ j' = j
          · rw [if_pos ⟨rfl, e⟩, if_pos (by omega), e.1, e.2]
          · rw [if_neg (fun w => e w.2)]
            by_cases e2 : i' ≤ i ∨ (i' = i + 1 ∧ j' < j)
            · rw [if_pos e2, if_pos (by omega)]
            · rw [if_neg e2, if_neg (by omega)]
        | false =>
          simp only [Bool.false_eq_true, false_and, if_false, true_and]
          unfold lwS
          by_cases e : i' = i ∧ j' = j + 1
          · rw [if_pos e, if_pos (by omega), e.1, e.2]
          · rw [if_neg e]
            by_cases e2 : i' < i ∨ (i' = i ∧ j' ≤ j) ∨ j' = 0
            · rw [if_pos e2, if_pos (by omega)]
            · rw [if_neg e2, if_neg (by omega)]
def lG (G : GG) : Bool → Nat → Nat → Option Nat := fun l i j => if l = true then lf G i j else lw G i j
theorem w230_140_s {M0 : MM} {a b : WY} {n d : Int} {P : MM → Prop} (hL0 : Lay M0) (hR : RAB M0 a b) (hD : REd M0 n d) (ga : gW a) (gb : gW b) (hE : gE n d) (hX : ∀ M', RST M0 a b n d (lG (geo a b n d)) M' → P M') :
    ∀ (q i : Nat) (M : MM), i + q + 1 = wn a → RST M0 a b n d (lS (geo a b n d) i 0) M → w230_140 (q + 1) 203 (jI (i : Int)) M P := by
  have a2 := ga.2.1
  have b1 := gb.1
  intro q
  induction q with
  | zero =>
    intro i M hi hS
    have hL := hS.1.1 hL0
    refine ⟨kd_203 hL, ?_⟩
    rw [(RAB_A hS.1 hR).1]
    simp (disch := omega) only [jI_lit, jL_lit, jI_add, jI_sub, jI_mul, jI_neg, jL_add, jL_sub, jL_mul, jL_neg, jL_i, jI_eq, jI_le, jI_lt, jL_eq, jL_le, jL_lt, jI_l]
    refine br_t (by omega) (hX M (RST_c hS (fun l' i' j' x => ?_)))
    unfold lS lG
    cases l' with
    | true =>
      have x' : i' < wn a ∧ j' + 1 < wn b := x
      simp only [if_true]
      exact if_pos (by omega)
    | false =>
      have x' : i' + 1 < wn a ∧ j' < wn b := x
      simp only [Bool.false_eq_true, if_false]
      exact if_pos (by omega)
  | succ q ih =>
    intro i M hi hS
    have hL := hS.1.1 hL0
    refine ⟨kd_203 hL, ?_⟩
    rw [(RAB_A hS.1 hR).1]
    simp (disch := omega) only [jI_lit, jL_lit, jI_add, jI_sub, jI_mul, jI_neg, jL_add, jL_sub, jL_mul, jL_neg, jL_i, jI_eq, jI_le, jI_lt, jL_eq, jL_le, jL_lt, jI_l]
    exact br_f (by omega) ⟨wn b - 1 + 1, w230_152_s hL0 hR hD ga gb hE (by omega) (fun M' hS' => ih (i + 1) M' (by omega) hS') (wn b - 1) 0 M (by omega) hS⟩
theorem rp_none {G : GG} (h : gN G 0 0 = false) : ∀ s i j, i + j < s → lf G i j = none ∧ lw G i j = none := by
  intro s
  induction s with
  | zero => intro i j q; omega
  | succ s ih =>
    intro i j q
    refine ⟨?_, ?_⟩
    · cases i with
      | zero =>
        rw [lf_0, if_neg]
        intro z
        have := rimL_n z 0 (Nat.zero_le _)
        rw [h] at this; cases this
      | succ i =>
        have := ih i j (by omega)
        rw [lf_s, this.1, this.2, cf.eq_def]
        simp
    · cases j with
      | zero =>
        rw [lw_0, if_neg]
        intro z
        have := rimB_n z 0 (Nat.zero_le _)
        rw [h] at this; cases this
      | succ j =>
        have := ih i j (by omega)
        rw [lw_s, this.1, this.2, cf.eq_def]
        simp
theorem w230_s {M0 : MM} {a b : WY} {n d : Int} {P : MM → Prop} (hL0 : Lay M0) (hR : RAB M0 a b) (hD : REd M0 n d) (ga : gW a) (gb : gW b) (hE : gE n d) (hX : ∀ M', RST M0 a b n d (lG (geo a b n d)) M' → P M') : w230 203 M0 P := by
  have a1 := ga.1
  have b1 := gb.1
  refine ⟨kd_203 hL0, w216_s hL0 hR hD ga gb hE (fun M1 h1 => ?_)⟩
  have hL1 := h1.1.1 hL0
  have hq := qd_b ga gb (i := 0) (j := 0) (by omega) (by omega)
  refine ⟨kd_203 hL1, w231_s (i := 0) (j := 0) hL1 (RAB_A h1.1 hR) ga gb (by omega) (by omega) ⟨kd_203 hL1, w232_s hL1 (REd_A h1.1 hD) hE hq.1 hq.2 ?_⟩⟩
  rw [show bI (decide (qd a 0 b 0 * d ≤ n)) = bI (gN (geo a b n d) 0 0) from rfl]
  cases hc : gN (geo a b n d) 0 0 with
  | false =>
    refine br_f (by decide) (hX M1 (RST_c (RST_0 ga gb h1) (fun l i j _ => ?_)))
    have z := rp_none hc (i + j + 1) i j (by omega)
    unfold lG
    rw [z.1, z.2, ite_self]
  | true =>
    refine br_t (by decide) ⟨wn a - 1 + 1, w230_22_s hL0 hR hD ga gb hE (fun M2 h2 => ?_) (wn a - 1) 0 true M1 (by omega) ⟨fun _ k hk => by omega, fun _ => rfl⟩ (RST_c (RST_0 ga gb h1) (fun l i j _ => ?_))⟩
    · refine ⟨wn b - 1 + 1, w230_82_s hL0 hR hD ga gb hE (fun M3 h3 => ?_) (wn b - 1) 0 true M2 (by omega) ⟨fun _ k hk => by omega, fun _ => rfl⟩ h2⟩
      refine ⟨wn a - 1 + 1, w230_140_s hL0 hR hD ga gb hE hX (wn a - 1) 0 M3 (by omega) (RST_c h3 (fun l i j x => ?_))⟩
      unfold rmS lS
      cases l with
      | true =>
        have x' : i < wn a ∧ j + 1 < wn b := x
        simp only [Bool.true_eq_false, false_and, if_false, true_and, if_true]
        unfold lfS
        by_cases e : i = 0
        · subst e
          rw [if_pos (show 0 ≤ 0 ∨ _ from Or.inl (Nat.le_refl _)), lf_0]
          by_cases w : rimL (geo a b n d) j = true
          · rw [if_pos w, if_pos ⟨rfl, by omega, w⟩]
          · rw [if_neg w, if_neg (fun y => w y.2.2)]
        · rw [if_neg (fun y => e y.1), if_neg (by omega)]
      | false =>
        have x' : i + 1 < wn a ∧ j < wn b := x
        simp only [Bool.false_eq_true, false_and, if_false, true_and]
        unfold lwS
        by_cases e : j = 0
        · subst e
          rw [if_pos (show _ ∨ _ ∨ 0 = 0 from Or.inr (Or.inr rfl)), lw_0]
          by_cases w : rimB (geo a b n d) i = true
          · rw [if_pos w, if_pos ⟨rfl, by omega, w⟩]
          · rw [if_neg w, if_neg (fun y => w y.2.2)]
        · rw [if_neg (fun y => e y.1), if_neg (by omega)]
    · unfold rmS
      rw [if_neg (by omega), if_neg (by omega)]
