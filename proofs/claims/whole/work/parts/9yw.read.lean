/-! ===== all tokens; the class reads a text ===== -/
theorem sk_b {T : Nat → Nat} {n p : Nat} (h : p ≤ n) : p ≤ sk T n p ∧ sk T n p ≤ n := by
  have r := run_r (f := isSp T) (n - p) p
  unfold sk
  exact ⟨r.1, by omega⟩
theorem te_b {T : Nat → Nat} {n q : Nat} (h : q < n) (hk : tk T n q ≠ 0) : q + 1 ≤ te T n q ∧ te T n q ≤ n := by
  unfold tk at hk
  rw [if_neg (by omega)] at hk
  have e : te T n q = if T q = 59 then q + 1 else if isLt T q = true then run (isLt T) (n - q) q else run (isDg T) (n - q) q := by
    unfold te; rw [if_neg (by omega)]
  by_cases c : T q = 59
  · rw [if_pos c] at e
    omega
  · rw [if_neg c] at e hk
    by_cases c2 : isLt T q = true
    · rw [if_pos c2] at e
      have r := run_r (f := isLt T) (n - q) q
      rw [← e] at r
      refine ⟨?_, by omega⟩
      by_cases x : te T n q = q
      · have := r.2.2.2 (by omega)
        rw [x, c2] at this; cases this
      · omega
    · rw [if_neg c2] at e hk
      have r := run_r (f := isDg T) (n - q) q
      rw [← e] at r
      by_cases x : 1 ≤ te T n q - q ∧ te T n q - q ≤ 2
      · omega
      · rw [if_neg x] at hk; exact absurd rfl hk
theorem tk_4 {T : Nat → Nat} {n q : Nat} : tk T n q ≤ 4 ∧ (tk T n q = 4 ↔ n ≤ q) := by
  unfold tk
  by_cases c : n ≤ q
  · rw [if_pos c]; omega
  · rw [if_neg c]
    by_cases c1 : T q = 59
    · rw [if_pos c1]; omega
    · rw [if_neg c1]
      by_cases c2 : isLt T q = true
      · rw [if_pos c2]
        by_cases c3 : te T n q - q ≤ 8
        · rw [if_pos c3]; omega
        · rw [if_neg c3]; omega
      · rw [if_neg c2]
        by_cases c3 : 1 ≤ te T n q - q ∧ te T n q - q ≤ 2
        · rw [if_pos c3]; omega
        · rw [if_neg c3]; omega
/-- a word has good letters, a number is small -/
theorem tk_1 {T : Nat → Nat} {n q : Nat} (h : tk T n q = 1) : gNm (wl T q (te T n q - q)) := by
  have qn : q < n := by
    have := (tk_4 (T := T) (n := n) (q := q)).2
    omega
  have tb := te_b (T := T) qn (by rw [h]; decide)
  unfold tk at h
  rw [if_neg (by omega)] at h
  by_cases c : T q = 59
  · rw [if_pos c] at h; omega
  · rw [if_neg c] at h
    by_cases c2 : isLt T q = true
    · rw [if_pos c2] at h
      have e : te T n q = run (isLt T) (n - q) q := by unfold te; rw [if_neg (by omega), if_neg c, if_pos c2]
      have r := run_r (f := isLt T) (n - q) q
      rw [← e] at r
      by_cases x : te T n q - q ≤ 8
      · exact wl_G (by omega) x (fun i hi => r.2.2.1 _ (by omega) (by omega))
      · rw [if_neg x] at h; omega
    · rw [if_neg c2] at h
      by_cases x : 1 ≤ te T n q - q ∧ te T n q - q ≤ 2
      · rw [if_pos x] at h; omega
      · rw [if_neg x] at h; omega
theorem tk_2 {T : Nat → Nat} {n q : Nat} (h : tk T n q = 2) : nl T q (te T n q - q) ≤ 99 := by
  have qn : q < n := by
    have := (tk_4 (T := T) (n := n) (q := q)).2
    omega
  have tb := te_b (T := T) qn (by rw [h]; decide)
  unfold tk at h
  rw [if_neg (by omega)] at h
  by_cases c : T q = 59
  · rw [if_pos c] at h; omega
  · rw [if_neg c] at h
    by_cases c2 : isLt T q = true
    · rw [if_pos c2] at h
      by_cases x : te T n q - q ≤ 8
      · rw [if_pos x] at h; omega
      · rw [if_neg x] at h; omega
    · rw [if_neg c2] at h
      have e : te T n q = run (isDg T) (n - q) q := by unfold te; rw [if_neg (by omega), if_neg c, if_neg c2]
      have r := run_r (f := isDg T) (n - q) q
      rw [← e] at r
      by_cases x : 1 ≤ te T n q - q ∧ te T n q - q ≤ 2
      · exact nl_b x.2 (fun i hi => r.2.2.1 _ (by omega) (by omega))
      · rw [if_neg x] at h; omega
theorem stT_4 {s : PS} {v : Nat} {R : List Nat} (h : s.1 ≠ 0) : (stT s 4 v R).1 = 2 := by
  unfold stT
  rw [if_neg (by omega), if_neg h]
  by_cases c1 : s.1 = 1
  · rw [if_pos c1]; unfold st1; rw [if_neg (by omega)]
  · rw [if_neg c1]
    by_cases c2 : s.1 = 2
    · rw [if_pos c2]; unfold st2; rw [if_neg (by omega), if_pos (by omega)]
    · rw [if_neg c2]; unfold st3; rw [if_pos (by omega)]
theorem stT_0 {s : PS} {v : Nat} {R : List Nat} : (stT s 0 v R).1 = 1 := by unfold stT; rw [if_pos rfl]
theorem PIv_s {s : PS} {kd v : Nat} {R : List Nat} (hI : PIv s) (hR : kd = 1 → gNm R) : PIv (stT s kd v R).2 := by
  obtain ⟨i1, i2, i3, i4, i5, i6⟩ := hI
  have hI : PIv s := ⟨i1, i2, i3, i4, i5, i6⟩
  unfold stT
  by_cases c0 : kd = 0
  · rw [if_pos c0]; exact hI
  rw [if_neg c0]
  by_cases a0 : s.1 = 0
  · rw [if_pos a0]
    unfold st0
    by_cases c1 : kd = 1 ∧ R = [25, 1, 23]
    · rw [if_pos c1]
      by_cases c2 : s.2.1 < 4
      · rw [if_pos c2]
        exact ⟨show 1 ≤ 3 by omega, i2, fun z => absurd (show 2 ≤ 1 from z) (by omega), fun _ => c2, fun z => absurd (show 1 = 3 from z) (by omega), fun w hw => ⟨(i6 w hw).1, (i6 w hw).2.1, Or.inl (show 2 ≤ wn (s.2.2.2.1 w) by have := (i6 w hw).2.2; omega)⟩⟩
      · rw [if_neg c2]; exact hI
    · rw [if_neg c1]; exact hI
  rw [if_neg a0]
  by_cases a1 : s.1 = 1
  · rw [if_pos a1]
    unfold st1
    by_cases c1 : kd = 1 ∧ R ≠ [25, 1, 23]
    · rw [if_pos c1]
      by_cases c2 : hasN s.2.2.1 s.2.1 R = true
      · rw [if_pos c2]; exact hI
      · rw [if_neg c2]
        have k4 := i4 a1
        refine ⟨show 2 ≤ 3 by omega, show s.2.1 + 1 ≤ 4 by omega, fun _ => show 1 ≤ s.2.1 + 1 by omega, fun z => absurd (show 2 = 1 from z) (by omega), fun z => absurd (show 2 = 3 from z) (by omega), fun w hw => ?_⟩
        have hw' : w < s.2.1 + 1 := hw
        show gNm (upL s.2.2.1 s.2.1 R w) ∧ hW (upW s.2.2.2.1 s.2.1 noW w) ∧ (2 ≤ wn (upW s.2.2.2.1 s.2.1 noW w) ∨ (2 ≤ 2 ∧ w + 1 = s.2.1 + 1))
        unfold upL upW
        by_cases e : w = s.2.1
        · rw [if_pos e, if_pos e]
          exact ⟨hR c1.1, ⟨by decide, fun i hi => absurd (show i < 0 from hi) (by omega), fun i hi => absurd (show i + 1 < 0 from hi) (by omega)⟩, Or.inr ⟨by omega, by omega⟩⟩
        · rw [if_neg e, if_neg e]
          have q := i6 w (by omega)
          exact ⟨q.1, q.2.1, Or.inl (by have := q.2.2; omega)⟩
    · rw [if_neg c1]; exact hI
  rw [if_neg a1]
  by_cases a2 : s.1 = 2
  · rw [if_pos a2]
    have k1 := i3 (by omega)
    unfold st2
    by_cases c1 : kd = 3 ∧ 2 ≤ wn (s.2.2.2.1 (s.2.1 - 1))
    · rw [if_pos c1]
      refine ⟨show 0 ≤ 3 by omega, i2, fun z => absurd (show 2 ≤ 0 from z) (by omega), fun z => absurd (show 0 = 1 from z) (by omega), fun z => absurd (show 0 = 3 from z) (by omega), fun w hw => ⟨(i6 w hw).1, (i6 w hw).2.1, Or.inl ?_⟩⟩
      by_cases e : w = s.2.1 - 1
      · rw [e]; exact c1.2
      · have := (i6 w hw).2.2
        have hw' : w < s.2.1 := hw
        rcases this with h | h
        · exact h
        · omega
    · rw [if_neg c1]
      by_cases c2 : kd ≠ 2
      · rw [if_pos c2]; exact hI
      · rw [if_neg c2]
        by_cases c3 : 18 < v
        · rw [if_pos c3]; exact hI
        · rw [if_neg c3]
          by_cases c4 : 8 ≤ wn (s.2.2.2.1 (s.2.1 - 1))
          · rw [if_pos c4]; exact hI
          · rw [if_neg c4]
            exact ⟨show 3 ≤ 3 by omega, i2, fun _ => k1, fun z => absurd (show 3 = 1 from z) (by omega), fun _ => ⟨show wn (s.2.2.2.1 (s.2.1 - 1)) < 8 by omega, show v ≤ 18 by omega⟩, fun w hw => ⟨(i6 w hw).1, (i6 w hw).2.1, by have := (i6 w hw).2.2; rcases this with h | h; exact Or.inl h; exact Or.inr ⟨show 2 ≤ 3 by omega, h.2⟩⟩⟩
  rw [if_neg a2]
  have a3 : s.1 = 3 := by omega
  have k1 := i3 (by omega)
  have x3 := i5 a3
  unfold st3
  by_cases c2 : kd ≠ 2
  · rw [if_pos c2]; exact hI
  rw [if_neg c2]
  by_cases c3 : 18 < v
  · rw [if_pos c3]; exact hI
  rw [if_neg c3]
  by_cases c4 : atP (s.2.2.2.1 (s.2.1 - 1)) ((wn (s.2.2.2.1 (s.2.1 - 1)) : Int) - 1) s.2.2.2.2 v = true
  · rw [if_pos c4]; exact hI
  rw [if_neg c4]
  refine ⟨show 2 ≤ 3 by omega, i2, fun _ => k1, fun z => absurd (show 2 = 1 from z) (by omega), fun z => absurd (show 2 = 3 from z) (by omega), fun w hw => ?_⟩
  have hw' : w < s.2.1 := hw
  show gNm (s.2.2.1 w) ∧ hW (upW s.2.2.2.1 (s.2.1 - 1) (ptW (s.2.2.2.1 (s.2.1 - 1)) s.2.2.2.2 v) w) ∧ (2 ≤ wn (upW s.2.2.2.1 (s.2.1 - 1) (ptW (s.2.2.2.1 (s.2.1 - 1)) s.2.2.2.2 v) w) ∨ (2 ≤ 2 ∧ w + 1 = s.2.1))
  unfold upW
  have q := i6 w hw'
  by_cases e : w = s.2.1 - 1
  · rw [if_pos e]
    rw [e] at q
    refine ⟨by rw [e]; exact q.1, ⟨show wn (s.2.2.2.1 (s.2.1 - 1)) + 1 ≤ 8 by omega, fun i hi => ?_, fun i hi => ?_⟩, Or.inr ⟨by omega, by omega⟩⟩
    · have hi' : i < wn (s.2.2.2.1 (s.2.1 - 1)) + 1 := hi
      show 0 ≤ (if i = wn (s.2.2.2.1 (s.2.1 - 1)) then (s.2.2.2.2 : Int) else wx (s.2.2.2.1 (s.2.1 - 1)) i) ∧ (if i = wn (s.2.2.2.1 (s.2.1 - 1)) then (s.2.2.2.2 : Int) else wx (s.2.2.2.1 (s.2.1 - 1)) i) ≤ 18 ∧ 0 ≤ (if i = wn (s.2.2.2.1 (s.2.1 - 1)) then (v : Int) else wy (s.2.2.2.1 (s.2.1 - 1)) i) ∧ (if i = wn (s.2.2.2.1 (s.2.1 - 1)) then (v : Int) else wy (s.2.2.2.1 (s.2.1 - 1)) i) ≤ 18
      by_cases u : i = wn (s.2.2.2.1 (s.2.1 - 1))
      · rw [if_pos u, if_pos u]; omega
      · rw [if_neg u, if_neg u]; exact q.2.1.2.1 i (by omega)
    · have hi' : i + 1 < wn (s.2.2.2.1 (s.2.1 - 1)) + 1 := hi
      show ¬ ((if i = wn (s.2.2.2.1 (s.2.1 - 1)) then (s.2.2.2.2 : Int) else wx (s.2.2.2.1 (s.2.1 - 1)) i) = (if i + 1 = wn (s.2.2.2.1 (s.2.1 - 1)) then (s.2.2.2.2 : Int) else wx (s.2.2.2.1 (s.2.1 - 1)) (i + 1)) ∧ (if i = wn (s.2.2.2.1 (s.2.1 - 1)) then (v : Int) else wy (s.2.2.2.1 (s.2.1 - 1)) i) = (if i + 1 = wn (s.2.2.2.1 (s.2.1 - 1)) then (v : Int) else wy (s.2.2.2.1 (s.2.1 - 1)) (i + 1)))
      have u0 : ¬ i = wn (s.2.2.2.1 (s.2.1 - 1)) := by omega
      rw [if_neg u0, if_neg u0]
      by_cases u : i + 1 = wn (s.2.2.2.1 (s.2.1 - 1))
      · rw [if_pos u, if_pos u]
        exact atP_n (j := i) (by simpa using c4) (by omega) (by omega)
      · rw [if_neg u, if_neg u]
        exact q.2.1.2.2 i (by omega)
  · rw [if_neg e]
    exact ⟨q.1, q.2.1, by rcases q.2.2 with h | h; exact Or.inl h; omega⟩
def prs (T : Nat → Nat) (n : Nat) : Nat → PS → Nat → Nat × Nat × PS
  | 0, s, p => (2, p, s)
  | m + 1, s, p => if tk T n (sk T n p) = 4 ∧ s.1 = 0 then (0, sk T n p, s) else if (stT s (tk T n (sk T n p)) (nl T (sk T n p) (te T n (sk T n p) - sk T n p)) (wl T (sk T n p) (te T n (sk T n p) - sk T n p))).1 = 0 then prs T n m (stT s (tk T n (sk T n p)) (nl T (sk T n p) (te T n (sk T n p) - sk T n p)) (wl T (sk T n p) (te T n (sk T n p) - sk T n p))).2 (te T n (sk T n p)) else ((stT s (tk T n (sk T n p)) (nl T (sk T n p) (te T n (sk T n p) - sk T n p)) (wl T (sk T n p) (te T n (sk T n p) - sk T n p))).1, sk T n p, (stT s (tk T n (sk T n p)) (nl T (sk T n p) (te T n (sk T n p) - sk T n p)) (wl T (sk T n p) (te T n (sk T n p) - sk T n p))).2)
