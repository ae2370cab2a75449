/-! ===== sides that the reference comes to ===== -/
def rcM (M : MM) (s : Nat) (x g y : Int) : MM := sL (sI (sL (sI M 215 s (jI 1)) 221 s (jL x)) 223 s (jI g)) 222 s (jL y)
theorem w233_s {M : MM} {s : Nat} {x g y : Int} {P : MM → Prop} (hL : Lay M) (hs : s < 128) (hP : P (rcM M s x g y)) : w233 203 (jI (s : Int)) (jL x) (jI g) (jL y) M P := by
  unfold rcM at hP
  simp (disch := omega) only [w233, kd_sI, kd_sL, kd_sR, true_and, and_true, Option.some.injEq, exists_eq_left', kd_203 hL, gI_y, gI_n, gL_y, gL_n, gR_y, gR_n, gI_sL, gI_sR, gL_sI, gL_sR, gR_sI, gR_sL, rf_203_35 hL, rf_203_41 hL, rf_203_42 hL, rf_203_43 hL, jI_cn, i215 hL, i221 (lay_sI hL), i223 (lay_sL (lay_sI hL)), i222 (lay_sI (lay_sL (lay_sI hL))), jI_lit, jL_lit, jI_add, jI_sub, jI_mul, jI_neg, jL_add, jL_sub, jL_mul, jL_neg, jL_i, j_a1]
  exact hP
def rlS (M : MM) (s : Nat) (L n d : Int) (f q : Nat → Int) (r : Option Nat) : Prop := match r with
  | none => mI M 215 s = bI false
  | some k => mI M 215 s = bI true ∧ mL M 221 s = jL (if fsB n d (q k) = true then 0 else f k) ∧ mL M 222 s = jL (if fsB n d (q k) = true then 0 else dD L n d (f k) (q k)) ∧ ∃ g : Int, mI M 223 s = jI g ∧ (g = -1 ∨ (g = 1 ∧ fsB n d (q k) = true))
theorem cmp_r {A g s1 r1 s2 s2' r2 d : Int} (hd : 0 < d) (h1 : (s1 = 0 ∧ r1 = 0) ∨ (s1 = -1 ∧ g = -1 ∧ 0 ≤ r1)) (h2 : (s2 = 0 ∧ r2 = 0) ∨ (s2' = s2 ∧ (s2 = 1 ∨ s2 = -1) ∧ 0 ≤ r2)) : clsC A s1 r1 s2 r2 d ≤ 0 ↔ refC A g r1 s2' r2 d ≤ 0 := by
  rw [cmp_eq hd (by omega) (by omega)]
  have e1 : refC A s1 r1 s2 r2 d = refC A g r1 s2 r2 d := by
    rcases h1 with ⟨_, rfl⟩ | ⟨rfl, rfl, _⟩
    · exact refC_0l A s1 g s2 r2 d
    · rfl
  have e2 : refC A g r1 s2 r2 d = refC A g r1 s2' r2 d := by
    rcases h2 with ⟨_, rfl⟩ | ⟨rfl, _, _⟩
    · exact refC_0r A g r1 s2 s2' d
    · rfl
  rw [e1, e2]
theorem k1_ref {L n d f q f' q' g : Int} (hL : 0 < L) (hd : 0 < d) (hl : frB L n d f q = true) (hk : frB L n d f' q' = true) (hg : g = -1 ∨ (g = 1 ∧ fsB n d q = true)) : k1B L n d f q f' q' = true ↔ refC ((if fsB n d q = true then 0 else f) - (if fsB n d q' = true then 0 else f')) g (if fsB n d q = true then 0 else dD L n d f q) (-1) (if fsB n d q' = true then 0 else dD L n d f' q') d ≤ 0 := by
  unfold k1B
  rw [decide_eq_true_iff]
  have D0 := fr_D hL hd hl
  have E0 := fr_D hL hd hk
  cases k1 : fsB n d q <;> cases k2 : fsB n d q' <;> rw [k1] at hg <;> simp only [Bool.false_eq_true, if_false, if_true] <;> exact cmp_r hd (by simp at hg; omega) (by omega)
theorem k2_ref {L n d f q f' q' g : Int} (hL : 0 < L) (hd : 0 < d) (hl : frB L n d f q = true) (hk : frB L n d f' q' = true) (hg : g = -1 ∨ (g = 1 ∧ fsB n d q = true)) : k2B L n d f q f' q' = true ↔ refC ((if fsB n d q = true then 0 else f) - (if teB L n d f' q' = true then L else f')) g (if fsB n d q = true then 0 else dD L n d f q) 1 (if teB L n d f' q' = true then 0 else dD L n d f' q') d ≤ 0 := by
  unfold k2B
  rw [decide_eq_true_iff]
  have D0 := fr_D hL hd hl
  have E0 := fr_D hL hd hk
  cases k1 : fsB n d q <;> cases k2 : teB L n d f' q' <;> rw [k1] at hg <;> simp only [Bool.false_eq_true, if_false, if_true] <;> exact cmp_r hd (by simp at hg; omega) (by omega)
def sRc (s : Nat) (x k : Nat) : Bool := (Nat.beq x 215 || (Nat.ble 221 x && Nat.ble x 223)) && Nat.beq k s
theorem sRc_f {s x k : Nat} (h : ¬ ((x = 215 ∨ (221 ≤ x ∧ x ≤ 223)) ∧ k = s)) : sRc s x k = false := by
  unfold sRc
  refine Bool.eq_false_iff.mpr fun q => h ?_
  simp only [Bool.and_eq_true, Bool.or_eq_true, Nat.ble_eq] at q
  refine ⟨?_, Nat.eq_of_beq_eq_true q.2⟩
  rcases q.1 with z | z
  · exact Or.inl (Nat.eq_of_beq_eq_true z)
  · exact Or.inr z
theorem sRc_t {s x : Nat} (h : x = 215 ∨ (221 ≤ x ∧ x ≤ 223)) : sRc s x s = true := by
  unfold sRc
  rw [Nat.beq_refl, Bool.and_true, Bool.or_eq_true]
  rcases h with h | h
  · exact Or.inl (bq_t h)
  · right; rw [Nat.ble_eq.mpr h.1, Nat.ble_eq.mpr h.2]; rfl
theorem Fr_rc {M M' : MM} {s : Nat} {x g y : Int} (h : Fr (sRc s) M M') : Fr (sRc s) M (rcM M' s x g y) :=
  Fr_sL (Fr_sI (Fr_sL (Fr_sI h (sRc_t (by omega))) (sRc_t (by omega))) (sRc_t (by omega))) (sRc_t (by omega))
theorem rlS_rc {M : MM} {s k : Nat} {L n d g : Int} {f q : Nat → Int} (hg : g = -1 ∨ (g = 1 ∧ fsB n d (q k) = true)) : rlS (rcM M s (if fsB n d (q k) = true then 0 else f k) g (if fsB n d (q k) = true then 0 else dD L n d (f k) (q k))) s L n d f q (some k) := by
  unfold rcM
  refine ⟨?_, ?_, ?_, g, ?_, hg⟩ <;> simp (disch := omega) only [gI_y, gI_n, gL_y, gL_n, gR_y, gR_n, gI_sL, gI_sR, gL_sI, gL_sR, gR_sI, gR_sL]
  rfl
theorem w235_s {M : MM} {s self : Nat} {L n d : Int} {f q : Nat → Int} {P : MM → Prop} (hL : Lay M) (hs : s < 128) (hr : rfS M s L (f self) (q self) n d) (hf : frB L n d (f self) (q self) = true) (hX : ∀ M', Fr (sRc s) M M' → rlS M' s L n d f q (some self) → P M') : w235 203 (jI (s : Int)) M P := by
  obtain ⟨h1, h2, _⟩ := hr.2.2.1 hf
  simp (disch := omega) only [w235, kd_sI, kd_sL, kd_sR, true_and, and_true, Option.some.injEq, exists_eq_left', kd_203 hL, rf_203_37 hL, rf_203_38 hL, jI_cn, i217 hL, i218 hL, h1, h2, jI_lit, jL_lit, jI_add, jI_sub, jI_mul, jI_neg, jL_add, jL_sub, jL_mul, jL_neg, jL_i]
  exact w233_s hL hs (hX _ (Fr_rc Fr_r) (rlS_rc (Or.inl rfl)))
theorem w234_s {M : MM} {s ac lk self : Nat} {L n d : Int} {f q : Nat → Int} {acr : Bool} {ahd : Option Nat} {P : MM → Prop} (hL : Lay M) (hed : mL M 203 30 = jL d) (hs : s < 128) (hac : ac < 128) (hlk : lk < 128) (hE : gE n d) (hr : rfS M s L (f self) (q self) n d) (Bo : sdB L (f self) (q self)) (ha : mI M 215 ac = bI acr) (hl : rlS M lk L n d f q ahd) (hb : ∀ k, ahd = some k → sdB L (f k) (q k) ∧ frB L n d (f k) (q k) = true)
    (hX : ∀ M' r, r = cf (frB L n d (f self) (q self)) acr ahd self (fun k => k1B L n d (f k) (q k) (f self) (q self)) (fun k => k2B L n d (f k) (q k) (f self) (q self)) → (r = none → M' = M) → (∀ k, r = some k → Fr (sRc s) M M' ∧ rlS M' s L n d f q (some k)) → P M') : w234 203 (jI (s : Int)) (jI (ac : Int)) (jI (lk : Int)) M P := by
  have hd0 := hE.2.2.1
  have hd1 := hE.2.2.2
  have mo := sdB_m Bo hE
  have Bo' := Bo
  unfold sdB at Bo'
  unfold w234
  simp (disch := omega) only [kd_203 hL, true_and, rf_203_34 hL, Option.some.injEq, exists_eq_left', i214 hL, jI_cn, hr.1]
  unfold cf at hX
  cases hf : frB L n d (f self) (q self) with
  | false =>
    rw [hf] at hX
    exact br_f (by decide) (hX M none rfl (fun _ => rfl) (fun k z => by cases z))
  | true =>
    rw [hf] at hX
    simp only [if_true] at hX
    refine br_t (by decide) ?_
    simp (disch := omega) only [rf_203_35 hL, Option.some.injEq, exists_eq_left', i215 hL, jI_cn, true_and, ha]
    cases hacr : acr with
    | true =>
      rw [hacr] at hX
      refine br_f (by decide) (w235_s hL hs hr hf (fun M' h1 h2 => hX M' (some self) rfl (fun z => by cases z) (fun k z => ?_)))
      obtain rfl : self = k := Option.some.inj z
      exact ⟨h1, h2⟩
    | false =>
      rw [hacr] at hX
      simp only [Bool.false_eq_true, if_false] at hX
      refine br_t rfl ?_
      cases hah : ahd with
      | none =>
        rw [hah] at hX hl
        have hl' : mI M 215 lk = bI false := hl
        rw [hl']
        exact br_f (by decide) (hX M none rfl (fun _ => rfl) (fun k z => by cases z))
      | some k =>
        rw [hah] at hX hl
        obtain ⟨l1, l2, l3, g, l4, l5⟩ := hl
        obtain ⟨Bk, fk⟩ := hb k hah
        have mk := sdB_m Bk hE
        have Bk' := Bk
        unfold sdB at Bk'
        rw [l1]
        obtain ⟨r1, r2, r3, r4, _⟩ := hr.2.2.1 hf
        have D0 := fr_D Bo.1 hd0 hf
        have E0 := fr_D Bo.1 hd0 fk
        have k1r := k1_ref (g := g) Bo.1 hd0 fk hf l5
        have k2r := k2_ref (g := g) Bo.1 hd0 fk hf l5
        dsimp only at hX
        refine br_t (by decide) ?_
        simp (disch := omega) only [kd_203 hL, true_and, rf_203_41 hL, rf_203_37 hL, rf_203_43 hL, rf_203_42 hL, rf_203_38 hL, Option.some.injEq, exists_eq_left', i221 hL, i217 hL, i223 hL, i222 hL, i218 hL, jI_cn, l2, l3, l4, r1, r2, jI_lit, jL_lit, jI_add, jI_sub, jI_mul, jI_neg, jL_add, jL_sub, jL_mul, jL_neg, jL_i]
        have gg : g = 1 ∨ g = -1 := by rcases l5 with z | z; exact Or.inr z; exact Or.inl z.1
        have bx : -648 ≤ (if fsB n d (q k) = true then 0 else f k) ∧ (if fsB n d (q k) = true then 0 else f k) ≤ 648 := by split <;> omega
        have by' : 0 ≤ (if fsB n d (q k) = true then 0 else dD L n d (f k) (q k)) ∧ (if fsB n d (q k) = true then 0 else dD L n d (f k) (q k)) ≤ 705277476864 := by split <;> omega
        have bz : -648 ≤ (if fsB n d (q self) = true then 0 else f self) ∧ (if fsB n d (q self) = true then 0 else f self) ≤ 648 := by split <;> omega
        have bw : 0 ≤ (if fsB n d (q self) = true then 0 else dD L n d (f self) (q self)) ∧ (if fsB n d (q self) = true then 0 else dD L n d (f self) (q self)) ≤ 705277476864 := by split <;> omega
        have bt : -648 ≤ (if teB L n d (f self) (q self) = true then L else f self) ∧ (if teB L n d (f self) (q self) = true then L else f self) ≤ 648 := by split <;> omega
        have bu : 0 ≤ (if teB L n d (f self) (q self) = true then 0 else dD L n d (f self) (q self)) ∧ (if teB L n d (f self) (q self) = true then 0 else dD L n d (f self) (q self)) ≤ 705277476864 := by split <;> omega
        have rl : ∀ M' : MM, M' = rcM M s (if fsB n d (q k) = true then 0 else f k) g (if fsB n d (q k) = true then 0 else dD L n d (f k) (q k)) → Fr (sRc s) M M' ∧ rlS M' s L n d f q (some k) := by
          intro M' e
          rw [e]
          exact ⟨Fr_rc Fr_r, rlS_rc l5⟩
        generalize (if fsB n d (q k) = true then 0 else f k) = X at *
        generalize (if fsB n d (q k) = true then 0 else dD L n d (f k) (q k)) = Y at *
        generalize (if fsB n d (q self) = true then 0 else f self) = Z at *
        generalize (if fsB n d (q self) = true then 0 else dD L n d (f self) (q self)) = V at *
        generalize (if teB L n d (f self) (q self) = true then L else f self) = T at *
        generalize (if teB L n d (f self) (q self) = true then 0 else dD L n d (f self) (q self)) = U at *
        have m1 := mul_b (x := X - Z) (y := X - Z) (B := 1296) (C := 1296) (by omega) (by omega) (by omega) (by omega)
        have m2 := mul_p (sqr_p (X - Z)) (show 0 ≤ d by omega)
        have m3 := mul_mono (show (X - Z) * (X - Z) ≤ 1296 * 1296 by omega) hd1 (by omega) (by omega)
        have m4 := mul_b (x := X - T) (y := X - T) (B := 1296) (C := 1296) (by omega) (by omega) (by omega) (by omega)
        have m5 := mul_p (sqr_p (X - T)) (show 0 ≤ d by omega)
        have m6 := mul_mono (show (X - T) * (X - T) ≤ 1296 * 1296 by omega) hd1 (by omega) (by omega)
        have rr : ∀ A g' r1 s2 r2, -1 ≤ refC A g' r1 s2 r2 d ∧ refC A g' r1 s2 r2 d ≤ 1 := by
          intro A g' r1 s2 r2
          unfold refC sgn
          omega
        have q1 := rr (X - Z) g Y (-1) V
        have q2 := rr (X - T) g Y 1 U
        refine w220_s (d := d) hL hed gg (Or.inr rfl) by'.1 bw.1 (by omega) (by omega) (by omega) (by omega) (by omega) (by omega) ?_
        rw [jI_lt (by omega) (by omega) (by omega) (by omega)]
        by_cases c1 : k1B L n d (f k) (q k) (f self) (q self) = true
        · have c1' := k1r.mp c1
          refine br_f (by omega) ⟨kd_203 hL, w235_s hL hs hr hf (fun M' h1 h2 => hX M' (some self) (by rw [if_pos c1]) (fun z => by cases z) (fun k z => ?_))⟩
          obtain rfl : self = k := Option.some.inj z
          exact ⟨h1, h2⟩
        · have c1' : ¬ _ := fun z => c1 (k1r.mpr z)
          refine br_t (by omega) ?_
          simp (disch := omega) only [kd_203 hL, true_and, rf_203_41 hL, rf_203_39 hL, rf_203_43 hL, rf_203_42 hL, rf_203_40 hL, Option.some.injEq, exists_eq_left', i221 hL, i219 hL, i223 hL, i222 hL, i220 hL, jI_cn, l2, l3, l4, r3, r4, jI_lit, jL_lit, jI_add, jI_sub, jI_mul, jI_neg, jL_add, jL_sub, jL_mul, jL_neg, jL_i]
          refine w220_s (d := d) hL hed gg (Or.inl rfl) by'.1 bu.1 (by omega) (by omega) (by omega) (by omega) (by omega) (by omega) ?_
          rw [jI_lt (by omega) (by omega) (by omega) (by omega)]
          by_cases c2 : k2B L n d (f k) (q k) (f self) (q self) = true
          · have c2' := k2r.mp c2
            refine br_f (by omega) ?_
            simp (disch := omega) only [kd_203 hL, true_and, rf_203_41 hL, rf_203_43 hL, rf_203_42 hL, Option.some.injEq, exists_eq_left', i221 hL, i223 hL, i222 hL, jI_cn, l2, l3, l4, jI_lit, jL_lit, jI_add, jI_sub, jI_mul, jI_neg, jL_add, jL_sub, jL_mul, jL_neg, jL_i]
            refine w233_s hL hs (hX _ (some k) (by rw [if_neg c1, if_pos c2]) (fun z => by cases z) (fun k' z => ?_))
            obtain rfl : k = k' := Option.some.inj z
            exact rl _ rfl
          · have c2' : ¬ _ := fun z => c2 (k2r.mpr z)
            exact br_t (by omega) (hX M none (by rw [if_neg c1, if_neg c2]) (fun _ => rfl) (fun k z => by cases z))
