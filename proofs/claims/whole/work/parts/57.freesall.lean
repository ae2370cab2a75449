/-! ===== all sides of the reference: free ===== -/
theorem sX_lt {a b : WY} {l : Bool} {i j : Nat} (ga : gW a) (gb : gW b) (h : isSd a b l i j) : sX l i j < 128 := by
  have a2 := ga.2.1
  have b2 := gb.2.1
  unfold sX
  cases l with
  | true => have h' : i < wn a ∧ j + 1 < wn b := h; rw [if_pos rfl]; omega
  | false => have h' : i + 1 < wn a ∧ j < wn b := h; rw [if_neg (by decide)]; omega
theorem w217_s {M : MM} {a b : WY} {n d : Int} {l : Bool} {i j : Nat} {P : MM → Prop} (hL : Lay M) (hR : RAB M a b) (hD : REd M n d) (ga : gW a) (gb : gW b) (hE : gE n d) (h : isSd a b l i j) (h6 : mI M 216 (sX l i j) = bI false)
    (hX : ∀ M', Fr (sFr (sX l i j)) M M' → rfS M' (sX l i j) (xL a b l i j) (xF a b l i j) (xS a b l i j) n d → P M') : w217 203 (bI l) (jI (i : Int)) (jI (j : Int)) M P := by
  have hs := sX_lt ga gb h
  have hB := xB ga gb h
  refine w218_s ⟨kd_203 hL, w219_s hL hR ga gb h ?_⟩
  generalize sX l i j = s at *
  generalize xL a b l i j = L at *
  generalize xF a b l i j = f at *
  generalize xS a b l i j = q at *
  intro c hc
  have hm := sdB_m hB hE
  have hL0 := hB.1
  have hd0 := hE.2.2.1
  have hd1 := hE.2.2.2
  have hB' := hB
  unfold sdB at hB'
  have hF1 : Fr (sFr s) M (leM M f c L) := Fr_sL (Fr_sL (Fr_sL Fr_r (sFr_1 (by omega))) (sFr_1 (by omega))) (sFr_1 (by omega))
  have hL1 : Lay (leM M f c L) := hL
  have f31 : mL (leM M f c L) 203 31 = jL f := by unfold leM; simp (disch := omega) only [gI_y, gI_n, gL_y, gL_n, gR_y, gR_n, gI_sL, gI_sR, gL_sI, gL_sR, gR_sI, gR_sL]
  have f32 : mL (leM M f c L) 203 32 = jL c := by unfold leM; simp (disch := omega) only [gI_y, gI_n, gL_y, gL_n, gR_y, gR_n, gI_sL, gI_sR, gL_sI, gL_sR, gR_sI, gR_sL]
  have f33 : mL (leM M f c L) 203 33 = jL L := by unfold leM; simp (disch := omega) only [gI_y, gI_n, gL_y, gL_n, gR_y, gR_n, gI_sL, gI_sR, gL_sI, gL_sR, gR_sI, gR_sL]
  have f29 : mL (leM M f c L) 203 29 = jL n := by unfold leM; simp (disch := omega) only [gI_y, gI_n, gL_y, gL_n, gR_y, gR_n, gI_sL, gI_sR, gL_sI, gL_sR, gR_sI, gR_sL, hD.1]
  have f30 : mL (leM M f c L) 203 30 = jL d := by unfold leM; simp (disch := omega) only [gI_y, gI_n, gL_y, gL_n, gR_y, gR_n, gI_sL, gI_sR, gL_sI, gL_sR, gR_sI, gR_sL, hD.2]
  have f216 : mI (leM M f c L) 216 s = bI false := h6
  generalize leM M f c L = M1 at *
  have eD : L * n - c * c * d = dD L n d f q := by rw [hc]; rfl
  simp (disch := omega) only [kd_sI, kd_sL, kd_sR, true_and, and_true, Option.some.injEq, exists_eq_left', kd_203 hL1, rf_203_44 hL1, rf_203_34 hL1, i224 hL1, jI_cn, gI_y, gI_n, gL_y, gL_n, gR_y, gR_n, gI_sL, gI_sR, gL_sI, gL_sR, gR_sI, gR_sL, f31, f32, f33, f29, f30, jL_mul, jL_sub, eD]
  have go := fun z hz => w217_107_s (M := sL M1 224 s (jL L)) (L := L) (f := f) (q := q) (n := n) (d := d) (lay_sL hL1) (Fr_sL hF1 (sFr_2 (by omega))) hs hB hE (by simp (disch := omega) only [gI_y, gI_n, gL_y, gL_n, gR_y, gR_n, gI_sL, gI_sR, gL_sI, gL_sR, gR_sI, gR_sL, f30]) (by simp (disch := omega) only [gI_y, gI_n, gL_y, gL_n, gR_y, gR_n, gI_sL, gI_sR, gL_sI, gL_sR, gR_sI, gR_sL, f31]) (by simp (disch := omega) only [gI_y, gI_n, gL_y, gL_n, gR_y, gR_n, gI_sL, gI_sR, gL_sI, gL_sR, gR_sI, gR_sL, f33]) (by simp (disch := omega) only [gI_y, gI_n, gL_y, gL_n, gR_y, gR_n, gI_sL, gI_sR, gL_sI, gL_sR, gR_sI, gR_sL]) (by simp (disch := omega) only [gI_y, gI_n, gL_y, gL_n, gR_y, gR_n, gI_sL, gI_sR, gL_sI, gL_sR, gR_sI, gR_sL, f216]) hX z hz
  have m1 := mul_b (x := f) (y := f) (B := 648) (C := 648) (by omega) (by omega) (by omega) (by omega)
  have m2 := mul_p (sqr_p f) (show 0 ≤ d by omega)
  have m3 := mul_mono (show f * f ≤ 648 * 648 by omega) hd1 (by omega) (by omega)
  have m4 := mul_b (x := f - L) (y := f - L) (B := 1296) (C := 1296) (by omega) (by omega) (by omega) (by omega)
  have m5 := mul_p (sqr_p (f - L)) (show 0 ≤ d by omega)
  have m6 := mul_mono (show (f - L) * (f - L) ≤ 1296 * 1296 by omega) hd1 (by omega) (by omega)
  have fr := fr_ref (n := n) (s := q) (f := f) hL0 hd0
  have sg3 : ∀ x, -1 ≤ sgn x ∧ sgn x ≤ 1 := fun x => by unfold sgn; omega
  unfold w217_56 w217_106
  simp (disch := omega) only [kd_sI, kd_sL, kd_sR, true_and, and_true, Option.some.injEq, exists_eq_left', kd_203 hL1, gI_y, gI_n, gL_y, gL_n, gR_y, gR_n, gI_sL, gI_sR, gL_sI, gL_sR, gR_sI, gR_sL, f31, f33, lc_le, lc_ge, lc_lt, lc_gt, lc_eq, ne_eq, jI_lit, jL_lit, jI_add, jI_sub, jI_mul, jI_neg, jL_add, jL_sub, jL_mul, jL_neg, jL_i, jI_eq, jI_le, jI_lt, jL_eq, jL_le, jL_lt, jI_l]
  refine ⟨fun y => go 0 ?_, fun y => ?_⟩
  · rw [if_neg (fun t => by have := (fr.mp t).1; omega)]
  · have D0 : 0 ≤ dD L n d f q := by omega
    rw [← sg_ge hd0 D0, ← sg_le hd0 D0] at fr
    have s1 := sg3 (sq2 f * d + dD L n d f q)
    have s2 := sg3 (sq2 (f - L) * d + -1 * dD L n d f q)
    refine w220_s (d := d) (lay_sL hL1) (by simp (disch := omega) only [gI_y, gI_n, gL_y, gL_n, gR_y, gR_n, gI_sL, gI_sR, gL_sI, gL_sR, gR_sI, gR_sL, f30]) (Or.inl rfl) (Or.inl rfl) D0 (by omega) (by omega) (by omega) (by omega) (by omega) (by omega) (by omega) ?_
    rw [refC_1 (Or.inl rfl) D0 hd0, Int.one_mul, jI_lt (by omega) (by omega) (by omega) (by omega)]
    refine ⟨fun y2 => go 0 ?_, fun y2 => ?_⟩
    · rw [if_neg (fun t => by have := (fr.mp t).2.1; omega)]
    · simp (disch := omega) only [kd_sI, kd_sL, kd_sR, true_and, and_true, Option.some.injEq, exists_eq_left', kd_203 hL1, gI_y, gI_n, gL_y, gL_n, gR_y, gR_n, gI_sL, gI_sR, gL_sI, gL_sR, gR_sI, gR_sL, f31, f33, jI_lit, jL_lit, jI_add, jI_sub, jI_mul, jI_neg, jL_add, jL_sub, jL_mul, jL_neg, jL_i]
      refine w220_s (d := d) (lay_sL hL1) (by simp (disch := omega) only [gI_y, gI_n, gL_y, gL_n, gR_y, gR_n, gI_sL, gI_sR, gL_sI, gL_sR, gR_sI, gR_sL, f30]) (Or.inr rfl) (Or.inl rfl) D0 (by omega) (by omega) (by omega) (by omega) (by omega) (by omega) (by omega) ?_
      rw [refC_1 (Or.inr rfl) D0 hd0, jI_lt (by omega) (by omega) (by omega) (by omega)]
      refine ⟨fun y3 => go 0 ?_, fun y3 => go 1 ?_⟩
      · rw [if_neg (fun t => by have := (fr.mp t).2.2; omega)]
      · rw [if_pos (fr.mpr ⟨D0, by omega, by omega⟩)]
/-- what stays of the ways and the leash -/
def sFA (x k : Nat) : Bool := (Nat.beq x 203 && (Nat.ble 31 k && Nat.ble k 33)) || (Nat.ble 214 x && Nat.ble x 224)
theorem sFA_f {x k : Nat} (h1 : ¬ (x = 203 ∧ 31 ≤ k ∧ k ≤ 33)) (h2 : ¬ (214 ≤ x ∧ x ≤ 224)) : sFA x k = false := sB_f h1 h2
theorem sFA_t {x k : Nat} (h : 214 ≤ x ∧ x ≤ 224) : sFA x k = true := sB_t2 (o := 203) (c := 31) (d := 33) h
theorem sFr_A {s x k : Nat} (h : sFA x k = false) : sFr s x k = false := by
  refine sFr_f (fun z => ?_) (fun z => ?_)
  · rw [z.1, show sFA 203 k = sB 203 31 33 214 224 203 k from rfl, sB_t1 z.2] at h; cases h
  · rw [sFA_t (by omega)] at h; cases h
theorem RAB_fr {S : Nat → Nat → Bool} {M M' : MM} {a b : WY} (hF : Fr S M M') (h1 : S 203 27 = false) (h2 : S 203 28 = false) (h3 : ∀ x k, 210 ≤ x → x ≤ 213 → S x k = false) (h : RAB M a b) : RAB M' a b :=
  ⟨(Fr_I hF h1).trans h.1, (Fr_I hF h2).trans h.2.1, fun i hi => ⟨(Fr_I hF (h3 210 i (by omega) (by omega))).trans (h.2.2.1 i hi).1, (Fr_I hF (h3 211 i (by omega) (by omega))).trans (h.2.2.1 i hi).2⟩, fun i hi => ⟨(Fr_I hF (h3 212 i (by omega) (by omega))).trans (h.2.2.2 i hi).1, (Fr_I hF (h3 213 i (by omega) (by omega))).trans (h.2.2.2 i hi).2⟩⟩
theorem REd_fr {S : Nat → Nat → Bool} {M M' : MM} {n d : Int} (hF : Fr S M M') (h1 : S 203 29 = false) (h2 : S 203 30 = false) (h : REd M n d) : REd M' n d := ⟨(Fr_L hF h1).trans h.1, (Fr_L hF h2).trans h.2⟩
theorem RAB_A {M M' : MM} {a b : WY} (hF : Fr sFA M M') (h : RAB M a b) : RAB M' a b := RAB_fr hF (sFA_f (by omega) (by omega)) (sFA_f (by omega) (by omega)) (fun x k h1 h2 => sFA_f (by omega) (by omega)) h
theorem REd_A {M M' : MM} {n d : Int} (hF : Fr sFA M M') (h : REd M n d) : REd M' n d := REd_fr hF (sFA_f (by omega) (by omega)) (sFA_f (by omega) (by omega)) h
theorem rfS_fr {S : Nat → Nat → Bool} {M M' : MM} {s : Nat} {L f q n d : Int} (hF : Fr S M M') (hS : ∀ x, 214 ≤ x → x ≤ 224 → x ≠ 215 → x ≠ 221 → x ≠ 222 → x ≠ 223 → S x s = false) (h : rfS M s L f q n d) : rfS M' s L f q n d := by
  obtain ⟨h1, h2, h3, h4⟩ := h
  refine ⟨(Fr_I hF (hS 214 (by omega) (by omega) (by omega) (by omega) (by omega) (by omega))).trans h1, (Fr_L hF (hS 224 (by omega) (by omega) (by omega) (by omega) (by omega) (by omega))).trans h2, fun z => ?_, fun z => ?_⟩
  · obtain ⟨q1, q2, q3, q4, q5⟩ := h3 z
    exact ⟨(Fr_L hF (hS 217 (by omega) (by omega) (by omega) (by omega) (by omega) (by omega))).trans q1, (Fr_L hF (hS 218 (by omega) (by omega) (by omega) (by omega) (by omega) (by omega))).trans q2, (Fr_L hF (hS 219 (by omega) (by omega) (by omega) (by omega) (by omega) (by omega))).trans q3, (Fr_L hF (hS 220 (by omega) (by omega) (by omega) (by omega) (by omega) (by omega))).trans q4, (Fr_I hF (hS 216 (by omega) (by omega) (by omega) (by omega) (by omega) (by omega))).trans q5⟩
  · exact (Fr_I hF (hS 216 (by omega) (by omega) (by omega) (by omega) (by omega) (by omega))).trans (h4 z)
/-- sides done, in the order of freesAll: LEFT ones row by row, then LOWER ones -/
def dn (l : Bool) (i j : Nat) (l' : Bool) (i' j' : Nat) : Prop := (l = false ∧ l' = true) ∨ (l = l' ∧ (i' < i ∨ (i' = i ∧ j' < j)))
def FI (M0 : MM) (a b : WY) (n d : Int) (l : Bool) (i j : Nat) (M : MM) : Prop :=
  Fr sFA M0 M ∧ (∀ s, s < 128 → mI M 215 s = bI false) ∧
  (∀ l' i' j', isSd a b l' i' j' → dn l i j l' i' j' → rfS M (sX l' i' j') (xL a b l' i' j') (xF a b l' i' j') (xS a b l' i' j') n d) ∧
  (∀ s, s < 128 → (∀ l' i' j', isSd a b l' i' j' → dn l i j l' i' j' → sX l' i' j' ≠ s) → mI M 214 s = bI false ∧ mI M 216 s = bI false)
theorem sX_inj {a b : WY} {l l' : Bool} {i j i' j' : Nat} (ga : gW a) (gb : gW b) (h : isSd a b l i j) (h' : isSd a b l' i' j') (e : sX l i j = sX l' i' j') : l = l' ∧ i = i' ∧ j = j' := by
  have a2 := ga.2.1
  have b2 := gb.2.1
  unfold sX at e
  cases l <;> cases l' <;> simp only [Bool.false_eq_true, if_false, if_true] at e
  · have q : i + 1 < wn a ∧ j < wn b := h
    have q' : i' + 1 < wn a ∧ j' < wn b := h'
    exact ⟨rfl, by omega, by omega⟩
  · have q : i + 1 < wn a ∧ j < wn b := h
    have q' : i' < wn a ∧ j' + 1 < wn b := h'
    omega
  · have q : i < wn a ∧ j + 1 < wn b := h
    have q' : i' + 1 < wn a ∧ j' < wn b := h'
    omega
  · have q : i < wn a ∧ j + 1 < wn b := h
    have q' : i' < wn a ∧ j' + 1 < wn b := h'
    exact ⟨rfl, by omega, by omega⟩
/-- one more side -/
theorem FI_s {M0 M : MM} {a b : WY} {n d : Int} {l : Bool} {i j : Nat} {P : MM → Prop} (hL0 : Lay M0) (hR : RAB M0 a b) (hD : REd M0 n d) (ga : gW a) (gb : gW b) (hE : gE n d) (h : isSd a b l i j) (hI : FI M0 a b n d l i j M) (hX : ∀ M', FI M0 a b n d l i (j + 1) M' → P M') : w217 203 (bI l) (jI (i : Int)) (jI (j : Int)) M P := by
  obtain ⟨hF, h1, h2, h3⟩ := hI
  have hs := sX_lt ga gb h
  have hne : ∀ l' i' j', isSd a b l' i' j' → dn l i j l' i' j' → sX l' i' j' ≠ sX l i j := by
    intro l' i' j' hs' hd e
    obtain ⟨rfl, rfl, rfl⟩ := sX_inj ga gb hs' h e
    unfold dn at hd
    rcases hd with hd | hd
    · cases l' <;> simp at hd
    · omega
  refine w217_s (hF.1 hL0) (RAB_A hF hR) (REd_A hF hD) ga gb hE h (h3 _ hs hne).2 ?_
  intro M' hF' hr
  refine hX M' ⟨Fr_t hF (Fr_w hF' (fun x k q => sFr_A q)), fun s q => (Fr_I hF' (sFr_f (by omega) (by omega))).trans (h1 s q), ?_, ?_⟩
  · intro l' i' j' hs' hd
    by_cases e : l' = l ∧ i' = i ∧ j' = j
    · obtain ⟨rfl, rfl, rfl⟩ := e
      exact hr
    · have hd' : dn l i j l' i' j' := by
        unfold dn at *
        rcases hd with hd | hd
        · exact Or.inl hd
        · right
          refine ⟨hd.1, ?_⟩
          by_cases z : i' = i
          · by_cases w : j' = j
            · exact absurd ⟨hd.1.symm, z, w⟩ e
            · omega
          · omega
      refine rfS_fr hF' (fun x q1 q2 q3 q4 q5 q6 => sFr_f (by omega) (fun z => hne l' i' j' hs' hd' z.2.2.2)) (h2 l' i' j' hs' hd')
  · intro s q hz
    have hz1 : sX l i j ≠ s := hz l i j h (Or.inr ⟨rfl, Or.inr ⟨rfl, by omega⟩⟩)
    have hz2 := h3 s q (fun l' i' j' x y => hz l' i' j' x (by
      unfold dn at *
      rcases y with y | y
      · exact Or.inl y
      · exact Or.inr ⟨y.1, by omega⟩))
    exact ⟨(Fr_I hF' (sFr_f (by omega) (fun z => hz1 z.2.2.2.symm))).trans hz2.1, (Fr_I hF' (sFr_f (by omega) (fun z => hz1 z.2.2.2.symm))).trans hz2.2⟩
