/-! ===== places in thousandths ===== -/
def bsr (p : Int → Bool) : Nat → Int → Int → Int
  | 0, lo, _ => lo
  | n + 1, lo, hi => if hi ≤ lo then lo else if p ((lo + hi + 1) / 2) = true then bsr p n ((lo + hi + 1) / 2) hi else bsr p n lo ((lo + hi + 1) / 2 - 1)
def thP (L d base g root : Int) (h : Int) : Bool := decide (0 ≤ sgn (sq2 (1000 * base - h * L) * d + g * (1000000 * root)))
def thou (L d base g root : Int) : Int := bsr (thP L d base g root) 10 0 1000
theorem bsr_f {p : Int → Bool} : ∀ (m : Nat) (lo hi : Int), (∀ h, lo < h → p h = false) → bsr p m lo hi = lo := by
  intro m
  induction m with
  | zero => intro lo hi _; rfl
  | succ m ih =>
    intro lo hi hp
    unfold bsr
    by_cases e : hi ≤ lo
    · rw [if_pos e]
    · rw [if_neg e, if_neg (by rw [hp _ (by omega)]; decide)]
      exact ih _ _ hp
theorem bsr_t {p : Int → Bool} : ∀ (m : Nat) (lo hi : Int), lo ≤ hi → hi - lo < 2 ^ m → (∀ h, h ≤ hi → p h = true) → bsr p m lo hi = hi := by
  intro m
  induction m with
  | zero =>
    intro lo hi h1 h2 _
    have : (2 : Int) ^ 0 = 1 := rfl
    show lo = hi
    omega
  | succ m ih =>
    intro lo hi h1 h2 hp
    unfold bsr
    rw [Int.pow_succ] at h2
    by_cases e : hi ≤ lo
    · rw [if_pos e]; omega
    · rw [if_neg e, if_pos (hp _ (by omega))]
      exact ih _ _ (by omega) (by omega) hp
theorem thou_fs {L d g : Int} (hL : 0 < L) (hd : 0 < d) : thou L d 0 g 0 = 0 := by
  refine bsr_f 10 0 1000 (fun h hh => ?_)
  unfold thP
  refine decide_eq_false ?_
  have hl := Int.mul_pos hh hL
  rw [Int.mul_zero, Int.mul_zero, Int.mul_zero, Int.add_zero, Int.zero_sub, sq2_m (by omega)]
  have := Int.mul_pos (sqr_pp (show -(h * L) ≠ 0 by omega)) hd
  rw [sgn_m (by rw [Int.neg_mul]; omega)]
  omega
theorem thou_te {L d g : Int} (hL : 0 < L) (hd : 0 < d) : thou L d L g 0 = 1000 := by
  refine bsr_t 10 0 1000 (by omega) (by decide) (fun h hh => ?_)
  unfold thP
  refine decide_eq_true ?_
  have hl := mul_p (show 0 ≤ 1000 - h by omega) (show 0 ≤ L by omega)
  have e : (1000 - h) * L = 1000 * L - h * L := by grind
  rw [Int.mul_zero, Int.mul_zero, Int.add_zero, sq2_p (by omega)]
  have := mul_p (sqr_p (1000 * L - h * L)) (show 0 ≤ d by omega)
  unfold sgn
  omega
theorem thou_g {L d base g g' root : Int} (h : g = g' ∨ root = 0) : thou L d base g root = thou L d base g' root := by
  rcases h with rfl | rfl
  · rfl
  · unfold thou
    have : thP L d base g 0 = thP L d base g' 0 := by
      funext x
      unfold thP
      rw [Int.mul_zero, Int.mul_zero, Int.mul_zero]
    rw [this]
theorem bsr_b {p : Int → Bool} : ∀ (m : Nat) (lo hi : Int), 0 ≤ lo → lo ≤ hi → hi ≤ 1000 → 0 ≤ bsr p m lo hi ∧ bsr p m lo hi ≤ 1000 := by
  intro m
  induction m with
  | zero => intro lo hi _ _ _; show 0 ≤ lo ∧ lo ≤ 1000; omega
  | succ m ih =>
    intro lo hi h1 h2 h3
    unfold bsr
    by_cases e : hi ≤ lo
    · rw [if_pos e]; omega
    · rw [if_neg e]
      by_cases c : p ((lo + hi + 1) / 2) = true
      · rw [if_pos c]; exact ih _ _ (by omega) (by omega) h3
      · rw [if_neg c]; exact ih _ _ h1 (by omega) (by omega)
theorem jI_h {x : Int} (h0 : 0 ≤ x) (h1 : x < 2147483648) : jI x / jI 2 = jI (x / 2) := jI_div h0 h1 (by omega) (by omega)
theorem two_ne : ¬ jI 2 = jI 0 := by decide
theorem w228_8_s {M : MM} {L d base g root : Int} {P : Int32 → MM → Prop} (hL : Lay M) (hed : mL M 203 30 = jL d) (hd : 0 < d) (hd1 : d ≤ 1679616) (hg : g = 1 ∨ g = -1) (l0 : 0 < L) (l1 : L ≤ 648) (c0 : -648 ≤ base) (c1 : base ≤ 648) (r0 : 0 ≤ root) (r1 : root ≤ 705277476864) :
    ∀ (m : Nat) (lo hi : Int), 0 ≤ lo → lo ≤ hi → hi ≤ 1000 → hi - lo < 2 ^ m → P (jI (bsr (thP L d base g root) m lo hi)) M → w228_8 (m + 1) 203 (jL base) (jI g) (jL root) (jL L) (jI lo) (jI hi) M P := by
  intro m
  induction m with
  | zero =>
    intro lo hi h1 h2 h3 h4 hP
    have : (2 : Int) ^ 0 = 1 := rfl
    unfold w228_8
    simp (disch := omega) only [jI_eq, jI_le, jI_lt, jL_eq, jL_le, jL_lt, jI_l]
    exact br_t (by omega) hP
  | succ m ih =>
    intro lo hi h1 h2 h3 h4 hP
    rw [Int.pow_succ] at h4
    unfold bsr at hP
    unfold w228_8
    simp (disch := omega) only [jI_lit, jL_lit, jI_add, jI_sub, jI_mul, jI_neg, jL_add, jL_sub, jL_mul, jL_neg, jL_i, jI_eq, jI_le, jI_lt, jL_eq, jL_le, jL_lt, jI_l]
    by_cases e : hi ≤ lo
    · rw [if_pos e] at hP
      exact br_t e hP
    · rw [if_neg e] at hP
      refine br_f e ⟨by omega, kd_203 hL, ?_⟩
      simp (disch := omega) only [jI_h, jI_l, jI_lit, jL_lit, jI_add, jI_sub, jI_mul, jI_neg, jL_add, jL_sub, jL_mul, jL_neg, jL_i]
      have hm0 : 0 ≤ (lo + hi + 1) / 2 := by omega
      have hm1 : (lo + hi + 1) / 2 ≤ 1000 := by omega
      have hlo : (lo + hi + 1) / 2 ≤ hi ∧ lo < (lo + hi + 1) / 2 := by omega
      have hw : hi - (lo + hi + 1) / 2 < 2 ^ m ∧ (lo + hi + 1) / 2 - 1 - lo < 2 ^ m := by omega
      generalize (lo + hi + 1) / 2 = h at *
      have m1 := mul_p hm0 (show 0 ≤ L by omega)
      have m2 := mul_mono hm1 l1 (by omega) (by omega)
      have m3 := mul_b (x := 1000 * base - h * L) (y := 1000 * base - h * L) (B := 1296000) (C := 1296000) (by omega) (by omega) (by omega) (by omega)
      have m4 := mul_p (sqr_p (1000 * base - h * L)) (show 0 ≤ d by omega)
      have m5 := mul_mono (show (1000 * base - h * L) * (1000 * base - h * L) ≤ 1296000 * 1296000 by omega) hd1 (by omega) (by omega)
      have s3 : -1 ≤ sgn (sq2 (1000 * base - h * L) * d + g * (1000000 * root)) ∧ sgn (sq2 (1000 * base - h * L) * d + g * (1000000 * root)) ≤ 1 := by unfold sgn; omega
      refine w220_s (d := d) hL hed hg (Or.inl rfl) (show 0 ≤ 1000000 * root by omega) (by omega) (by omega) (by omega) (by omega) (by omega) (by omega) (by omega) ?_
      rw [refC_1 hg (show 0 ≤ 1000000 * root by omega) hd, jI_lt (by omega) (by omega) (by omega) (by omega)]
      have hp : thP L d base g root h = true ↔ 0 ≤ sgn (sq2 (1000 * base - h * L) * d + g * (1000000 * root)) := decide_eq_true_iff
      refine ⟨fun c => ?_, fun c => ?_⟩
      · rw [if_neg (fun z => by have := hp.mp z; omega)] at hP
        exact ih lo (h - 1) h1 (by omega) (by omega) hw.2 hP
      · rw [if_pos (hp.mpr (by omega))] at hP
        exact ih h hi (by omega) hlo.1 h3 hw.1 hP
theorem w228_s {M : MM} {L d base g root : Int} {P : Int32 → MM → Prop} (hL : Lay M) (hed : mL M 203 30 = jL d) (hd : 0 < d) (hd1 : d ≤ 1679616) (hg : g = 1 ∨ g = -1) (l0 : 0 < L) (l1 : L ≤ 648) (c0 : -648 ≤ base) (c1 : base ≤ 648) (r0 : 0 ≤ root) (r1 : root ≤ 705277476864) (hP : P (jI (thou L d base g root)) M) : w228 203 (jL base) (jI g) (jL root) (jL L) M P :=
  ⟨11, w228_8_s hL hed hd hd1 hg l0 l1 c0 c1 r0 r1 10 0 1000 (by omega) (by omega) (by omega) (by decide) hP⟩
theorem w88_9_s {M : MM} {o : Nat} {L d f D x : Int} {P : Int32 → MM → Prop} (ho : kd M o 7) (h0 : mL M o 0 = jL L) (h1 : mL M o 1 = jL f) (h5 : mL M o 5 = jL d) (h6 : mL M o 6 = jL D) (hd : 0 < d) (hd1 : d ≤ 1679616) (hx : x = 1 ∨ x = -1) (l0 : 0 < L) (l1 : L ≤ 648) (c0 : -648 ≤ f) (c1 : f ≤ 648) (r0 : 0 ≤ D) (r1 : D ≤ 705277476864) :
    ∀ (m : Nat) (lo hi : Int) (r : Nat), 0 ≤ lo → lo ≤ hi → hi ≤ 1000 → hi - lo < 2 ^ m → r + m = 10 → P (jI (bsr (thP L d f x D) m lo hi)) M → w88_9 (m + 1) o (jI x) (jI lo) (jI hi) (jI (r : Int)) M P := by
  intro m
  induction m with
  | zero =>
    intro lo hi r g1 g2 g3 g4 hr hP
    unfold w88_9 w88_94
    simp (disch := omega) only [jI_lit, jL_lit, jI_add, jI_sub, jI_mul, jI_neg, jL_add, jL_sub, jL_mul, jL_neg, jL_i, jI_eq, jI_le, jI_lt, jL_eq, jL_le, jL_lt, jI_l]
    exact br_t (by omega) hP
  | succ m ih =>
    intro lo hi r g1 g2 g3 g4 hr hP
    rw [Int.pow_succ] at g4
    unfold bsr at hP
    unfold w88_9 w88_94
    simp (disch := omega) only [jI_lit, jL_lit, jI_add, jI_sub, jI_mul, jI_neg, jL_add, jL_sub, jL_mul, jL_neg, jL_i, jI_eq, jI_le, jI_lt, jL_eq, jL_le, jL_lt, jI_l]
    refine br_f (by omega) ?_
    by_cases e : hi ≤ lo
    · rw [if_pos e] at hP
      exact br_t e hP
    · rw [if_neg e] at hP
      refine br_f e ⟨by omega, ho, ho, ho, ho, ho, ?_⟩
      simp (disch := omega) only [jI_h, jI_l, h0, h1, h5, h6, jI_lit, jL_lit, jI_add, jI_sub, jI_mul, jI_neg, jL_add, jL_sub, jL_mul, jL_neg, jL_i]
      have hm0 : 0 ≤ (lo + hi + 1) / 2 := by omega
      have hm1 : (lo + hi + 1) / 2 ≤ 1000 := by omega
      have hlo : (lo + hi + 1) / 2 ≤ hi ∧ lo < (lo + hi + 1) / 2 := by omega
      have hw : hi - (lo + hi + 1) / 2 < 2 ^ m ∧ (lo + hi + 1) / 2 - 1 - lo < 2 ^ m := by omega
      generalize (lo + hi + 1) / 2 = h at *
      have m1 := mul_p hm0 (show 0 ≤ L by omega)
      have m2 := mul_mono hm1 l1 (by omega) (by omega)
      have m3 := mul_b (x := 1000 * f - h * L) (y := d) (B := 1296000) (C := 1679616) (by omega) (by omega) (by omega) (by omega)
      have m4 := mul_p r0 (show 0 ≤ d by omega)
      have m5 := mul_mono r1 hd1 (by omega) (by omega)
      refine w86_s (by omega) (by omega) (by omega) (by omega) m4 (by omega) ?_
      have es : sg1 ((1000 * f - h * L) * d) (1000 * x) (D * d) = sgn (sq2 (1000 * f - h * L) * d + x * (1000000 * D)) := by
        unfold sg1
        rw [sq2_mul (by omega)]
        have e2 : sq2 (1000 * x) = x * 1000000 := by rcases hx with rfl | rfl <;> rfl
        rw [e2]
        have e3 : sq2 (1000 * f - h * L) * (d * d) + x * 1000000 * (D * d) = d * (sq2 (1000 * f - h * L) * d + x * (1000000 * D)) := by grind
        rw [e3, sgn_mul hd]
      rw [es]
      have s3 : -1 ≤ sgn (sq2 (1000 * f - h * L) * d + x * (1000000 * D)) ∧ sgn (sq2 (1000 * f - h * L) * d + x * (1000000 * D)) ≤ 1 := by unfold sgn; omega
      rw [jI_lt (by omega) (by omega) (by omega) (by omega)]
      unfold w88_88
      simp only [jI_lit, jL_lit, jI_add, jI_sub, jI_mul, jI_neg, jL_add, jL_sub, jL_mul, jL_neg, jL_i, c_s1]
      have hp : thP L d f x D h = true ↔ 0 ≤ sgn (sq2 (1000 * f - h * L) * d + x * (1000000 * D)) := decide_eq_true_iff
      refine ⟨fun c => ?_, fun c => ?_⟩
      · rw [if_neg (fun z => by have := hp.mp z; omega)] at hP
        exact ih lo (h - 1) (r + 1) g1 (by omega) (by omega) hw.2 (by omega) hP
      · rw [if_pos (hp.mpr (by omega))] at hP
        exact ih h hi (r + 1) (by omega) hlo.1 g3 hw.1 (by omega) hP
theorem w87_s {M : MM} {o : Nat} {L f s n d : Int} {P : Int32 → MM → Prop} (ho : kd M o 7) (eo : sdE M o L f s n d) (hB : sdB L f s) (hE : gE n d) (hf : frB L n d f s = true) (hP : P (jI (thou L d (if fsB n d s = true then 0 else f) (-1) (if fsB n d s = true then 0 else dD L n d f s))) M) : w87 o M P := by
  have hm := sdB_m hB hE
  have D0 := fr_D hB.1 hE.2.2.1 hf
  have hB' := hB
  unfold sdB at hB'
  obtain ⟨⟨b0, b1, b2, b3, b4⟩, b5, b6, b7, b8, b9⟩ := eo
  refine ⟨ho, ?_⟩
  rw [b7]
  cases k1 : fsB n d s with
  | true =>
    rw [k1, if_pos rfl, if_pos rfl, thou_fs hB.1 hE.2.2.1] at hP
    exact br_f (by decide) hP
  | false =>
    rw [k1, if_neg (by decide), if_neg (by decide)] at hP
    exact br_t rfl ⟨ho, 11, w88_9_s (r := 0) ho b0 b1 b5 b6 hE.2.2.1 hE.2.2.2 (Or.inr rfl) hB.1 (by omega) (by omega) (by omega) D0 (by omega) 10 0 1000 (by omega) (by omega) (by omega) (by decide) (by omega) hP⟩
theorem w89_s {M : MM} {o : Nat} {L f s n d : Int} {P : Int32 → MM → Prop} (ho : kd M o 7) (eo : sdE M o L f s n d) (hB : sdB L f s) (hE : gE n d) (hf : frB L n d f s = true) (hP : P (jI (thou L d (if teB L n d f s = true then L else f) 1 (if teB L n d f s = true then 0 else dD L n d f s))) M) : w89 o M P := by
  have hm := sdB_m hB hE
  have D0 := fr_D hB.1 hE.2.2.1 hf
  have hB' := hB
  unfold sdB at hB'
  obtain ⟨⟨b0, b1, b2, b3, b4⟩, b5, b6, b7, b8, b9⟩ := eo
  refine ⟨ho, ?_⟩
  rw [b8]
  cases k1 : teB L n d f s with
  | true =>
    rw [k1, if_pos rfl, if_pos rfl, thou_te hB.1 hE.2.2.1] at hP
    exact br_f (by decide) hP
  | false =>
    rw [k1, if_neg (by decide), if_neg (by decide)] at hP
    exact br_t rfl ⟨ho, 11, w88_9_s (r := 0) ho b0 b1 b5 b6 hE.2.2.1 hE.2.2.2 (Or.inl rfl) hB.1 (by omega) (by omega) (by omega) D0 (by omega) 10 0 1000 (by omega) (by omega) (by omega) (by decide) (by omega) hP⟩
