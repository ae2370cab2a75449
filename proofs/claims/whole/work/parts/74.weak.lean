/-! ===== WEAK: cells come to over free sides ===== -/
def bt (x : Int64) (p : Nat) : Bool := x.toBitVec.getLsbD p
theorem bt_or (x y : Int64) (p : Nat) : bt (x ||| y) p = (bt x p || bt y p) := by
  show (x.toBitVec ||| y.toBitVec).getLsbD p = _
  rw [BitVec.getLsbD_or]; rfl
theorem bt_and (x y : Int64) (p : Nat) : bt (x &&& y) p = (bt x p && bt y p) := by
  show (x.toBitVec &&& y.toBitVec).getLsbD p = _
  rw [BitVec.getLsbD_and]; rfl
theorem bt_0 (p : Nat) : bt 0 p = false := by
  show (0#64).getLsbD p = false
  rw [BitVec.getLsbD_zero]
theorem bt_ge {x : Int64} {p : Nat} (h : 64 ≤ p) : bt x p = false := BitVec.getLsbD_of_ge _ _ h
theorem bt_ext {x y : Int64} (h : ∀ p, p < 64 → bt x p = bt y p) : x = y := Int64.toBitVec_inj.mp (BitVec.eq_of_getLsbD_eq (fun p hp => h p hp))
theorem smod_c : ∀ c : Nat, c < 49 → ((jI (c : Int)).toInt64 &&& 63).toBitVec.smod 64 = BitVec.ofNat 64 c := by decide
theorem bt_pow {c p : Nat} (h : c < 64) : bt (lN (2 ^ c)) p = decide (p = c) := by
  show (BitVec.ofNat 64 (2 ^ c)).getLsbD p = _
  rw [BitVec.getLsbD_ofNat, Nat.testBit_two_pow]
  by_cases e : p = c
  · subst e
    rw [decide_eq_true h, decide_eq_true rfl]; rfl
  · rw [decide_eq_false e, decide_eq_false (p := c = p) (fun z => e z.symm), Bool.and_false]
theorem bt_1 (p : Nat) : bt 1 p = decide (p = 0) := bt_pow (c := 0) (by omega)
theorem w102_s {M : MM} {i j : Nat} {P : Int64 → MM → Prop} (hi : i < 7) (hj : j < 7) (hP : P (lN (2 ^ (7 * i + j))) M) : w102 (jI (i : Int)) (jI (j : Int)) M P := by
  show P ((1 : Int64) <<< (((jI (i : Int) * (7 : Int32)) + jI (j : Int)).toInt64 &&& 63)) M
  have e : (jI (i : Int) * (7 : Int32)) + jI (j : Int) = jI ((7 * i + j : Nat) : Int) := by
    rw [show (7 : Int32) = jI 7 from rfl, jI_mul, jI_add]; congr 1; omega
  rw [e]
  have hs := smod_c (7 * i + j) (by omega)
  generalize (jI ((7 * i + j : Nat) : Int)).toInt64 &&& 63 = y at hs ⊢
  have hk : 7 * i + j < 64 := by omega
  generalize 7 * i + j = c at hs hP hk
  have g : lN 1 <<< y = lN (1 * 2 ^ c) := g_shl hs hk rfl (by decide)
  rw [Nat.one_mul] at g
  rw [← g] at hP
  exact hP
theorem w103_s {M : MM} {x : Int64} {c d : Nat} {P : Int64 → MM → Prop} (hc : c < 64) (hd : d < 64) (hX : ∀ y, (∀ p, bt y p = (bt x p || ((bt x c || bt x d) && (decide (p = c) || decide (p = d))))) → P y M) : w103 x (lN (2 ^ c) ||| lN (2 ^ d)) M P := by
  have e : ∀ p, bt (lN (2 ^ c) ||| lN (2 ^ d)) p = (decide (p = c) || decide (p = d)) := fun p => by rw [bt_or, bt_pow hc, bt_pow hd]
  refine ⟨fun z => hX x (fun p => ?_), fun z => hX _ (fun p => ?_)⟩
  · have z' : x &&& (lN (2 ^ c) ||| lN (2 ^ d)) = 0 := (lc_eq _ _).mp z
    have h1 : bt x c = false := by
      have : bt (x &&& (lN (2 ^ c) ||| lN (2 ^ d))) c = bt 0 c := congrArg (fun v => bt v c) z'
      rw [bt_and, e, decide_eq_true rfl, Bool.true_or, Bool.and_true] at this
      exact this.trans (bt_0 c)
    have h2 : bt x d = false := by
      have : bt (x &&& (lN (2 ^ c) ||| lN (2 ^ d))) d = bt 0 d := congrArg (fun v => bt v d) z'
      rw [bt_and, e, decide_eq_true (rfl : d = d), Bool.or_true, Bool.and_true] at this
      exact this.trans (bt_0 d)
    rw [h1, h2, Bool.or_false, Bool.false_and, Bool.or_false]
  · rw [bt_or, e]
    have h : (bt x c || bt x d) = true := by
      cases hh : (bt x c || bt x d) with
      | true => rfl
      | false =>
        exfalso
        rw [Bool.or_eq_false_iff] at hh
        refine z ((lc_eq _ _).mpr (bt_ext (fun q _ => ?_)))
        rw [bt_and, e, bt_0]
        by_cases q1 : q = c
        · rw [q1, hh.1, Bool.false_and]
        · by_cases q2 : q = d
          · rw [q2, hh.2, Bool.false_and]
          · rw [decide_eq_false q1, decide_eq_false q2, Bool.or_false, Bool.and_false]
    rw [h, Bool.true_and]
/-! how many -/
def cdN (f : Nat → Bool) : Nat → Nat
  | 0 => 0
  | n + 1 => cdN f n + (if f n = true then 1 else 0)
theorem cdN_le (f : Nat → Bool) : ∀ n, cdN f n ≤ n
  | 0 => Nat.le_refl _
  | n + 1 => by
    have := cdN_le f n
    show cdN f n + (if f n = true then 1 else 0) ≤ n + 1
    split <;> omega
theorem cdN_mono {f g : Nat → Bool} : ∀ n, (∀ p, p < n → f p = true → g p = true) → cdN f n ≤ cdN g n
  | 0, _ => Nat.le_refl _
  | n + 1, h => by
    have := cdN_mono n (fun p hp => h p (by omega))
    show cdN f n + (if f n = true then 1 else 0) ≤ cdN g n + (if g n = true then 1 else 0)
    by_cases c : f n = true
    · rw [if_pos c, if_pos (h n (by omega) c)]; omega
    · rw [if_neg c]; omega
theorem cdN_lt {f g : Nat → Bool} : ∀ n, (∀ p, p < n → f p = true → g p = true) → (∃ p, p < n ∧ f p = false ∧ g p = true) → cdN f n < cdN g n
  | 0, _, h => by obtain ⟨p, h, _⟩ := h; omega
  | n + 1, h, ⟨p, h1, h2, h3⟩ => by
    have hm := cdN_mono n (fun p hp => h p (by omega))
    show cdN f n + (if f n = true then 1 else 0) < cdN g n + (if g n = true then 1 else 0)
    by_cases e : p = n
    · subst e
      rw [h2, h3, if_neg (by decide), if_pos rfl]; omega
    · have hl := cdN_lt n (fun p hp => h p (by omega)) ⟨p, by omega, h2, h3⟩
      by_cases c : f n = true
      · rw [if_pos c, if_pos (h n (by omega) c)]; omega
      · rw [if_neg c]; omega
/-! one join -/
theorem Sto_0 {an bn : Nat} {G : GG} : Sto an bn G 0 0 := fun _ h _ => h
theorem Sto_t {an bn : Nat} {G : GG} {i j : Nat} (h1 : i + 2 < an) (h2 : j + 1 < bn) (h3 : gF G true (i + 1) j = true) : Sto an bn G i j ↔ Sto an bn G (i + 1) j :=
  ⟨fun h Q h0 hc => (hc.1 i j h1 h2 h3).mp (h Q h0 hc), fun h Q h0 hc => (hc.1 i j h1 h2 h3).mpr (h Q h0 hc)⟩
theorem Sto_f {an bn : Nat} {G : GG} {i j : Nat} (h1 : i + 1 < an) (h2 : j + 2 < bn) (h3 : gF G false i (j + 1) = true) : Sto an bn G i j ↔ Sto an bn G i (j + 1) :=
  ⟨fun h Q h0 hc => (hc.2 i j h1 h2 h3).mp (h Q h0 hc), fun h Q h0 hc => (hc.2 i j h1 h2 h3).mpr (h Q h0 hc)⟩
