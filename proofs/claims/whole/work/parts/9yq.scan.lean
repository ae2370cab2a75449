/-! ===== tokens; the scanner of the class ===== -/
def run (f : Nat → Bool) : Nat → Nat → Nat
  | 0, p => p
  | m + 1, p => if f p = true then run f m (p + 1) else p
def isSp (T : Nat → Nat) (i : Nat) : Bool := decide (T i = 10 ∨ T i = 32)
def isLt (T : Nat → Nat) (i : Nat) : Bool := decide (97 ≤ T i ∧ T i ≤ 122)
def isDg (T : Nat → Nat) (i : Nat) : Bool := decide (48 ≤ T i ∧ T i ≤ 57)
theorem run_r {f : Nat → Bool} : ∀ (m p : Nat), p ≤ run f m p ∧ run f m p ≤ p + m ∧ (∀ i, p ≤ i → i < run f m p → f i = true) ∧ (run f m p < p + m → f (run f m p) = false) := by
  intro m
  induction m with
  | zero => intro p; exact ⟨Nat.le_refl _, Nat.le_refl _, fun i h1 h2 => absurd (show i < p from h2) (by omega), fun h => absurd (show p < p + 0 from h) (by omega)⟩
  | succ m ih =>
    intro p
    show p ≤ (if f p = true then run f m (p + 1) else p) ∧ (if f p = true then run f m (p + 1) else p) ≤ p + (m + 1) ∧ (∀ i, p ≤ i → i < (if f p = true then run f m (p + 1) else p) → f i = true) ∧ ((if f p = true then run f m (p + 1) else p) < p + (m + 1) → f (if f p = true then run f m (p + 1) else p) = false)
    by_cases c : f p = true
    · rw [if_pos c]
      obtain ⟨h1, h2, h3, h4⟩ := ih (p + 1)
      refine ⟨by omega, by omega, fun i i1 i2 => ?_, fun h => h4 (by omega)⟩
      by_cases e : i = p
      · rw [e]; exact c
      · exact h3 i (by omega) i2
    · rw [if_neg c]
      exact ⟨Nat.le_refl _, by omega, fun i h1 h2 => by omega, fun _ => by simpa using c⟩
/-- the one place where a run ends -/
theorem run_e {f : Nat → Bool} {m p e : Nat} (h1 : p ≤ e) (h2 : e ≤ p + m) (h3 : ∀ i, p ≤ i → i < e → f i = true) (h4 : e = p + m ∨ f e = false) : run f m p = e := by
  obtain ⟨r1, r2, r3, r4⟩ := run_r (f := f) m p
  rcases Nat.lt_trichotomy (run f m p) e with c | c | c
  · have := r4 (by omega); rw [h3 _ r1 c] at this; cases this
  · exact c
  · rcases h4 with h | h
    · omega
    · rw [r3 e h1 c] at h; cases h
def sk (T : Nat → Nat) (n p : Nat) : Nat := run (isSp T) (n - p) p
def te (T : Nat → Nat) (n q : Nat) : Nat := if n ≤ q then q else if T q = 59 then q + 1 else if isLt T q = true then run (isLt T) (n - q) q else run (isDg T) (n - q) q
/-- 0 no token, 1 word, 2 number, 3 sign, 4 end -/
def tk (T : Nat → Nat) (n q : Nat) : Nat := if n ≤ q then 4 else if T q = 59 then 3 else if isLt T q = true then (if te T n q - q ≤ 8 then 1 else 0) else (if 1 ≤ te T n q - q ∧ te T n q - q ≤ 2 then 2 else 0)
/-- the letters from q on, the last one first -/
def wl (T : Nat → Nat) (q : Nat) : Nat → List Nat
  | 0 => []
  | m + 1 => (T (q + m) - 96) :: wl T q m
def nl (T : Nat → Nat) (q : Nat) : Nat → Nat
  | 0 => 0
  | m + 1 => 10 * nl T q m + (T (q + m) - 48)
theorem wl_n {T : Nat → Nat} {q : Nat} (m : Nat) : (wl T q m).length = m := by
  induction m with
  | zero => rfl
  | succ m ih => show (wl T q m).length + 1 = m + 1; rw [ih]
theorem wl_g {T : Nat → Nat} {q m : Nat} (h : ∀ i, i < m → isLt T (q + i) = true) : ∀ c, c ∈ wl T q m → 1 ≤ c ∧ c ≤ 26 := by
  induction m with
  | zero => intro c hc; exact absurd hc List.not_mem_nil
  | succ m ih =>
    intro c hc
    rcases List.mem_cons.mp hc with e | e
    · have := of_decide_eq_true (h m (by omega)); omega
    · exact ih (fun i hi => h i (by omega)) c e
theorem wl_G {T : Nat → Nat} {q m : Nat} (m1 : 1 ≤ m) (m8 : m ≤ 8) (h : ∀ i, i < m → isLt T (q + i) = true) : gNm (wl T q m) := ⟨by rw [wl_n]; exact m1, by rw [wl_n]; exact m8, wl_g h⟩
def sbI (b : Nat) : Int := if b < 128 then (b : Int) else (b : Int) - 256
theorem sb_I {b : Nat} : sb b = jI (sbI b) := by unfold sb sbI; by_cases c : b < 128
                                                 · rw [if_pos c, if_pos c]
                                                 · rw [if_neg c, if_neg c]
theorem sbI_b {b : Nat} (h : b < 256) : (b < 128 ∧ sbI b = b) ∨ (128 ≤ b ∧ sbI b = (b : Int) - 256) := by
  unfold sbI
  by_cases c : b < 128
  · rw [if_pos c]; omega
  · rw [if_neg c]; omega
theorem sb_e {b : Nat} {c : Int} (h : b < 256) (c0 : 0 ≤ c) (c1 : c < 128) : (sb b = jI c) ↔ (b : Int) = c := by
  have := sbI_b h
  rw [sb_I, jI_eq (by omega) (by omega) (by omega) (by omega)]
  omega
theorem w20_s {M : MM} {b : Nat} {P : Int32 → MM → Prop} (h : b < 256) (hP : P (bI (decide (97 ≤ b ∧ b ≤ 122))) M) : w20 (sb b) M P := by
  have := sbI_b h
  unfold w20
  rw [sb_I, show (97 : Int32) = jI 97 from rfl, show (122 : Int32) = jI 122 from rfl, jI_lt (by omega) (by omega) (by omega) (by omega), jI_lt (by omega) (by omega) (by omega) (by omega)]
  refine ⟨fun z => ⟨Or.inl rfl, ?_⟩, fun z => ⟨fun y => ⟨Or.inl rfl, ?_⟩, fun y => ⟨Or.inr rfl, ?_⟩⟩⟩
  · rw [decide_eq_false (by omega)] at hP; exact hP
  · rw [decide_eq_false (by omega)] at hP; exact hP
  · rw [decide_eq_true (by omega)] at hP; exact hP
theorem w21_s {M : MM} {b : Nat} {P : Int32 → MM → Prop} (h : b < 256) (hP : P (bI (decide (48 ≤ b ∧ b ≤ 57))) M) : w21 (sb b) M P := by
  have := sbI_b h
  unfold w21
  rw [sb_I, show (48 : Int32) = jI 48 from rfl, show (57 : Int32) = jI 57 from rfl, jI_lt (by omega) (by omega) (by omega) (by omega), jI_lt (by omega) (by omega) (by omega) (by omega)]
  refine ⟨fun z => ⟨Or.inl rfl, ?_⟩, fun z => ⟨fun y => ⟨Or.inl rfl, ?_⟩, fun y => ⟨Or.inr rfl, ?_⟩⟩⟩
  · rw [decide_eq_false (by omega)] at hP; exact hP
  · rw [decide_eq_false (by omega)] at hP; exact hP
  · rw [decide_eq_true (by omega)] at hP; exact hP
theorem shl_or {v c : Nat} (h : 256 * v + c < 9223372036854775808) (hc : c < 256) : (jL (v : Int) <<< ((8 : Int32).toInt64 &&& 63)) ||| jL (c : Int) = jL ((256 * v + c : Nat) : Int) := by
  have e0 : ((jL (v : Int) <<< ((8 : Int32).toInt64 &&& 63)) ||| jL (c : Int)).toBitVec = ((jL (v : Int)).toBitVec <<< 8) ||| (jL (c : Int)).toBitVec := rfl
  refine Int64.toBitVec_inj.mp (BitVec.eq_of_toNat_eq ?_)
  rw [e0, BitVec.toNat_or, BitVec.toNat_shiftLeft, (jL_nat (by omega)).1, (jL_nat (by omega)).1, (jL_nat h).1, Nat.mod_eq_of_lt (by rw [Nat.shiftLeft_eq]; omega), ← Nat.shiftLeft_add_eq_or_of_lt (show c < 2 ^ 8 by omega), Nat.shiftLeft_eq]
  omega
def TB (M : MM) (n : Nat) (T : Nat → Nat) : Prop := n ≤ 700 ∧ ∀ i, i < n → mI M 1 i = sb (T i) ∧ T i < 256
def sSc : Nat → Nat → Bool := sB 2 4 7 1 0
theorem TB_fr {M M' : MM} {n : Nat} {T : Nat → Nat} (hF : Fr sSc M M') (h : TB M n T) : TB M' n T := ⟨h.1, fun i hi => ⟨(Fr_I hF (sB_f (by omega) (by omega))).trans (h.2 i hi).1, (h.2 i hi).2⟩⟩
theorem i1j {M : MM} (h : Lay M) {k : Nat} (q : k < 700) : inb M 1 13 (jI (k : Int)) := by rw [← nI_j]; exact in_1 h q
/-- what the scanner of the class leaves -/
def CTk (M : MM) (T : Nat → Nat) (n q : Nat) : Prop := mI M 2 4 = jI (q : Int) ∧ mI M 2 5 = jI (te T n q : Int) ∧ mI M 2 6 = jI (tk T n q : Int) ∧ (tk T n q = 1 → mL M 2 7 = jL (nv 256 96 (wl T q (te T n q - q)) : Int)) ∧ (tk T n q = 2 → mL M 2 7 = jL (nl T q (te T n q - q) : Int))
theorem w19_113_s {M : MM} {T : Nat → Nat} {n q : Nat} {P : MM → Prop} (hX : ∀ M', Fr sSc M M' → CTk M' T n q → P M') (hq : q < n) (h59 : T q ≠ 59) (hl : isLt T q = true) : ∀ (m p : Nat) (M' : MM), Lay M' → TB M' n T → p + m = n → q ≤ p → Fr sSc M M' → mI M' 2 4 = jI (q : Int) → mI M' 2 5 = jI (p : Int) → (∀ i, q ≤ i → i < p → isLt T i = true) → (p - q ≤ 8 → mL M' 2 7 = jL (nv 256 96 (wl T q (p - q)) : Int)) → w19_113 (m + 1) 2 (some 1) (jI (n : Int)) M' P := by
  -- the end of the word
  have fin : ∀ (p : Nat) (M' : MM), Lay M' → p ≤ n → n ≤ 700 → q ≤ p → Fr sSc M M' → mI M' 2 4 = jI (q : Int) → mI M' 2 5 = jI (p : Int) → (∀ i, q ≤ i → i < p → isLt T i = true) → (p - q ≤ 8 → mL M' 2 7 = jL (nv 256 96 (wl T q (p - q)) : Int)) → (p = n ∨ isLt T p = false) → w19_165 2 M' P := fun p M' hL' pn n7 qp hF h4 h5 hA hV hE => by
    have et : te T n q = p := by
      unfold te
      rw [if_neg (by omega), if_neg h59, if_pos hl]
      refine run_e qp (by omega) hA ?_
      rcases hE with h | h
      · exact Or.inl (by omega)
      · exact Or.inr h
    have ek : tk T n q = if p - q ≤ 8 then 1 else 0 := by
      unfold tk
      rw [if_neg (by omega), if_neg h59, if_pos hl, et]
    unfold w19_165
    rw [h4, h5, jI_sub, show (8 : Int32) = jI 8 from rfl, jI_lt (by omega) (by omega) (by omega) (by omega)]
    refine ⟨kd_2 hL', kd_2 hL', fun z => ⟨2, rfl, kd_2 hL', hX _ (Fr_sI hF (sB_t1 (by omega))) ?_⟩, fun z => ⟨2, rfl, kd_2 hL', hX _ (Fr_sI hF (sB_t1 (by omega))) ?_⟩⟩
    · rw [if_neg (by omega)] at ek
      unfold CTk
      rw [ek, et]
      exact ⟨by rw [gI_n (by omega)]; exact h4, by rw [gI_n (by omega)]; exact h5, gI_y ⟨rfl, rfl⟩, fun x => absurd x (by omega), fun x => absurd x (by omega)⟩
    · rw [if_pos (by omega)] at ek
      unfold CTk
      rw [ek, et]
      exact ⟨by rw [gI_n (by omega)]; exact h4, by rw [gI_n (by omega)]; exact h5, gI_y ⟨rfl, rfl⟩, fun _ => by rw [gL_sI]; exact hV (by omega), fun x => absurd x (by omega)⟩
  intro m
  induction m with
  | zero =>
    intro p M' hL' hB e qp hF h4 h5 hA hV
    have n7 := hB.1
    refine ⟨kd_2 hL', br_t (by rw [h5, jI_le (by omega) (by omega) (by omega) (by omega)]; omega) (fin p M' hL' (by omega) n7 qp hF h4 h5 hA hV (Or.inl (by omega)))⟩
  | succ m ih =>
    intro p M' hL' hB e qp hF h4 h5 hA hV
    have n7 := hB.1
    have bp := hB.2 p (by omega)
    refine ⟨kd_2 hL', br_f (by rw [h5, jI_le (by omega) (by omega) (by omega) (by omega)]; omega) ⟨kd_2 hL', 1, rfl, by rw [h5]; exact i1j hL' (by omega), ?_⟩⟩
    rw [h5, jI_cn (by omega), bp.1]
    refine w20_s bp.2 ?_
    cases c : decide (97 ≤ T p ∧ T p ≤ 122) with
    | false => exact br_t rfl (fin p M' hL' (by omega) n7 qp hF h4 h5 hA hV (Or.inr c))
    | true =>
      have lp := of_decide_eq_true c
      refine br_f (by decide) ?_
      rw [h5, jI_cn (by omega), bp.1]
      refine ⟨kd_2 hL', kd_2 hL', i1j hL' (by omega), kd_2 hL', kd_2 hL', kd_2 hL', ?_⟩
      unfold w19_162
      have hA' : ∀ i, q ≤ i → i < p + 1 → isLt T i = true := fun i i1 i2 => by
        by_cases x : i = p
        · rw [x]; exact c
        · exact hA i i1 (by omega)
      refine ih (p + 1) _ hL' ?_ (by omega) (by omega) (Fr_sI (Fr_sL hF (sB_t1 (by omega))) (sB_t1 (by omega))) ?_ ?_ hA' (fun x => ?_)
      · exact ⟨hB.1, fun i hi => ⟨by rw [gI_n (by omega), gI_sL]; exact (hB.2 i hi).1, (hB.2 i hi).2⟩⟩
      · rw [gI_n (by omega), gI_sL]; exact h4
      · rw [gI_y ⟨rfl, rfl⟩, gI_sL, h5, show (1 : Int32) = jI 1 from rfl, jI_add, c_s1]
      · rw [gL_sI, gL_y ⟨rfl, rfl⟩, hV (by omega)]
        have es : sb (T p) = jI ((T p : Nat) : Int) := if_pos (by omega)
        have ew : wl T q (p + 1 - q) = (T p - 96) :: wl T q (p - q) := by
          rw [show p + 1 - q = (p - q) + 1 by omega]
          show (T (q + (p - q)) - 96) :: _ = _
          rw [show q + (p - q) = p by omega]
        have gg := nv_c (wl_G (T := T) (q := q) (m := p + 1 - q) (by omega) x (fun i hi => hA' _ (by omega) (by omega)))
        have ev : nv 256 96 (wl T q (p + 1 - q)) = 256 * nv 256 96 (wl T q (p - q)) + T p := by
          rw [ew]
          show (T p - 96 + 96) + 256 * nv 256 96 (wl T q (p - q)) = _
          omega
        rw [ev] at gg ⊢
        rw [es, jI_l (by omega) (by omega), shl_or gg (by omega)]
