/-! ===== whole numbers in ints and longs; frames ===== -/
def jI (z : Int) : Int32 := Int32.ofInt z
def jL (z : Int) : Int64 := Int64.ofInt z
theorem jI_add (a b : Int) : jI a + jI b = jI (a + b) := (Int32.ofInt_add a b).symm
theorem jI_sub (a b : Int) : jI a - jI b = jI (a - b) := (Int32.ofInt_sub a b).symm
theorem jI_mul (a b : Int) : jI a * jI b = jI (a * b) := (Int32.ofInt_mul a b).symm
theorem jI_neg (a : Int) : -jI a = jI (-a) := (Int32.ofInt_neg a).symm
theorem jI_lit (n : Nat) : (OfNat.ofNat n : Int32) = jI (OfNat.ofNat n) := (Int32.ofInt_eq_ofNat (n := n)).symm
theorem nI_j (n : Nat) : nI n = jI n := (Int32.ofInt_eq_ofNat (n := n)).symm
theorem jL_add (a b : Int) : jL a + jL b = jL (a + b) := (Int64.ofInt_add a b).symm
theorem jL_sub (a b : Int) : jL a - jL b = jL (a - b) := (Int64.ofInt_sub a b).symm
theorem jL_mul (a b : Int) : jL a * jL b = jL (a * b) := (Int64.ofInt_mul a b).symm
theorem jL_neg (a : Int) : -jL a = jL (-a) := (Int64.ofInt_neg a).symm
theorem jL_lit (n : Nat) : (OfNat.ofNat n : Int64) = jL (OfNat.ofNat n) := (Int64.ofInt_eq_ofNat (n := n)).symm
theorem jI_toInt {a : Int} (h1 : -2147483648 ≤ a) (h2 : a < 2147483648) : (jI a).toInt = a := Int32.toInt_ofInt_of_le (by omega) (by omega)
theorem jL_toInt {a : Int} (h1 : -9223372036854775808 ≤ a) (h2 : a < 9223372036854775808) : (jL a).toInt = a := Int64.toInt_ofInt_of_le (by omega) (by omega)
theorem jI_lt {a b : Int} (h1 : -2147483648 ≤ a) (h2 : a < 2147483648) (h3 : -2147483648 ≤ b) (h4 : b < 2147483648) : (jI a < jI b) ↔ a < b := by rw [Int32.lt_iff_toInt_lt, jI_toInt h1 h2, jI_toInt h3 h4]
theorem jI_le {a b : Int} (h1 : -2147483648 ≤ a) (h2 : a < 2147483648) (h3 : -2147483648 ≤ b) (h4 : b < 2147483648) : (jI a ≤ jI b) ↔ a ≤ b := by rw [Int32.le_iff_toInt_le, jI_toInt h1 h2, jI_toInt h3 h4]
theorem jI_eq {a b : Int} (h1 : -2147483648 ≤ a) (h2 : a < 2147483648) (h3 : -2147483648 ≤ b) (h4 : b < 2147483648) : (jI a = jI b) ↔ a = b := by rw [← Int32.toInt_inj, jI_toInt h1 h2, jI_toInt h3 h4]
theorem jL_lt {a b : Int} (h1 : -9223372036854775808 ≤ a) (h2 : a < 9223372036854775808) (h3 : -9223372036854775808 ≤ b) (h4 : b < 9223372036854775808) : (jL a < jL b) ↔ a < b := by rw [Int64.lt_iff_toInt_lt, jL_toInt h1 h2, jL_toInt h3 h4]
theorem jL_le {a b : Int} (h1 : -9223372036854775808 ≤ a) (h2 : a < 9223372036854775808) (h3 : -9223372036854775808 ≤ b) (h4 : b < 9223372036854775808) : (jL a ≤ jL b) ↔ a ≤ b := by rw [Int64.le_iff_toInt_le, jL_toInt h1 h2, jL_toInt h3 h4]
theorem jL_eq {a b : Int} (h1 : -9223372036854775808 ≤ a) (h2 : a < 9223372036854775808) (h3 : -9223372036854775808 ≤ b) (h4 : b < 9223372036854775808) : (jL a = jL b) ↔ a = b := by rw [← Int64.toInt_inj, jL_toInt h1 h2, jL_toInt h3 h4]
theorem jI_l {a : Int} (h1 : -2147483648 ≤ a) (h2 : a < 2147483648) : (jI a).toInt64 = jL a := by
  rw [← Int64.toInt_inj, Int32.toInt_toInt64, jI_toInt h1 h2, jL_toInt (by omega) (by omega)]
theorem jL_i (a : Int) : (jL a).toInt32 = jI a := Int64.toInt32_ofInt
theorem jI_cl {a : Int} (h1 : -2147483648 ≤ a) (h2 : a < 2147483648) : (jI a).toNatClampNeg = a.toNat := by
  show (jI a).toInt.toNat = _
  rw [jI_toInt h1 h2]
theorem jI_of (x : Int32) : ∃ a : Int, x = jI a ∧ -2147483648 ≤ a ∧ a < 2147483648 :=
  ⟨x.toInt, (Int32.ofInt_toInt x).symm, Int32.le_toInt x, Int32.toInt_lt x⟩
theorem jL_of (x : Int64) : ∃ a : Int, x = jL a ∧ -9223372036854775808 ≤ a ∧ a < 9223372036854775808 :=
  ⟨x.toInt, (Int64.ofInt_toInt x).symm, Int64.le_toInt x, Int64.toInt_lt x⟩
theorem jL_div {a b : Int} (h1 : 0 ≤ a) (h2 : a < 9223372036854775808) (h3 : 0 < b) (h4 : b < 9223372036854775808) : jL a / jL b = jL (a / b) := by
  have e1 : a / b ≤ a := Int.ediv_le_self _ h1
  have e2 : 0 ≤ a / b := Int.ediv_nonneg h1 (by omega)
  rw [← Int64.toInt_inj, Int64.toInt_div, jL_toInt (by omega) h2, jL_toInt (by omega) h4, jL_toInt (by omega) (by omega), Int.tdiv_eq_ediv_of_nonneg h1]
  exact Int.bmod_eq_of_le (by omega) (by omega)
theorem jI_div {a b : Int} (h1 : 0 ≤ a) (h2 : a < 2147483648) (h3 : 0 < b) (h4 : b < 2147483648) : jI a / jI b = jI (a / b) := by
  have e1 : a / b ≤ a := Int.ediv_le_self _ h1
  have e2 : 0 ≤ a / b := Int.ediv_nonneg h1 (by omega)
  rw [← Int32.toInt_inj, Int32.toInt_div, jI_toInt (by omega) h2, jI_toInt (by omega) h4, jI_toInt (by omega) (by omega), Int.tdiv_eq_ediv_of_nonneg h1]
  exact Int.bmod_eq_of_le (by omega) (by omega)
theorem j_rem (a b : Int) : a - a / b * b = a % b := by rw [Int.emod_def, Int.mul_comm]
theorem inb_j {M : MM} {o k N : Nat} {a : Int} (hs : (mS M)[o]? = some (k, N)) (h0 : 0 ≤ a) (h1 : a < N) (hN : N < 2147483648) : inb M o k (jI a) :=
  ⟨N, hs, vp_in_iff.mpr (by rw [jI_toInt (by omega) (by omega)]; exact ⟨h0, h1⟩)⟩
/-- what is read behind a write -/
theorem gI_y {M : MM} {a k o j : Nat} {v : Int32} (h : o = a ∧ j = k) : mI (sI M a k v) o j = v := by rw [gI_sI, if_pos h]
theorem gI_n {M : MM} {a k o j : Nat} {v : Int32} (h : ¬ (o = a ∧ j = k)) : mI (sI M a k v) o j = mI M o j := by rw [gI_sI, if_neg h]
theorem gL_y {M : MM} {a k o j : Nat} {v : Int64} (h : o = a ∧ j = k) : mL (sL M a k v) o j = v := by rw [gL_sL, if_pos h]
theorem gL_n {M : MM} {a k o j : Nat} {v : Int64} (h : ¬ (o = a ∧ j = k)) : mL (sL M a k v) o j = mL M o j := by rw [gL_sL, if_neg h]
theorem gR_y {M : MM} {a k o j : Nat} {v : Option Nat} (h : o = a ∧ j = k) : mR (sR M a k v) o j = v := by rw [gR_sR, if_pos h]
theorem gR_n {M : MM} {a k o j : Nat} {v : Option Nat} (h : ¬ (o = a ∧ j = k)) : mR (sR M a k v) o j = mR M o j := by rw [gR_sR, if_neg h]
/-- nothing but cells of S has changed, the lay stands -/
def Fr (S : Nat → Nat → Bool) (M M' : MM) : Prop := (Lay M → Lay M') ∧ ∀ o k, S o k = false → mI M' o k = mI M o k ∧ mL M' o k = mL M o k ∧ mR M' o k = mR M o k
theorem Fr_r {S : Nat → Nat → Bool} {M : MM} : Fr S M M := ⟨id, fun _ _ _ => ⟨rfl, rfl, rfl⟩⟩
theorem Fr_t {S : Nat → Nat → Bool} {M M' M'' : MM} (h : Fr S M M') (h' : Fr S M' M'') : Fr S M M'' :=
  ⟨fun l => h'.1 (h.1 l), fun o k q => ⟨((h'.2 o k q).1).trans (h.2 o k q).1, ((h'.2 o k q).2.1).trans (h.2 o k q).2.1, ((h'.2 o k q).2.2).trans (h.2 o k q).2.2⟩⟩
theorem Fr_w {S T : Nat → Nat → Bool} {M M' : MM} (h : Fr S M M') (hs : ∀ o k, T o k = false → S o k = false) : Fr T M M' :=
  ⟨h.1, fun o k q => h.2 o k (hs o k q)⟩
theorem Fr_sI {S : Nat → Nat → Bool} {M M' : MM} {a k : Nat} {v : Int32} (h : Fr S M M') (e : S a k = true) : Fr S M (sI M' a k v) := by
  refine ⟨fun l => h.1 l, fun o j q => ⟨?_, (h.2 o j q).2.1, (h.2 o j q).2.2⟩⟩
  rw [gI_n (fun x => by rw [x.1, x.2, e] at q; cases q)]
  exact (h.2 o j q).1
theorem Fr_sL {S : Nat → Nat → Bool} {M M' : MM} {a k : Nat} {v : Int64} (h : Fr S M M') (e : S a k = true) : Fr S M (sL M' a k v) := by
  refine ⟨fun l => h.1 l, fun o j q => ⟨(h.2 o j q).1, ?_, (h.2 o j q).2.2⟩⟩
  rw [gL_n (fun x => by rw [x.1, x.2, e] at q; cases q)]
  exact (h.2 o j q).2.1
theorem Fr_sR {S : Nat → Nat → Bool} {M M' : MM} {a k : Nat} {v : Option Nat} (h : Fr S M M') (e : S a k = true) (f : fxR a k = false) : Fr S M (sR M' a k v) := by
  refine ⟨fun l => lay_sR (h.1 l) f, fun o j q => ⟨(h.2 o j q).1, (h.2 o j q).2.1, ?_⟩⟩
  rw [gR_n (fun x => by rw [x.1, x.2, e] at q; cases q)]
  exact (h.2 o j q).2.2
theorem Fr_I {S : Nat → Nat → Bool} {M M' : MM} (h : Fr S M M') {o k : Nat} (q : S o k = false) : mI M' o k = mI M o k := (h.2 o k q).1
theorem Fr_L {S : Nat → Nat → Bool} {M M' : MM} (h : Fr S M M') {o k : Nat} (q : S o k = false) : mL M' o k = mL M o k := (h.2 o k q).2.1
theorem Fr_R {S : Nat → Nat → Bool} {M M' : MM} (h : Fr S M M') {o k : Nat} (q : S o k = false) : mR M' o k = mR M o k := (h.2 o k q).2.2
/-- cells a to b, and fields c to d of the cell o -/
def sB (o c d a b : Nat) : Nat → Nat → Bool := fun x k => (Nat.beq x o && (Nat.ble c k && Nat.ble k d)) || (Nat.ble a x && Nat.ble x b)
theorem sB_f {o c d a b x k : Nat} (h1 : ¬ (x = o ∧ c ≤ k ∧ k ≤ d)) (h2 : ¬ (a ≤ x ∧ x ≤ b)) : sB o c d a b x k = false := by
  unfold sB
  rw [Bool.or_eq_false_iff]
  refine ⟨Bool.eq_false_iff.mpr fun h => h1 ?_, Bool.eq_false_iff.mpr fun h => h2 ?_⟩
  · simp only [Bool.and_eq_true, Nat.ble_eq] at h
    exact ⟨Nat.eq_of_beq_eq_true h.1, h.2⟩
  · simpa only [Bool.and_eq_true, Nat.ble_eq] using h
theorem sB_t1 {o c d a b k : Nat} (h : c ≤ k ∧ k ≤ d) : sB o c d a b o k = true := by
  unfold sB
  rw [Nat.beq_refl, Nat.ble_eq.mpr h.1, Nat.ble_eq.mpr h.2]; rfl
theorem sB_t2 {o c d a b x k : Nat} (h : a ≤ x ∧ x ≤ b) : sB o c d a b x k = true := by
  unfold sB
  rw [Nat.ble_eq.mpr h.1, Nat.ble_eq.mpr h.2, Bool.and_self, Bool.or_true]
theorem sB_w {o c d a b c' d' a' b' : Nat} (h1 : c' ≤ c ∧ d ≤ d' ∨ d < c) (h2 : a' ≤ a ∧ b ≤ b' ∨ b < a) : ∀ x k, sB o c' d' a' b' x k = false → sB o c d a b x k = false := by
  intro x k h
  refine sB_f (fun q => ?_) (fun q => ?_)
  · rw [q.1, sB_t1 (by omega)] at h; cases h
  · rw [sB_t2 (by omega)] at h; cases h
theorem br_i {c A B : Prop} [Decidable c] (h : if c then A else B) : (c → A) ∧ (¬ c → B) :=
  ⟨fun q => by rw [if_pos q] at h; exact h, fun q => by rw [if_neg q] at h; exact h⟩
