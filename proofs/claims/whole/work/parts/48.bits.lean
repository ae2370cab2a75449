/-! rows of kit/laws/BITS.to-paste, pasted as they stand: masks, shifts, uN -/
/-! ===== lN: masks, 'or' of parts that don't overlap is a sum ===== -/
theorem u_tn {n : Nat} (h : n < 2 ^ 64) : (UInt64.ofNat n).toNat = n := Nat.mod_eq_of_lt h
theorem g_and {a b c : Nat} (ha : a < 2 ^ 64) (hb : b < 2 ^ 64) (hc : a &&& b = c) : lN a &&& lN b = lN c := by
  subst hc
  have h : UInt64.ofNat a &&& UInt64.ofNat b = UInt64.ofNat (a &&& b) := UInt64.toNat_inj.mp (by rw [UInt64.toNat_and, u_tn ha, u_tn hb, u_tn (Nat.and_lt_two_pow a hb)])
  have h2 := congrArg UInt64.toInt64 h
  exact h2
theorem g_and1 {a : Nat} (ha : a < 2 ^ 64) : lN a &&& 1 = lN (a % 2) := g_and (b := 1) ha (by decide) (Nat.and_two_pow_sub_one_eq_mod a 1)
theorem g_mask {a s p : Nat} (hp : 2 ^ s = p) (hs : s < 64) (ha : a < 2 ^ 64) : lN a &&& lN (p - 1) = lN (a % p) := by
  subst hp
  have := Nat.pow_lt_pow_right (show 1 < 2 by decide) hs
  exact g_and ha (by omega) (Nat.and_two_pow_sub_one_eq_mod a s)
theorem g_or {k p a b : Nat} (hp : 2 ^ k = p) (ha : a < p) (h : b * p + a < 2 ^ 64) : lN (b * p) ||| lN a = lN (b * p + a) := by
  subst hp
  have h1 : b * 2 ^ k ||| a = b * 2 ^ k + a := by rw [← Nat.shiftLeft_eq, Nat.shiftLeft_add_eq_or_of_lt ha]
  have h3 : UInt64.ofNat (b * 2 ^ k) ||| UInt64.ofNat a = UInt64.ofNat (b * 2 ^ k + a) := UInt64.toNat_inj.mp (by rw [UInt64.toNat_or, u_tn (by omega), u_tn (by omega), u_tn h, h1])
  have h2 := congrArg UInt64.toInt64 h3
  exact h2
theorem g_or' {k p a b : Nat} (hp : 2 ^ k = p) (ha : a < p) (h : a + b * p < 2 ^ 64) : lN a ||| lN (b * p) = lN (a + b * p) := by
  rw [Int64.or_comm, g_or hp ha (by omega), Nat.add_comm]
theorem g_ushr {a k p : Nat} {y : UInt64} (hy : y = UInt64.ofNat k) (hk : k < 64) (hp : 2 ^ k = p) (ha : a < 2 ^ 64) : ((lN a).toUInt64 >>> y).toInt64 = lN (a / p) := by
  subst hy hp
  have h : UInt64.ofNat a >>> UInt64.ofNat k = UInt64.ofNat (a / 2 ^ k) := UInt64.toNat_inj.mp (by rw [UInt64.toNat_shiftRight, u_tn ha, u_tn (by omega), u_tn (Nat.lt_of_le_of_lt (Nat.div_le_self _ _) ha), Nat.mod_eq_of_lt hk, Nat.shiftRight_eq_div_pow])
  have h2 := congrArg UInt64.toInt64 h
  exact h2
theorem g_shl {a k p : Nat} {y : Int64} (hy : y.toBitVec.smod 64 = BitVec.ofNat 64 k) (hk : k < 64) (hp : 2 ^ k = p) (ha : a < 2 ^ 64) : lN a <<< y = lN (a * p) := by
  subst hp
  apply Int64.toBitVec_inj.mp
  rw [Int64.toBitVec_shiftLeft, hy]
  apply BitVec.eq_of_toNat_eq
  have hb : (lN a).toBitVec.toNat = a := Nat.mod_eq_of_lt ha
  have hk' : (BitVec.ofNat 64 k).toNat = k := Nat.mod_eq_of_lt (by omega)
  have h : ((lN a).toBitVec <<< BitVec.ofNat 64 k).toNat = (a * 2 ^ k) % 2 ^ 64 := by simp only [BitVec.shiftLeft_eq', BitVec.toNat_shiftLeft, hb, hk', Nat.shiftLeft_eq]
  exact h
/-! ===== lN to 2^62 under >> and >>> ===== -/
theorem pf_lI {a : Nat} (h : a < 2 ^ 63) : (lN a).toInt = (a : Int) := lg_ofNat_toInt h
theorem pf_shr {a d : Nat} {D : Int64} (hD : (D.toBitVec.smod 64).toNat = d) (h : a < 2 ^ 62) : lN a >>> D = lN (a / 2 ^ d) := by
  have hd : a / 2 ^ d ≤ a := Nat.div_le_self _ _
  apply Int64.toInt_inj.mp
  have e : (lN a >>> D).toInt = (lN a).toInt >>> d := by
    rw [← hD]
    exact BitVec.toInt_sshiftRight ..
  rw [e, Int.shiftRight_eq_div_pow, pf_lI (by omega), pf_lI (by omega)]
  rfl
theorem pf_ushr {a d : Nat} {D : UInt64} (hD : D.toNat % 64 = d) (h : a < 2 ^ 62) : ((lN a).toUInt64 >>> D).toInt64 = lN (a / 2 ^ d) := by
  have hd : a / 2 ^ d ≤ a := Nat.div_le_self _ _
  have e : (lN a).toUInt64 >>> D = UInt64.ofNat (a / 2 ^ d) := UInt64.toNat_inj.mp (by
    rw [UInt64.toNat_shiftRight, hD, Nat.shiftRight_eq_div_pow, UInt64.toNat_ofNat']
    show (UInt64.ofNat a).toNat / 2 ^ d = _
    rw [UInt64.toNat_ofNat', Nat.mod_eq_of_lt (by omega), Nat.mod_eq_of_lt (by omega)])
  rw [e]
  rfl
theorem pf_andw (x : Int64) : ∃ m, m < 2 ^ 32 ∧ x &&& 4294967295 = lN m := ⟨x.toBitVec.toNat % 2 ^ 32, Nat.mod_lt _ (by decide), Int64.toBitVec_inj.mp (BitVec.eq_of_toNat_eq (by
  show (x.toBitVec &&& 4294967295#64).toNat = (BitVec.ofNat 64 (x.toBitVec.toNat % 2 ^ 32)).toNat
  rw [BitVec.toNat_and, show (4294967295#64).toNat = 2 ^ 32 - 1 from by decide, Nat.and_two_pow_sub_one_eq_mod, BitVec.toNat_ofNat]
  omega))⟩
/-! ===== Int64 as an unsigned number: uN x ===== -/
def uN (x : Int64) : Nat := x.toUInt64.toNat
theorem uN_lt (x : Int64) : uN x < 18446744073709551616 := x.toUInt64.toNat_lt
theorem uN_inj {x y : Int64} (h : uN x = uN y) : x = y := congrArg UInt64.toInt64 (UInt64.toNat_inj.mp h)
theorem uN_add (x y : Int64) : uN (x + y) = (uN x + uN y) % 18446744073709551616 := by
  show (x.toUInt64 + y.toUInt64).toNat = _
  exact UInt64.toNat_add _ _
theorem uN_mul (x y : Int64) : uN (x * y) = (uN x * uN y) % 18446744073709551616 := by
  show (x.toUInt64 * y.toUInt64).toNat = _
  exact UInt64.toNat_mul _ _
theorem uN_shl (x : Int64) : uN (x <<< ((1 : Int32).toInt64 &&& 63)) = (2 * uN x) % 18446744073709551616 := by
  have h : (((1 : Int32).toInt64 &&& 63).toBitVec.smod 64).toNat = 1 := by decide
  show (x.toBitVec <<< (((1 : Int32).toInt64 &&& 63).toBitVec.smod 64).toNat).toNat = _
  rw [h, BitVec.toNat_shiftLeft, Nat.shiftLeft_eq, Nat.mul_comm]
  rfl
theorem uN_shr (x : Int64) (s : UInt64) : uN (x.toUInt64 >>> s).toInt64 = uN x / 2 ^ (s.toNat % 64) := by
  show (x.toUInt64 >>> s).toNat = _
  rw [UInt64.toNat_shiftRight, Nat.shiftRight_eq_div_pow]
  rfl
theorem uN_s32 (x : Int64) : uN (x.toUInt64 >>> ((32 : Int32).toInt64.toUInt64 &&& Int64.toUInt64 63)).toInt64 = uN x / 4294967296 := by
  have h : ((32 : Int32).toInt64.toUInt64 &&& Int64.toUInt64 63).toNat % 64 = 32 := by decide
  rw [uN_shr, h]
theorem uN_s63 (x : Int64) : uN (x.toUInt64 >>> ((63 : Int32).toInt64.toUInt64 &&& Int64.toUInt64 63)).toInt64 = uN x / 9223372036854775808 := by
  have h : ((63 : Int32).toInt64.toUInt64 &&& Int64.toUInt64 63).toNat % 64 = 63 := by decide
  rw [uN_shr, h]
theorem uN_lo (x : Int64) : uN (x &&& 4294967295) = uN x % 4294967296 := by
  show (x.toUInt64 &&& Int64.toUInt64 4294967295).toNat = _
  rw [UInt64.toNat_and]
  exact Nat.and_two_pow_sub_one_eq_mod _ 32
theorem uN_bit (x : Int64) : (x &&& 1) = 0 ↔ uN x % 2 = 0 := by
  have h : uN (x &&& 1) = uN x % 2 := by
    show (x.toUInt64 &&& Int64.toUInt64 1).toNat = _
    rw [UInt64.toNat_and]
    exact Nat.and_two_pow_sub_one_eq_mod _ 1
  rw [← h]
  exact ⟨fun z => by rw [z]; rfl, fun z => uN_inj (z.trans rfl)⟩
theorem uN_int (x : Int64) : x.toInt = if 2 * uN x < 18446744073709551616 then (uN x : Int) else (uN x : Int) - 18446744073709551616 := BitVec.toInt_eq_toNat_cond _
/-! ===== longs: the sign, a product's high half, unsigned comparison ===== -/
theorem lc_ge (x y : Int64) : (jI 0 ≤ lg_cmp x y) ↔ y ≤ x := lg_cmp_ge x y
theorem lc_le (x y : Int64) : (lg_cmp x y ≤ jI 0) ↔ x ≤ y := lg_cmp_le x y
theorem lc_gt (x y : Int64) : (jI 0 < lg_cmp x y) ↔ y < x := lg_cmp_gt x y
theorem lc_lt (x y : Int64) : (lg_cmp x y < jI 0) ↔ x < y := lg_cmp_lt x y
theorem lc_eq (x y : Int64) : (lg_cmp x y = jI 0) ↔ x = y := lg_cmp_eq x y
theorem jL_lN {x : Int} (h : 0 ≤ x) : jL x = lN x.toNat := by
  obtain ⟨k, rfl⟩ : ∃ k : Nat, x = k := ⟨x.toNat, by omega⟩
  exact (Int64.ofInt_eq_ofNat (n := k))
theorem lN_jL (n : Nat) : lN n = jL n := (Int64.ofInt_eq_ofNat (n := n)).symm
theorem sh63 (x : Int64) : (x >>> ((63 : Int32).toInt64 &&& 63)).toInt = x.toInt / 9223372036854775808 := by
  have h : (((63 : Int32).toInt64 &&& 63).toBitVec.smod 64).toNat = 63 := by decide
  have e : (x >>> ((63 : Int32).toInt64 &&& 63)).toInt = x.toInt >>> 63 := by
    rw [← h]
    exact BitVec.toInt_sshiftRight ..
  rw [e, Int.shiftRight_eq_div_pow]
  rfl
theorem w222_s {M : MM} {w : Int} {P : Int32 → MM → Prop} (h1 : -9223372036854775807 ≤ w) (h2 : w < 9223372036854775808) (hP : P (jI (sgn w)) M) : w222 (jL w) M P := by
  unfold w222
  have e0 : (jL w).toInt = w := jL_toInt (by omega) h2
  have e2 : (-jL w).toInt = -w := by rw [jL_neg, jL_toInt (by omega) (by omega)]
  have key : ((jL w >>> ((63 : Int32).toInt64 &&& 63)) ||| (((-jL w).toUInt64 >>> ((63 : Int32).toInt64.toUInt64 &&& Int64.toUInt64 63)).toInt64)).toInt32 = jI (sgn w) := by
    rcases sgn_c w with q | q | q
    · have a1 : jL w >>> ((63 : Int32).toInt64 &&& 63) = 0 := by
        rw [← Int64.toInt_inj, sh63, e0]; show _ = (0 : Int); omega
      have a2 : ((-jL w).toUInt64 >>> ((63 : Int32).toInt64.toUInt64 &&& Int64.toUInt64 63)).toInt64 = 1 := by
        apply uN_inj
        rw [uN_s63]
        have := uN_int (-jL w)
        have hl := uN_lt (-jL w)
        rw [e2] at this
        show _ = 1
        omega
      rw [a1, a2, q.2]; decide
    · have a1 : jL w >>> ((63 : Int32).toInt64 &&& 63) = -1 := by
        rw [← Int64.toInt_inj, sh63, e0]; show _ = (-1 : Int); omega
      have a2 : ((-jL w).toUInt64 >>> ((63 : Int32).toInt64.toUInt64 &&& Int64.toUInt64 63)).toInt64 = 0 := by
        apply uN_inj
        rw [uN_s63]
        have := uN_int (-jL w)
        have hl := uN_lt (-jL w)
        rw [e2] at this
        show _ = 0
        omega
      rw [a1, a2, q.2]; decide
    · rw [q.1]; decide
  rw [key]
  exact hP
theorem hi_nat (x y : Nat) : (x * y) / 18446744073709551616 = (x / 4294967296) * (y / 4294967296) + ((x / 4294967296) * (y % 4294967296) + (x % 4294967296) * (y % 4294967296) / 4294967296) / 4294967296 + (((x / 4294967296) * (y % 4294967296) + (x % 4294967296) * (y % 4294967296) / 4294967296) % 4294967296 + (x % 4294967296) * (y / 4294967296)) / 4294967296 := by
  have ex := Nat.div_add_mod x 4294967296
  have ey := Nat.div_add_mod y 4294967296
  generalize x / 4294967296 = x1 at *
  generalize x % 4294967296 = x2 at *
  generalize y / 4294967296 = y1 at *
  generalize y % 4294967296 = y2 at *
  subst ex ey
  have e : (4294967296 * x1 + x2) * (4294967296 * y1 + y2) = 18446744073709551616 * (x1 * y1) + 4294967296 * (x1 * y2) + 4294967296 * (x2 * y1) + x2 * y2 := by grind
  rw [e]
  generalize x1 * y1 = a
  generalize x1 * y2 = b
  generalize x2 * y1 = c
  generalize x2 * y2 = d
  omega
theorem w226_s {M : MM} {x y : Nat} {P : Int64 → MM → Prop} (hx : x < 4611686018427387904) (hy : y < 4611686018427387904) (hP : P (lN ((x * y) / 18446744073709551616)) M) : w226 (lN x) (lN y) M P := by
  have hD : (((32 : Int32).toInt64 &&& 63).toBitVec.smod 64).toNat = 32 := by decide
  have hm : ∀ {a : Nat}, a < 18446744073709551616 → lN a &&& (4294967295 : Int64) = lN (a % 4294967296) := fun h => g_mask (s := 32) (p := 4294967296) (by decide) (by decide) h
  have hu : ∀ {a : Nat}, a < 18446744073709551616 → ((lN a).toUInt64 >>> ((32 : Int32).toInt64.toUInt64 &&& Int64.toUInt64 63)).toInt64 = lN (a / 4294967296) := fun h => g_ushr (k := 32) (by decide) (by decide) (by decide) h
  have hs : ∀ {a : Nat}, a < 4611686018427387904 → lN a >>> ((32 : Int32).toInt64 &&& 63) = lN (a / 4294967296) := fun h => pf_shr hD h
  have b1 : (x % 4294967296) * (y % 4294967296) < 4294967296 * 4294967296 := Nat.mul_lt_mul'' (by omega) (by omega)
  have b2 : (x / 4294967296) * (y % 4294967296) ≤ 1073741823 * 4294967295 := Nat.mul_le_mul (by omega) (by omega)
  have b3 : (x % 4294967296) * (y / 4294967296) ≤ 4294967295 * 1073741823 := Nat.mul_le_mul (by omega) (by omega)
  unfold w226 w226_6 w226_13 w226_19 w226_26 w226_33 w226_46 w226_54 w226_61 w226_71
  simp (disch := omega) only [hs, hm, hu, lN_mul, lN_add]
  rw [← hi_nat]
  exact hP
theorem jI_one : jI 1 = 1 := rfl
theorem jI_zero : jI 0 = 0 := rfl
theorem jI_m1 : jI (-1) = -1 := rfl
theorem w200_s {M : MM} {a b : Int64} {P : Int32 → MM → Prop} (hP : P (jI (sgn (a.toInt - b.toInt))) M) : w200 a b M P := by
  have hQ : ∀ r, r = sgn (a.toInt - b.toInt) → P (jI r) M := fun r e => e ▸ hP
  simp only [w200, w200_21, lc_ge, lc_eq, ne_eq, Int64.le_iff_toInt_le, ← Int64.toInt_inj, jI_lit, jI_neg]
  repeat' (with_reducible refine And.intro (fun _ => ?_) (fun _ => ?_))
  all_goals exact hQ _ (by unfold sgn; omega)
theorem add_min (x : Int64) : (x + (-9223372036854775808 : Int64)).toInt = (uN x : Int) - 9223372036854775808 := by
  have h1 := uN_lt x
  have h2 := uN_add x (-9223372036854775808 : Int64)
  rw [show uN (-9223372036854775808 : Int64) = 9223372036854775808 from rfl] at h2
  rw [uN_int, h2]
  omega
theorem uN_lN (n : Nat) : uN (lN n) = n % 18446744073709551616 := rfl
theorem w225_s {M : MM} {a b c d : Nat} {P : Int32 → MM → Prop} (ha : a < 4611686018427387904) (hb : b < 4611686018427387904) (hc : c < 4611686018427387904) (hd : d < 4611686018427387904) (hP : P (jI (sgn ((a * b : Nat) - (c * d : Nat) : Int))) M) : w225 (lN a) (lN b) (lN c) (lN d) M P := by
  have b1 : a * b < 4611686018427387904 * 4611686018427387904 := Nat.mul_lt_mul'' ha hb
  have b2 : c * d < 4611686018427387904 * 4611686018427387904 := Nat.mul_lt_mul'' hc hd
  refine w226_s ha hb (w226_s hc hd ?_)
  rw [lg_cmp_eq, pk_lEQ (by omega) (by omega), lN_mul, lN_mul]
  refine ⟨fun q => w200_s ?_, fun q => w200_s ?_⟩
  · rw [add_min, add_min, uN_lN, uN_lN]
    rw [show ((a * b % 18446744073709551616 : Nat) - 9223372036854775808 - ((c * d % 18446744073709551616 : Nat) - 9223372036854775808) : Int) = ((a * b : Nat) - (c * d : Nat) : Int) by omega]
    exact hP
  · rw [pk_lT (by omega), pk_lT (by omega)]
    have : sgn ((a * b / 18446744073709551616 : Nat) - (c * d / 18446744073709551616 : Nat) : Int) = sgn ((a * b : Nat) - (c * d : Nat) : Int) := by unfold sgn; omega
    rw [this]
    exact hP
theorem w224_s {M : MM} {x : Int} {P : Int64 → MM → Prop} (h1 : -9223372036854775808 < x) (h2 : x < 9223372036854775808) (hP : P (lN x.natAbs) M) : w224 (jL x) M P := by
  have hQ : ∀ r : Int, 0 ≤ r → r.toNat = x.natAbs → P (jL r) M := fun r h0 e => by rw [jL_lN h0, e]; exact hP
  simp (disch := omega) only [w224, w224_12, lc_ge, jI_lit, jL_lit, jL_le, jL_neg]
  refine ⟨fun _ => hQ _ (by omega) (by omega), fun _ => hQ _ (by omega) (by omega)⟩
/-! ===== the reference's signs ===== -/
theorem w221_s {M : MM} {s1 r1 s2 r2 : Int} {P : Int32 → MM → Prop} (h1 : s1 = 1 ∨ s1 = -1) (h2 : s2 = 1 ∨ s2 = -1) (p1 : 0 ≤ r1) (p2 : 0 ≤ r2) (q1 : r1 < 4611686018427387904) (q2 : r2 < 4611686018427387904) (hP : P (jI (sgn (s1 * r1 - s2 * r2))) M) : w221 (jI s1) (jL r1) (jI s2) (jL r2) M P := by
  have hQ : ∀ r, r = sgn (s1 * r1 - s2 * r2) → P (jI r) M := fun r e => e ▸ hP
  rcases h1 with rfl | rfl <;> rcases h2 with rfl | rfl <;>
  · simp (disch := omega) only [w221, w221_11, w221_26, w221_45, w221_57, w221_83, lc_le, lc_eq, ne_eq, jL_lit, jI_lit, jI_neg, jL_eq, jL_le, jI_eq]
    repeat' (with_reducible refine And.intro (fun _ => ?_) (fun _ => ?_))
    all_goals first | (exfalso; assumption) | exact absurd trivial (by assumption) | exact hQ _ (by unfold sgn; omega)
theorem sg1_c (w t u : Int) : sg1 w t u = 1 ∨ sg1 w t u = -1 ∨ sg1 w t u = 0 := by
  unfold sg1
  rcases sgn_c (sq2 w + sq2 t * u) with h | h | h
  · exact Or.inl h.2
  · exact Or.inr (Or.inl h.2)
  · exact Or.inr (Or.inr h.2)
theorem w223_s {M : MM} {x s r1 r2 : Int} {P : Int32 → MM → Prop} (hs : s = 1 ∨ s = -1) (p1 : 0 ≤ r1) (p2 : 0 ≤ r2) (q1 : r1 < 1152921504606846976) (q2 : r2 < 1152921504606846976) (x1 : -4611686018427387904 < x) (x2 : x < 4611686018427387904) (hP : P (jI (sg1 x (2 * s) (r1 * r2))) M) : w223 (jL x) (jI s) (jL r1) (jL r2) M P := by
  have hQ : ∀ r, r = sg1 x (2 * s) (r1 * r2) → P (jI r) M := fun r e => e ▸ hP
  refine w222_s (by omega) (by omega) ?_
  have hpp : 0 ≤ r1 * r2 := mul_p p1 p2
  have hp0 : r1 * r2 = 0 ↔ r1 = 0 ∨ r2 = 0 := Int.mul_eq_zero
  have e4 : ((x.natAbs * x.natAbs : Nat) : Int) = x * x := Int.natAbs_mul_self
  have e5 : (((2 * r1).toNat * (2 * r2).toNat : Nat) : Int) = 4 * (r1 * r2) := by
    rw [Int.natCast_mul, Int.toNat_of_nonneg (by omega), Int.toNat_of_nonneg (by omega)]; grind
  have hx2 := sqr_p x
  have hx3 : x ≠ 0 → 0 < x * x := sqr_pp
  have hx4 : x = 0 → x * x = 0 := fun e => by rw [e]; rfl
  have hsg : sg1 x (2 * s) (r1 * r2) = sgn (sq2 x + s * (4 * (r1 * r2))) := by
    unfold sg1
    rcases hs with rfl | rfl
    · rw [show sq2 (2 * 1) = 4 from rfl, Int.one_mul]
    · rw [show sq2 (2 * -1) = -4 from rfl]; congr 1; omega
  rcases sgn_c x with q | q | q <;> rw [q.2] <;> rcases hs with rfl | rfl <;>
  · simp (disch := omega) only [w223_19, w223_24, w223_43, w223_55, w223_101, lc_eq, ne_eq, jL_lit, jI_lit, jI_neg, jL_mul, jL_eq, jI_eq]
    repeat' (with_reducible refine And.intro (fun _ => ?_) (fun _ => ?_))
    all_goals first
      | (exfalso; assumption)
      | exact absurd trivial (by assumption)
      | (exfalso; omega)
      | exact hQ _ (by rw [hsg]; unfold sgn sq2; omega)
      | (refine w224_s (x := x) (by omega) (by omega) ?_
         refine w224_s (x := x) (by omega) (by omega) ?_
         rw [jL_lN (show 0 ≤ 2 * r1 by omega), jL_lN (show 0 ≤ 2 * r2 by omega)]
         refine w225_s (by omega) (by omega) (by omega) (by omega) ?_
         rw [e4, e5]
         rcases sgn_c (x * x - 4 * (r1 * r2)) with z | z | z <;> rw [z.2] <;>
         · simp (disch := omega) only [ne_eq, jI_lit, jI_eq, jI_le]
           repeat' (with_reducible refine And.intro (fun _ => ?_) (fun _ => ?_))
           all_goals first | (exfalso; assumption) | exact absurd trivial (by assumption) | (exfalso; omega) | exact hQ _ (by rw [hsg]; unfold sgn sq2; omega))
theorem w220_s {M : MM} {a s1 r1 s2 r2 d : Int} {P : Int32 → MM → Prop} (hL : Lay M) (hed : mL M 203 30 = jL d) (hs1 : s1 = 1 ∨ s1 = -1) (hs2 : s2 = 1 ∨ s2 = -1) (p1 : 0 ≤ r1) (p2 : 0 ≤ r2) (q1 : r1 < 1152921504606846976) (q2 : r2 < 1152921504606846976) (a1 : -9223372036854775807 ≤ a) (a2 : a < 9223372036854775808)
    (x1 : -4611686018427387904 < r1 + r2 - a * a * d) (x2 : r1 + r2 - a * a * d < 4611686018427387904) (hP : P (jI (refC a s1 r1 s2 r2 d)) M) : w220 203 (jL a) (jI s1) (jL r1) (jI s2) (jL r2) M P := by
  have hQ : ∀ r, r = refC a s1 r1 s2 r2 d → P (jI r) M := fun r e => e ▸ hP
  refine w221_s hs1 hs2 p1 p2 (by omega) (by omega) (w222_s a1 a2 ?_)
  rw [hed]
  have hss : -s1 * s2 = 1 ∨ -s1 * s2 = -1 := by rcases hs1 with rfl | rfl <;> rcases hs2 with rfl | rfl <;> decide
  have eT : (2 * (-s1 * s2) : Int) = -(2 * s1 * s2) := by grind
  rcases sgn_c (s1 * r1 - s2 * r2) with f | f | f <;> rw [f.2] <;> rcases sgn_c a with g | g | g <;> rw [g.2] <;>
  · simp (disch := omega) only [w220_35, w220_47, w220_105, kd_203 hL, true_and, ne_eq, jL_lit, jI_lit, jI_neg, jL_mul, jI_mul, jL_add, jL_sub, jI_eq]
    repeat' (with_reducible refine And.intro (fun _ => ?_) (fun _ => ?_))
    all_goals first
      | (exfalso; assumption)
      | exact absurd trivial (by assumption)
      | (exfalso; omega)
      | exact hQ _ (by unfold refC; rw [f.2, g.2]; omega)
      | (refine w223_s hss p1 p2 q1 q2 x1 x2 ?_
         rw [eT]
         rcases sg1_c (r1 + r2 - a * a * d) (-(2 * s1 * s2)) (r1 * r2) with z | z | z <;> rw [z] <;>
         · simp (disch := omega) only [ne_eq, jI_lit, jI_eq, jI_le]
           repeat' (with_reducible refine And.intro (fun _ => ?_) (fun _ => ?_))
           all_goals first | (exfalso; assumption) | exact absurd trivial (by assumption) | (exfalso; omega) | exact hQ _ (by unfold refC; rw [f.2, g.2, z]; omega))
/-! ===== the class's sign ===== -/
theorem so_lt {q t r u : Int} (hq : 0 ≤ q) (ht : 0 < t) (hr : 0 ≤ r) (h : u < q * q) : t * t * u < (q * t + r) * (q * t + r) := by
  have e : (q * t + r) * (q * t + r) = t * t * (q * q) + (2 * (q * t * r) + r * r) := by grind
  have h1 : 0 ≤ q * t * r := mul_p (mul_p hq (by omega)) hr
  have h2 := mul_p hr hr
  have h3 : 0 < t * t := Int.mul_pos ht ht
  have h4 : t * t * (u + 1) ≤ t * t * (q * q) := Int.mul_le_mul_of_nonneg_left (by omega) (by omega)
  rw [Int.mul_add, Int.mul_one] at h4
  omega
theorem so_gt {q t r u : Int} (hq : 0 ≤ q) (ht : 0 < t) (hr : 0 ≤ r) (hrt : r < t) (h : 2 * q < u - q * q) : (q * t + r) * (q * t + r) < t * t * u := by
  have e : t * t * ((q + 1) * (q + 1)) = (q * t + t) * (q * t + t) := by grind
  have hqt : 0 ≤ q * t := mul_p hq (by omega)
  have h1 : (q * t + r) * (q * t + r) < (q * t + t) * (q * t + t) := by
    have := Int.mul_pos (show 0 < t - r by omega) (show 0 < q * t + t + (q * t + r) by omega)
    have e2 : (t - r) * (q * t + t + (q * t + r)) = (q * t + t) * (q * t + t) - (q * t + r) * (q * t + r) := by grind
    omega
  have h2 : t * t * ((q + 1) * (q + 1)) ≤ t * t * u := Int.mul_le_mul_of_nonneg_left (by
    have : (q + 1) * (q + 1) = q * q + 2 * q + 1 := by grind
    omega) (by have := Int.mul_pos ht ht; omega)
  omega
theorem so_eq {q t r u : Int} : (2 * q * t + r) * r - (u - q * q) * t * t = (q * t + r) * (q * t + r) - t * t * u := by grind
theorem w86_main {w t u : Int} {M : MM} {left right : Int} {P : Int32 → MM → Prop} (hw : 0 < left * w) (ht : 0 < right * t) (hl : (left = 1 ∧ right = -1) ∨ (left = -1 ∧ right = 1)) (hu : 0 < u) (b1 : left * w < 4611686018427387904) (b2 : right * t ≤ 4000) (b3 : u ≤ 4000000000000000000) (hP : P (jI (sg1 w t u)) M) : w86_51 (jL w) (jL t) (jL u) (jI left) (jI right) M P := by
  have key : sg1 w t u = left * sgn ((left * w) * (left * w) - (right * t) * (right * t) * u) := by
    unfold sg1
    rcases hl with ⟨rfl, rfl⟩ | ⟨rfl, rfl⟩
    · rw [sq2_p (by omega), sq2_m (by omega), Int.one_mul, Int.one_mul]; congr 1; grind
    · rw [sq2_m (by omega), sq2_p (by omega)]
      have e : -(w * w) + t * t * u = -(-1 * w * (-1 * w) - 1 * t * (1 * t) * u) := by grind
      rw [e]
      rcases sgn_c (-1 * w * (-1 * w) - 1 * t * (1 * t) * u) with z | z | z
      · rw [z.2, sgn_m (by omega)]; rfl
      · rw [z.2, sgn_p (by omega)]; rfl
      · rw [z.1]; rfl
  have hQ : ∀ r, r = left * sgn ((left * w) * (left * w) - (right * t) * (right * t) * u) → P (jI r) M := fun r e => by rw [e, ← key]; exact hP
  have e1 : (jI left).toInt64 = jL left := jI_l (by omega) (by omega)
  have e2 : (jI right).toInt64 = jL right := jI_l (by omega) (by omega)
  unfold w86_51 w86_73 w86_109 w86_212
  simp only [e1, e2, jL_mul]
  generalize left * w = W at *
  generalize right * t = T at *
  have hdv := jL_div (a := W) (b := T) (by omega) (by omega) ht (by omega)
  have hq0 : 0 ≤ W / T := Int.ediv_nonneg (by omega) (by omega)
  have hr0 : 0 ≤ W % T := Int.emod_nonneg _ (by omega)
  have hr1 : W % T < T := Int.emod_lt_of_pos _ ht
  have hW : W = W / T * T + W % T := by rw [Int.mul_comm]; exact (Int.mul_ediv_add_emod W T).symm
  simp only [hdv, jL_lit, jL_mul, jL_sub, jL_add]
  have hrr : W - W / T * T = W % T := by omega
  simp only [hrr]
  have hqle : W / T ≤ W := Int.ediv_le_self _ (by omega)
  generalize W / T = q at *
  generalize W % T = r at *
  have hT0 : ¬ jL T = jL 0 := by rw [jL_eq (by omega) (by omega) (by omega) (by omega)]; omega
  by_cases hq : q ≤ 2000000000
  · have bq : q * q ≤ 2000000000 * 2000000000 := mul_mono hq hq hq0 (by omega)
    have bq0 := sqr_p q
    have f1 := so_lt (u := u) hq0 ht hr0
    have f2 := so_gt (u := u) hq0 ht hr0 hr1
    have f3 := so_eq (q := q) (t := T) (r := r) (u := u)
    rw [← hW] at f1 f2 f3
    by_cases g1 : u < q * q
    · have := f1 g1
      simp (disch := omega) only [lc_le, lc_ge, ne_eq, jI_lit, jL_le, jI_eq]
      repeat' (first | with_reducible refine And.intro hT0 ?_ | with_reducible refine And.intro (fun _ => ?_) (fun _ => ?_))
      all_goals first | (exfalso; assumption) | exact absurd trivial (by assumption) | (exfalso; omega) | exact hQ _ (by rcases hl with ⟨rfl, rfl⟩ | ⟨rfl, rfl⟩ <;> unfold sgn <;> omega)
    · by_cases g2 : 2 * q < u - q * q
      · have := f2 g2
        simp (disch := omega) only [lc_le, lc_ge, ne_eq, jI_lit, jL_le, jI_eq]
        repeat' (first | with_reducible refine And.intro hT0 ?_ | with_reducible refine And.intro (fun _ => ?_) (fun _ => ?_))
        all_goals first | (exfalso; assumption) | exact absurd trivial (by assumption) | (exfalso; omega) | exact hQ _ (by rcases hl with ⟨rfl, rfl⟩ | ⟨rfl, rfl⟩ <;> unfold sgn <;> omega)
      · have c1 : 0 ≤ (u - q * q) * T * T := mul_p (mul_p (by omega) (by omega)) (by omega)
        have c2 : (u - q * q) * T * T ≤ 4000000000 * 4000 * 4000 := mul_mono (mul_mono (by omega) b2 (by omega) (by omega)) b2 (by omega) (by omega)
        have c3 : 0 ≤ 2 * q * T := mul_p (by omega) (by omega)
        have c4 : 2 * q * T ≤ 4000000000 * 4000 := mul_mono (by omega) b2 (by omega) (by omega)
        have c5 : 0 ≤ (2 * q * T + r) * r := mul_p (by omega) hr0
        have c6 : (2 * q * T + r) * r ≤ (4000000000 * 4000 + 4000) * 4000 := mul_mono (by omega) (by omega) hr0 (by omega)
        simp (disch := omega) only [lc_le, lc_ge, ne_eq, jI_lit, jL_le, jI_eq]
        repeat' (first | with_reducible refine And.intro hT0 ?_ | with_reducible refine And.intro (fun _ => ?_) (fun _ => ?_))
        all_goals first | (exfalso; assumption) | exact absurd trivial (by assumption) | (exfalso; omega) | exact hQ _ (by rcases hl with ⟨rfl, rfl⟩ | ⟨rfl, rfl⟩ <;> unfold sgn <;> omega)
  · have f1 : T * T * u < W * W := by
      rw [hW]
      refine so_lt hq0 ht hr0 ?_
      have : 2000000001 * 2000000001 ≤ q * q := mul_mono (by omega) (by omega) (by omega) (by omega)
      omega
    simp (disch := omega) only [lc_le, lc_ge, ne_eq, jI_lit, jL_le, jI_eq]
    repeat' (first | with_reducible refine And.intro hT0 ?_ | with_reducible refine And.intro (fun _ => ?_) (fun _ => ?_))
    all_goals first | (exfalso; assumption) | exact absurd trivial (by assumption) | (exfalso; omega) | exact hQ _ (by rcases hl with ⟨rfl, rfl⟩ | ⟨rfl, rfl⟩ <;> unfold sgn <;> omega)
theorem sg1_e (w t u : Int) : sg1 w t u = sgn ((if 0 ≤ w then w * w else -(w * w)) + (if 0 ≤ t then t * t * u else -(t * t * u))) := by
  unfold sg1 sq2
  congr 2
  by_cases h : 0 ≤ t
  · rw [if_pos h, if_pos h]
  · rw [if_neg h, if_neg h, Int.neg_mul]
theorem w86_s {w t u : Int} {M : MM} {P : Int32 → MM → Prop} (b1 : -4611686018427387904 < w) (b1' : w < 4611686018427387904) (b2 : -4000 ≤ t) (b2' : t ≤ 4000) (hu : 0 ≤ u) (b3 : u ≤ 4000000000000000000) (hP : P (jI (sg1 w t u)) M) : w86 (jL w) (jL t) (jL u) M P := by
  have hQ : ∀ r, r = sg1 w t u → P (jI r) M := fun r e => e ▸ hP
  have f1 := sqr_p w
  have f2 : w ≠ 0 → 0 < w * w := sqr_pp
  have f3 : w = 0 → w * w = 0 := fun e => by rw [e]; rfl
  have f4 : 0 ≤ t * t * u := mul_p (sqr_p t) hu
  have f5 : t ≠ 0 → u ≠ 0 → 0 < t * t * u := fun e1 e2 => Int.mul_pos (sqr_pp e1) (by omega)
  have f6 : t = 0 → t * t * u = 0 := fun e => by rw [e, Int.mul_zero, Int.zero_mul]
  have f7 : u = 0 → t * t * u = 0 := fun e => by rw [e, Int.mul_zero]
  simp (disch := omega) only [w86, w86_21, w86_36, lc_le, lc_ge, lc_eq, ne_eq, jL_lit, jI_lit, jI_neg, jL_le, jL_eq]
  repeat' (with_reducible refine And.intro (fun _ => ?_) (fun _ => ?_))
  all_goals first
    | (exfalso; assumption)
    | exact absurd trivial (by assumption)
    | (exfalso; omega)
    | exact w86_main (by omega) (by omega) (by omega) (by omega) (by omega) (by omega) b3 hP
    | (unfold w86_51 w86_73
       simp (disch := omega) only [ne_eq, jI_lit, jI_eq]
       repeat' (first | (exfalso; assumption) | exact absurd trivial (by assumption) | (exfalso; omega) | with_reducible refine And.intro (fun _ => ?_) (fun _ => ?_))
       all_goals first | (exfalso; assumption) | exact absurd trivial (by assumption) | (exfalso; omega) | exact hQ _ (by rw [sg1_e]; unfold sgn; omega))
