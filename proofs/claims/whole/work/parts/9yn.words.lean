/-! ===== what is printed: bytes, numbers, words ===== -/
abbrev OT : Type := Nat × (Nat → Nat)
def wr (o : OT) (c : Nat) : OT := (o.1 + 1, fun i => if i = o.1 then c else o.2 i)
def COu (M : MM) (o : OT) : Prop := mI M 0 9 = jI (o.1 : Int) ∧ ∀ i, i < o.1 → mI M 53 i = jI (o.2 i : Int)
def ROu (M : MM) (o : OT) : Prop := mI M 203 69 = jI (o.1 : Int) ∧ ∀ i, i < o.1 → mI M 235 i = jI (o.2 i : Int)
def sCO : Nat → Nat → Bool := sB 0 9 9 53 53
def sRO : Nat → Nat → Bool := sB 203 69 69 235 235
theorem b_id {c : Nat} (h : c < 128) : (jI (c : Int)).toInt8.toInt32.toInt8.toInt32 = jI (c : Int) := by
  refine Int32.toInt_inj.mp ?_
  rw [Int8.toInt_toInt32, Int32.toInt_toInt8, Int8.toInt_toInt32, Int32.toInt_toInt8, jI_toInt (by omega) (by omega)]
  have e : (c : Int).bmod (2 ^ 8) = c := by rw [Int.bmod_def, if_pos (by omega)]; omega
  rw [e, e]
theorem w147_s {M : MM} {o : OT} {c : Nat} {P : MM → Prop} (hL : Lay M) (hO : COu M o) (o2 : o.1 < 256) (hc : c < 128) (hX : ∀ M', Fr sCO M M' → COu M' (wr o c) → P M') : w147 0 (jI (c : Int)) M P := by
  unfold w147
  rw [hO.1, jI_cn (by omega), b_id hc]
  refine ⟨kd_0 hL, br_f (by rw [show (256 : Int32) = jI 256 from rfl, jI_le (by omega) (by omega) (by omega) (by omega)]; omega) ⟨kd_0 hL, kd_0 hL, 53, rf_0_8 hL, by rw [← nI_j]; exact in_53 hL o2, kd_0 hL, kd_0 hL, ?_⟩⟩
  rw [gI_n (by omega), hO.1, show (1 : Int32) = jI 1 from rfl, jI_add, c_s1]
  refine hX _ (Fr_sI (Fr_sI Fr_r (sB_t2 (by omega))) (sB_t1 (by omega))) ⟨gI_y ⟨rfl, rfl⟩, fun i hi => ?_⟩
  have hi' : i < o.1 + 1 := hi
  show _ = jI ((if i = o.1 then c else o.2 i : Nat) : Int)
  rw [gI_n (by omega)]
  by_cases x : i = o.1
  · rw [if_pos x, gI_y ⟨rfl, x⟩]
  · rw [if_neg x, gI_n (by omega)]; exact hO.2 i (by omega)
theorem w279_s {M : MM} {o : OT} {c : Nat} {P : MM → Prop} (hL : Lay M) (hO : ROu M o) (o2 : o.1 < 256) (hc : c < 128) (hX : ∀ M', Fr sRO M M' → ROu M' (wr o c) → P M') : w279 203 (jI (c : Int)) M P := by
  unfold w279
  rw [hO.1, jI_cn (by omega), b_id hc]
  refine ⟨kd_203 hL, kd_203 hL, 235, rf_203_68 hL, by rw [← nI_j]; exact in_235 hL (by omega), kd_203 hL, kd_203 hL, ?_⟩
  rw [gI_n (by omega), hO.1, show (1 : Int32) = jI 1 from rfl, jI_add, c_s1]
  refine hX _ (Fr_sI (Fr_sI Fr_r (sB_t2 (by omega))) (sB_t1 (by omega))) ⟨gI_y ⟨rfl, rfl⟩, fun i hi => ?_⟩
  have hi' : i < o.1 + 1 := hi
  show _ = jI ((if i = o.1 then c else o.2 i : Nat) : Int)
  rw [gI_n (by omega)]
  by_cases x : i = o.1
  · rw [if_pos x, gI_y ⟨rfl, x⟩]
  · rw [if_neg x, gI_n (by omega)]; exact hO.2 i (by omega)
def wrN (o : OT) (v : Nat) : OT := if v < 10 then wr (wr o 32) (48 + v % 10) else wr (wr (wr o 32) (48 + v / 10)) (48 + v % 10)
theorem wrN_l {o : OT} {v : Nat} : (wrN o v).1 ≤ o.1 + 3 := by
  unfold wrN
  by_cases c : v < 10
  · rw [if_pos c]; show o.1 + 1 + 1 ≤ _; omega
  · rw [if_neg c]; show o.1 + 1 + 1 + 1 ≤ _; omega
theorem ten_m {v : Nat} (h : v ≤ 18) : jI 48 + (jI (v : Int) - jI (v : Int) / jI 10 * jI 10) = jI ((48 + v % 10 : Nat) : Int) := by
  rw [jI_div (by omega) (by omega) (by omega) (by omega), jI_mul, jI_sub, jI_add]
  exact congrArg jI (by omega)
theorem ten_d {v : Nat} (h : v ≤ 18) : jI 48 + jI (v : Int) / jI 10 = jI ((48 + v / 10 : Nat) : Int) := by
  rw [jI_div (by omega) (by omega) (by omega) (by omega), jI_add]
  exact congrArg jI (by omega)
theorem w148_s {M : MM} {o : OT} {v : Nat} {P : MM → Prop} (hL : Lay M) (hO : COu M o) (o2 : o.1 + 3 ≤ 256) (hv : v ≤ 18) (hX : ∀ M', Fr sCO M M' → COu M' (wrN o v) → P M') : w148 0 (jI (v : Int)) M P := by
  unfold wrN at hX
  refine ⟨kd_0 hL, w147_s (c := 32) hL hO (by omega) (by omega) (fun M1 f1 c1 => ?_)⟩
  have hL1 := f1.1 hL
  have l1 : (wr o 32).1 = o.1 + 1 := rfl
  rw [show (10 : Int32) = jI 10 from rfl, jI_lt (by omega) (by omega) (by omega) (by omega)]
  refine ⟨fun z => ⟨by decide, kd_0 hL1, ?_⟩, fun z => ⟨by decide, kd_0 hL1, ?_⟩⟩
  · rw [show (48 : Int32) = jI 48 from rfl, show (10 : Int32) = jI 10 from rfl, ten_m hv]
    rw [if_pos (by omega)] at hX
    exact w147_s hL1 c1 (by omega) (by omega) (fun M2 f2 c2 => hX M2 (Fr_t f1 f2) c2)
  · rw [show (48 : Int32) = jI 48 from rfl, ten_d hv]
    rw [if_neg (by omega)] at hX
    refine w147_s hL1 c1 (by omega) (by omega) (fun M2 f2 c2 => ⟨by decide, kd_0 (f2.1 hL1), ?_⟩)
    have l2 : (wr (wr o 32) (48 + v / 10)).1 = o.1 + 1 + 1 := rfl
    rw [show (48 : Int32) = jI 48 from rfl, show (10 : Int32) = jI 10 from rfl, ten_m hv]
    exact w147_s (f2.1 hL1) c2 (by omega) (by omega) (fun M3 f3 c3 => hX M3 (Fr_t (Fr_t f1 f2) f3) c3)
theorem w280_s {M : MM} {o : OT} {v : Nat} {P : MM → Prop} (hL : Lay M) (hO : ROu M o) (o2 : o.1 + 3 ≤ 256) (hv : v ≤ 18) (hX : ∀ M', Fr sRO M M' → ROu M' (wrN o v) → P M') : w280 203 (jI (v : Int)) M P := by
  unfold wrN at hX
  refine ⟨kd_203 hL, w279_s (c := 32) hL hO (by omega) (by omega) (fun M1 f1 c1 => ?_)⟩
  have hL1 := f1.1 hL
  have l1 : (wr o 32).1 = o.1 + 1 := rfl
  rw [show (9 : Int32) = jI 9 from rfl, jI_le (by omega) (by omega) (by omega) (by omega)]
  refine ⟨fun z => ⟨by decide, kd_203 hL1, ?_⟩, fun z => ⟨by decide, kd_203 hL1, ?_⟩⟩
  · rw [show (48 : Int32) = jI 48 from rfl, show (10 : Int32) = jI 10 from rfl, ten_m hv]
    rw [if_pos (by omega)] at hX
    exact w279_s hL1 c1 (by omega) (by omega) (fun M2 f2 c2 => hX M2 (Fr_t f1 f2) c2)
  · rw [show (48 : Int32) = jI 48 from rfl, show (10 : Int32) = jI 10 from rfl, ten_d hv]
    rw [if_neg (by omega)] at hX
    refine w279_s hL1 c1 (by omega) (by omega) (fun M2 f2 c2 => ⟨by decide, kd_203 (f2.1 hL1), ?_⟩)
    have l2 : (wr (wr o 32) (48 + v / 10)).1 = o.1 + 1 + 1 := rfl
    rw [show (48 : Int32) = jI 48 from rfl, show (10 : Int32) = jI 10 from rfl, ten_m hv]
    exact w279_s (f2.1 hL1) c2 (by omega) (by omega) (fun M3 f3 c3 => hX M3 (Fr_t (Fr_t f1 f2) f3) c3)
/-- a word by its letters, the last one first; a letter c is c + a in base b -/
def nv (b a : Nat) : List Nat → Nat
  | [] => 0
  | c :: r => (c + a) + b * nv b a r
def gNm (R : List Nat) : Prop := 1 ≤ R.length ∧ R.length ≤ 8 ∧ ∀ c, c ∈ R → 1 ≤ c ∧ c ≤ 26
def pwr (o : OT) : List Nat → OT
  | [] => o
  | c :: r => wr (pwr o r) (c + 96)
theorem pwr_l {o : OT} {R : List Nat} : (pwr o R).1 = o.1 + R.length := by
  induction R with
  | nil => rfl
  | cons c r ih => show (pwr o r).1 + 1 = o.1 + (r.length + 1); omega
theorem nv_d {b a : Nat} (b0 : 0 < b) : ∀ (j : Nat) (R : List Nat), (∀ c, c ∈ R → c + a < b) → nv b a R / b ^ j % b = if h : j < R.length then R[j] + a else 0 := by
  intro j
  induction j with
  | zero =>
    intro R hR
    cases R with
    | nil => show 0 / b ^ 0 % b = _; rw [Nat.zero_div, Nat.zero_mod]; rfl
    | cons c r =>
      show ((c + a) + b * nv b a r) / b ^ 0 % b = _
      rw [Nat.pow_zero, Nat.div_one, Nat.add_mul_mod_self_left, Nat.mod_eq_of_lt (hR c (List.mem_cons_self ..)), dif_pos (show 0 < (c :: r).length by simp)]
      rfl
  | succ j ih =>
    intro R hR
    cases R with
    | nil => show 0 / b ^ (j + 1) % b = _; rw [Nat.zero_div, Nat.zero_mod]; rfl
    | cons c r =>
      show ((c + a) + b * nv b a r) / b ^ (j + 1) % b = _
      rw [Nat.pow_succ, Nat.mul_comm (b ^ j) b, ← Nat.div_div_eq_div_mul, Nat.add_mul_div_left _ _ b0, Nat.div_eq_of_lt (hR c (List.mem_cons_self ..)), Nat.zero_add, ih r (fun c hc => hR c (List.mem_cons_of_mem _ hc))]
      by_cases h : j < r.length
      · rw [dif_pos h, dif_pos (show j + 1 < (c :: r).length by rw [List.length_cons]; omega)]; rfl
      · rw [dif_neg h, dif_neg (show ¬ j + 1 < (c :: r).length by rw [List.length_cons]; omega)]
theorem nv_b {b a : Nat} : ∀ R : List Nat, (∀ c, c ∈ R → c + a < b) → nv b a R < b ^ R.length := by
  intro R
  induction R with
  | nil => intro _; exact Nat.one_pos
  | cons c r ih =>
    intro hR
    have h1 := hR c (List.mem_cons_self ..)
    have h2 := ih (fun c hc => hR c (List.mem_cons_of_mem _ hc))
    show (c + a) + b * nv b a r < b ^ (r.length + 1)
    rw [Nat.pow_succ, Nat.mul_comm (b ^ r.length) b]
    have h3 : b * (nv b a r + 1) ≤ b * b ^ r.length := Nat.mul_le_mul_left b h2
    rw [Nat.mul_add, Nat.mul_one] at h3
    omega
theorem jL_nat {v : Nat} (h : v < 9223372036854775808) : (jL (v : Int)).toBitVec.toNat = v ∧ (jL (v : Int)).toBitVec.msb = false := by
  have e : (jL (v : Int)).toBitVec.toInt = v := jL_toInt (by omega) (by omega)
  have m : (jL (v : Int)).toBitVec.msb = false := by
    rw [BitVec.msb_eq_toInt, e]
    exact decide_eq_false (by omega)
  refine ⟨?_, m⟩
  have := BitVec.toInt_eq_toNat_of_msb m
  rw [e] at this
  omega
theorem dig_c {v j : Nat} (h : v < 9223372036854775808) (hj : j < 8) : (((jL (v : Int)).toUInt64 >>> ((jI (8 * (j : Int))).toInt64.toUInt64 &&& Int64.toUInt64 63)).toInt64.toInt32 &&& (255 : Int32)) = jI ((v / 256 ^ j % 256 : Nat) : Int) := by
  have e0 : ((jL (v : Int)).toUInt64 >>> ((jI (8 * (j : Int))).toInt64.toUInt64 &&& Int64.toUInt64 63)).toInt64.toBitVec = (jL (v : Int)).toBitVec >>> (8 * j) := by
    match j, hj with
    | 0, _ => rfl
    | 1, _ => rfl
    | 2, _ => rfl
    | 3, _ => rfl
    | 4, _ => rfl
    | 5, _ => rfl
    | 6, _ => rfl
    | 7, _ => rfl
  obtain ⟨x, ex⟩ : ∃ x : Int64, x = ((jL (v : Int)).toUInt64 >>> ((jI (8 * (j : Int))).toInt64.toUInt64 &&& Int64.toUInt64 63)).toInt64 := ⟨_, rfl⟩
  rw [← ex] at e0
  rw [← ex]
  have e1 : (x.toInt32 &&& (255 : Int32)).toBitVec = x.toBitVec.signExtend 32 &&& 255#32 := rfl
  have en : (x.toInt32 &&& (255 : Int32)).toBitVec.toNat = v / 256 ^ j % 256 := by
    rw [e1, BitVec.signExtend_eq_setWidth_of_le _ (by omega), BitVec.toNat_and, BitVec.toNat_setWidth, e0, BitVec.toNat_ushiftRight, Nat.shiftRight_eq_div_pow, (jL_nat h).1, Nat.pow_mul]
    have q := Nat.and_two_pow_sub_one_eq_mod (v / (2 ^ 8) ^ j % 2 ^ 32) 8
    have q2 : v / (2 ^ 8) ^ j % 2 ^ 32 % 2 ^ 8 = v / (2 ^ 8) ^ j % 256 := by omega
    exact q.trans q2
  refine Int32.toInt_inj.mp ?_
  rw [jI_toInt (by omega) (by omega)]
  show (x.toInt32 &&& (255 : Int32)).toBitVec.toInt = _
  rw [BitVec.toInt_eq_toNat_cond, en, if_pos (by omega)]
theorem dig_r {v j : Nat} (h : v < 9223372036854775808) (hj : j < 9) : ((jL (v : Int) >>> ((jI (5 * (j : Int))).toInt64 &&& 63)) &&& (31 : Int64)) = jL ((v / 32 ^ j % 32 : Nat) : Int) := by
  have e0 : ((jL (v : Int) >>> ((jI (5 * (j : Int))).toInt64 &&& 63)) &&& (31 : Int64)).toBitVec = (jL (v : Int)).toBitVec.sshiftRight (5 * j) &&& 31#64 := by
    match j, hj with
    | 0, _ => rfl
    | 1, _ => rfl
    | 2, _ => rfl
    | 3, _ => rfl
    | 4, _ => rfl
    | 5, _ => rfl
    | 6, _ => rfl
    | 7, _ => rfl
    | 8, _ => rfl
  have en : ((jL (v : Int) >>> ((jI (5 * (j : Int))).toInt64 &&& 63)) &&& (31 : Int64)).toBitVec.toNat = v / 32 ^ j % 32 := by
    rw [e0, BitVec.sshiftRight_eq_of_msb_false (jL_nat h).2, BitVec.toNat_and, BitVec.toNat_ushiftRight, Nat.shiftRight_eq_div_pow, (jL_nat h).1, Nat.pow_mul]
    exact Nat.and_two_pow_sub_one_eq_mod _ 5
  refine Int64.toInt_inj.mp ?_
  rw [jL_toInt (by omega) (by omega)]
  show BitVec.toInt _ = _
  rw [BitVec.toInt_eq_toNat_cond, en, if_pos (by omega)]
