/-! ===== the tape: bytes in the class, ints in the reference; feed, fault, status, top, bottom ===== -/
def by4 (w : Int32) (k : Nat) : Nat := (w.toInt / (2 : Int) ^ k % 256).toNat
def sb (b : Nat) : Int32 := if b < 128 then jI (b : Int) else jI ((b : Int) - 256)
theorem by4_b {w : Int32} {k : Nat} : by4 w k < 256 := by unfold by4; omega
theorem cby {w v : Int32} {k : Nat} (e : v.toBitVec = w.toBitVec.sshiftRight k) : v.toInt8.toInt32.toInt8.toInt32 = sb (by4 w k) := by
  have e1 : v.toInt = w.toInt / (2 : Int) ^ k := by
    show v.toBitVec.toInt = w.toBitVec.toInt / _
    rw [e, BitVec.toInt_sshiftRight, Int.shiftRight_eq_div_pow]
    rfl
  have b := by4_b (w := w) (k := k)
  refine Int32.toInt_inj.mp ?_
  rw [Int8.toInt_toInt32, Int32.toInt_toInt8, Int8.toInt_toInt32, Int32.toInt_toInt8, e1]
  have q : sb (by4 w k) = jI ((w.toInt / (2 : Int) ^ k).bmod 256) := by
    unfold sb
    have e2 : ((by4 w k : Nat) : Int) = w.toInt / (2 : Int) ^ k % 256 := by unfold by4; omega
    rw [e2, Int.bmod_def]
    by_cases c : by4 w k < 128
    · rw [if_pos c, if_pos (by omega)]; rfl
    · rw [if_neg c, if_neg (by omega)]; rfl
  have b1 := Int.le_bmod (x := w.toInt / (2 : Int) ^ k) (m := 256) (by omega)
  have b2 := Int.bmod_lt (x := w.toInt / (2 : Int) ^ k) (m := 256) (by omega)
  rw [q, jI_toInt (by omega) (by omega)]
  exact Int.bmod_bmod
theorem rby {w v : Int32} {k : Nat} (hk : k ≤ 24) (e : v.toBitVec = (w.toBitVec >>> k) &&& 255#32) : v = jI (by4 w k : Int) := by
  have b := by4_b (w := w) (k := k)
  have en : v.toBitVec.toNat = w.toBitVec.toNat / 2 ^ k % 256 := by
    rw [e, BitVec.toNat_and, BitVec.toNat_ushiftRight, Nat.shiftRight_eq_div_pow]
    exact Nat.and_two_pow_sub_one_eq_mod _ 8
  have ei : v.toInt = (v.toBitVec.toNat : Int) := by
    show v.toBitVec.toInt = _
    rw [BitVec.toInt_eq_toNat_cond, if_pos (by omega)]
  have ew : ∃ c : Int, w.toInt = (w.toBitVec.toNat : Int) - 4294967296 * c := by
    show ∃ c : Int, w.toBitVec.toInt = _
    rw [BitVec.toInt_eq_toNat_cond]
    by_cases c : 2 * w.toBitVec.toNat < 2 ^ 32
    · exact ⟨0, by rw [if_pos c]; omega⟩
    · exact ⟨1, by rw [if_neg c]; omega⟩
  obtain ⟨c, hc⟩ := ew
  have fin : ((by4 w k : Nat) : Int) = ((w.toBitVec.toNat / 2 ^ k % 256 : Nat) : Int) := by
    have p : (4294967296 : Int) * c = (2 : Int) ^ k * ((2 : Int) ^ (24 - k) * (256 * c)) := by
      rw [← Int.mul_assoc, ← Int.pow_add, show k + (24 - k) = 24 by omega, ← Int.mul_assoc]
      rfl
    have pp : (0 : Int) < (2 : Int) ^ k := Int.pow_pos (by omega)
    unfold by4
    rw [hc, p, Int.sub_eq_add_neg, ← Int.mul_neg, Int.add_mul_ediv_left _ _ (by omega)]
    rw [Int.natCast_emod, Int.natCast_ediv, Int.natCast_pow]
    have e5 : ((2 : Int) ^ (24 - k) * (256 * c)) = 256 * ((2 : Int) ^ (24 - k) * c) := by rw [← Int.mul_assoc, Int.mul_comm _ 256, Int.mul_assoc]
    rw [e5]
    have : ((w.toBitVec.toNat : Int) / (2 : Int) ^ k + -(256 * ((2 : Int) ^ (24 - k) * c))) % 256 = (w.toBitVec.toNat : Int) / (2 : Int) ^ k % 256 := by omega
    rw [this]
    show ((((w.toBitVec.toNat : Int) / (2 : Int) ^ k % 256).toNat : Nat) : Int) = (w.toBitVec.toNat : Int) / (2 : Int) ^ k % 256
    omega
  refine Int32.toInt_inj.mp ?_
  rw [ei, en, jI_toInt (by omega) (by omega), fin]
theorem shc {w : Int32} {j : Nat} (h : j < 4) : (w >>> (jI (24 - 8 * (j : Int)) &&& 31)).toBitVec = w.toBitVec.sshiftRight (24 - 8 * j) := by
  match j, h with
  | 0, _ => rfl
  | 1, _ => rfl
  | 2, _ => rfl
  | 3, _ => rfl
theorem shr {w : Int32} {j : Nat} (h : j < 4) : ((w.toUInt32 >>> ((jI (24 - 8 * (j : Int))).toUInt32 &&& Int32.toUInt32 31)).toInt32 &&& (255 : Int32)).toBitVec = (w.toBitVec >>> (24 - 8 * j)) &&& 255#32 := by
  match j, h with
  | 0, _ => rfl
  | 1, _ => rfl
  | 2, _ => rfl
  | 3, _ => rfl
def apT (T : Nat → Nat) (t : Nat) (w : Int32) : Nat → Nat := fun i => if i < t then T i else by4 w (24 - 8 * (i - t))
def BT (t : Nat) (T : Nat → Nat) : Prop := ∀ i, i < t → T i < 256
theorem BT_a {t : Nat} {T : Nat → Nat} {w : Int32} (h : BT t T) : BT (t + 4) (apT T t w) := fun i hi => by
  unfold apT
  by_cases c : i < t
  · rw [if_pos c]; exact h i c
  · rw [if_neg c]; exact by4_b
def CTp (M : MM) (t : Nat) (T : Nat → Nat) : Prop := mI M 0 1 = jI (t : Int) ∧ t ≤ 700 ∧ ∀ i, i < t → mI M 1 i = sb (T i)
def RTp (M : MM) (t : Nat) (T : Nat → Nat) : Prop := mI M 203 8 = jI (t : Int) ∧ t ≤ 700 ∧ ∀ i, i < t → mI M 209 i = jI (T i : Int)
def sCT : Nat → Nat → Bool := sB 0 1 1 1 1
def sRT : Nat → Nat → Bool := sB 203 8 8 209 209
theorem w15_s {M : MM} {t : Nat} {T : Nat → Nat} {w : Int32} {P : MM → Prop} (hL : Lay M) (hT : CTp M t T) (t4 : t ≤ 696) (hX : ∀ M', Fr sCT M M' → CTp M' (t + 4) (apT T t w) → P M') : w15 0 w M P := by
  have lp : ∀ (n j : Nat) (M' : MM), j + n = 4 → Fr sCT M M' → CTp M' (t + j) (apT T t w) → w15_3 (n + 1) 0 w (jI (24 - 8 * (j : Int))) M' P := by
    intro n
    induction n with
    | zero =>
      intro j M' e hF hI
      rw [show t + j = t + 4 by omega] at hI
      exact br_t (by rw [show (0 : Int32) = jI 0 from rfl, jI_lt (by omega) (by omega) (by omega) (by omega)]; omega) (hX M' hF hI)
    | succ n ih =>
      intro j M' e hF hI
      have hL' := hF.1 hL
      refine br_f (by rw [show (0 : Int32) = jI 0 from rfl, jI_lt (by omega) (by omega) (by omega) (by omega)]; omega) ⟨kd_0 hL', br_f (by rw [hI.1, show (700 : Int32) = jI 700 from rfl, jI_le (by omega) (by omega) (by omega) (by omega)]; omega) ⟨kd_0 hL', kd_0 hL', 1, rf_0_0 hL', by rw [hI.1, ← nI_j]; exact in_1 hL' (by omega), kd_0 hL', kd_0 hL', ?_⟩⟩
      unfold w15_40
      rw [hI.1, jI_cn (by omega), gI_n (by omega), hI.1, cby (shc (by omega)), show (-8 : Int32) = jI (-8) from rfl, show (1 : Int32) = jI 1 from rfl, jI_add, jI_add, show (24 - 8 * (j : Int) + -8) = 24 - 8 * ((j + 1 : Nat) : Int) by omega, c_s1]
      refine ih (j + 1) _ (by omega) (Fr_sI (Fr_sI hF (sB_t2 (by omega))) (sB_t1 (by omega))) ⟨gI_y ⟨rfl, rfl⟩, by omega, fun i hi => ?_⟩
      rw [gI_n (by omega)]
      by_cases c : i = t + j
      · rw [gI_y ⟨rfl, c⟩]
        unfold apT
        rw [if_neg (by omega), show i - t = j by omega]
      · rw [gI_n (by omega)]
        exact hI.2.2 i (by omega)
  refine ⟨5, lp 4 0 M (by omega) Fr_r ⟨hT.1, by omega, fun i hi => ?_⟩⟩
  rw [hT.2.2 i hi]
  exact congrArg sb (if_pos hi).symm
theorem w164_s {M : MM} {t : Nat} {T : Nat → Nat} {w : Int32} {P : MM → Prop} (hL : Lay M) (hT : RTp M t T) (t4 : t ≤ 696) (hX : ∀ M', Fr sRT M M' → RTp M' (t + 4) (apT T t w) → P M') : w164 203 w M P := by
  have lp : ∀ (n j : Nat) (M' : MM), j + n = 4 → Fr sRT M M' → RTp M' (t + j) (apT T t w) → w164_3 (n + 1) 203 w (jI (24 - 8 * (j : Int))) M' P := by
    intro n
    induction n with
    | zero =>
      intro j M' e hF hI
      rw [show t + j = t + 4 by omega] at hI
      exact br_t (by rw [show (0 : Int32) = jI 0 from rfl, jI_lt (by omega) (by omega) (by omega) (by omega)]; omega) (hX M' hF hI)
    | succ n ih =>
      intro j M' e hF hI
      have hL' := hF.1 hL
      refine br_f (by rw [show (0 : Int32) = jI 0 from rfl, jI_lt (by omega) (by omega) (by omega) (by omega)]; omega) ⟨kd_203 hL', kd_203 hL', 209, rf_203_7 hL', by rw [hI.1, ← nI_j]; exact in_209 hL' (by omega), kd_203 hL', kd_203 hL', ?_⟩
      unfold w164_33
      rw [hI.1, jI_cn (by omega), gI_n (by omega), hI.1, rby (k := 24 - 8 * j) (by omega) (shr (by omega)), show (-8 : Int32) = jI (-8) from rfl, show (1 : Int32) = jI 1 from rfl, jI_add, jI_add, show (24 - 8 * (j : Int) + -8) = 24 - 8 * ((j + 1 : Nat) : Int) by omega, c_s1]
      refine ih (j + 1) _ (by omega) (Fr_sI (Fr_sI hF (sB_t2 (by omega))) (sB_t1 (by omega))) ⟨gI_y ⟨rfl, rfl⟩, by omega, fun i hi => ?_⟩
      rw [gI_n (by omega)]
      by_cases c : i = t + j
      · rw [gI_y ⟨rfl, c⟩]
        unfold apT
        rw [if_neg (by omega), show i - t = j by omega]
      · rw [gI_n (by omega)]
        exact hI.2.2 i (by omega)
  refine ⟨5, lp 4 0 M (by omega) Fr_r ⟨hT.1, by omega, fun i hi => ?_⟩⟩
  rw [hT.2.2 i hi]
  exact congrArg (fun q : Nat => jI (q : Int)) (if_pos hi).symm
def feT (t : Nat) (T : Nat → Nat) (a b c d e : Int32) : Nat → Nat := apT (apT (apT (apT (apT T t a) (t + 4) b) (t + 8) c) (t + 12) d) (t + 16) e
def feA (t : Nat) (T : Nat → Nat) (a b c d e : Int32) : Int32 × Nat × (Nat → Nat) := if t ≤ 680 then (jI ((t + 20 : Nat) : Int), t + 20, feT t T a b c d e) else (-1, t, T)
theorem BT_f {t t' : Nat} {T T' : Nat → Nat} {a b c d e r : Int32} (h : BT t T) (q : (r, t', T') = feA t T a b c d e) : BT t' T' := by
  unfold feA at q
  by_cases x : t ≤ 680
  · rw [if_pos x] at q
    injection q with q1 q2
    injection q2 with q3 q4
    rw [q3, q4]
    exact BT_a (BT_a (BT_a (BT_a (BT_a h))))
  · rw [if_neg x] at q
    injection q with q1 q2
    injection q2 with q3 q4
    rw [q3, q4]; exact h
theorem w14_q {M : MM} {t : Nat} {T : Nat → Nat} {a b c d e : Int32} {P : Int32 → MM → Prop} (hL : Lay M) (hT : CTp M t T) (hX : ∀ M' r t' T', Fr sCT M M' → (r, t', T') = feA t T a b c d e → CTp M' t' T' → P r M') : w14 0 a b c d e M P := by
  have t7 := hT.2.1
  unfold feA at hX
  unfold w14
  rw [hT.1, show (680 : Int32) = jI 680 from rfl, jI_le (by omega) (by omega) (by omega) (by omega)]
  refine ⟨kd_0 hL, fun z => ⟨kd_0 hL, ?_⟩, fun z => ?_⟩
  · rw [if_pos (by omega)] at hX
    refine w15_s hL hT (by omega) (fun M1 f1 c1 => ⟨kd_0 (f1.1 hL), w15_s (f1.1 hL) c1 (by omega) (fun M2 f2 c2 => ⟨kd_0 (f2.1 (f1.1 hL)), w15_s (f2.1 (f1.1 hL)) c2 (by omega) (fun M3 f3 c3 => ⟨kd_0 (f3.1 (f2.1 (f1.1 hL))), w15_s (f3.1 (f2.1 (f1.1 hL))) c3 (by omega) (fun M4 f4 c4 => ⟨kd_0 (f4.1 (f3.1 (f2.1 (f1.1 hL)))), w15_s (f4.1 (f3.1 (f2.1 (f1.1 hL)))) c4 (by omega) (fun M5 f5 c5 => ⟨kd_0 (f5.1 (f4.1 (f3.1 (f2.1 (f1.1 hL))))), ?_⟩)⟩)⟩)⟩)⟩)
    rw [c5.1]
    exact hX M5 _ _ _ (Fr_t (Fr_t (Fr_t (Fr_t f1 f2) f3) f4) f5) rfl c5
  · rw [if_neg (by omega)] at hX
    exact hX M _ _ _ Fr_r rfl hT
theorem w163_q {M : MM} {t : Nat} {T : Nat → Nat} {a b c d e : Int32} {P : Int32 → MM → Prop} (hL : Lay M) (hT : RTp M t T) (hX : ∀ M' r t' T', Fr sRT M M' → (r, t', T') = feA t T a b c d e → RTp M' t' T' → P r M') : w163 203 a b c d e M P := by
  have t7 := hT.2.1
  unfold feA at hX
  unfold w163
  rw [hT.1, show (20 : Int32) = jI 20 from rfl, show (700 : Int32) = jI 700 from rfl, jI_add, jI_le (by omega) (by omega) (by omega) (by omega)]
  refine ⟨kd_203 hL, fun z => ⟨kd_203 hL, ?_⟩, fun z => ?_⟩
  · rw [if_pos (by omega)] at hX
    refine w164_s hL hT (by omega) (fun M1 f1 c1 => ⟨kd_203 (f1.1 hL), w164_s (f1.1 hL) c1 (by omega) (fun M2 f2 c2 => ⟨kd_203 (f2.1 (f1.1 hL)), w164_s (f2.1 (f1.1 hL)) c2 (by omega) (fun M3 f3 c3 => ⟨kd_203 (f3.1 (f2.1 (f1.1 hL))), w164_s (f3.1 (f2.1 (f1.1 hL))) c3 (by omega) (fun M4 f4 c4 => ⟨kd_203 (f4.1 (f3.1 (f2.1 (f1.1 hL)))), w164_s (f4.1 (f3.1 (f2.1 (f1.1 hL)))) c4 (by omega) (fun M5 f5 c5 => ⟨kd_203 (f5.1 (f4.1 (f3.1 (f2.1 (f1.1 hL))))), ?_⟩)⟩)⟩)⟩)⟩)
    rw [c5.1]
    exact hX M5 _ _ _ (Fr_t (Fr_t (Fr_t (Fr_t f1 f2) f3) f4) f5) rfl c5
  · rw [if_neg (by omega)] at hX
    exact hX M _ _ _ Fr_r rfl hT
def fauA (a b l1 : Int32) : Int32 := if l1 = 0 then a else if l1 = 1 then b else -1
theorem w36_q {M : MM} {l1 : Int32} {P : Int32 → MM → Prop} (hL : Lay M) (hP : P (fauA (mI M 0 3) (mI M 0 4) l1) M) : w36 0 l1 M P := by
  unfold fauA at hP
  refine ⟨fun z => ⟨fun y => ?_, fun y => ⟨kd_0 hL, ?_⟩⟩, fun z => ⟨kd_0 hL, ?_⟩⟩
  · rw [if_neg z, if_neg y] at hP; exact hP
  · rw [if_neg z, if_pos (Classical.not_not.mp y)] at hP; exact hP
  · rw [if_pos (Classical.not_not.mp z)] at hP; exact hP
theorem w178_q {M : MM} {l1 : Int32} {P : Int32 → MM → Prop} (hL : Lay M) (hP : P (fauA (mI M 203 10) (mI M 203 11) l1) M) : w178 203 l1 M P := by
  unfold fauA at hP
  refine ⟨fun z => ⟨fun y => ?_, fun y => ⟨kd_203 hL, ?_⟩⟩, fun z => ⟨kd_203 hL, ?_⟩⟩
  · rw [if_neg z, if_neg y] at hP; exact hP
  · rw [if_neg z, if_pos (Classical.not_not.mp y)] at hP; exact hP
  · rw [if_pos (Classical.not_not.mp z)] at hP; exact hP
theorem w11_q {M : MM} {P : Int32 → MM → Prop} (hL : Lay M) (hP : P (mI M 0 10) M) : w11 0 M P := ⟨kd_0 hL, hP⟩
theorem w160_q {M : MM} {P : Int32 → MM → Prop} (hL : Lay M) (hP : P (mI M 203 9) M) : w160 203 M P := ⟨kd_203 hL, hP⟩
theorem w12_q {M : MM} {F : Int × Int} {P : Int64 → MM → Prop} (hL : Lay M) (hF : CFr M F) (hP : P (jL F.1) M) : w12 0 M P := ⟨kd_0 hL, 54, rf_0_11 hL, kd_54 hL, by rw [hF.1]; exact hP⟩
theorem w161_q {M : MM} {F : Int × Int} {P : Int64 → MM → Prop} (hL : Lay M) (hF : RFr M F) (hP : P (jL F.1) M) : w161 203 M P := ⟨kd_203 hL, by rw [hF.1]; exact hP⟩
theorem w13_q {M : MM} {F : Int × Int} {P : Int64 → MM → Prop} (hL : Lay M) (hF : CFr M F) (hP : P (jL F.2) M) : w13 0 M P := ⟨kd_0 hL, 54, rf_0_11 hL, kd_54 hL, by rw [hF.2]; exact hP⟩
theorem w162_q {M : MM} {F : Int × Int} {P : Int64 → MM → Prop} (hL : Lay M) (hF : RFr M F) (hP : P (jL F.2) M) : w162 203 M P := ⟨kd_203 hL, by rw [hF.2]; exact hP⟩
