/-! ===== the scanner of the reference ===== -/
def RBy (M : MM) (n : Nat) (T : Nat → Nat) : Prop := mI M 203 15 = jI (n : Int) ∧ n ≤ 700 ∧ ∀ i, i < n → mI M 209 i = jI (T i : Int) ∧ T i < 256
def sGo : Nat → Nat → Bool := fun x k => sB 203 16 19 1 0 x k || sB 203 22 22 1 0 x k
theorem sGo_f {x k : Nat} (h : ¬ (x = 203 ∧ ((16 ≤ k ∧ k ≤ 19) ∨ k = 22))) : sGo x k = false := by
  unfold sGo
  rw [sB_f (by omega) (by omega), sB_f (by omega) (by omega)]; rfl
theorem sGo_1 {k : Nat} (h : 16 ≤ k ∧ k ≤ 19) : sGo 203 k = true := by unfold sGo; rw [sB_t1 h]; rfl
theorem sGo_2 : sGo 203 22 = true := rfl
theorem RBy_fr {M M' : MM} {n : Nat} {T : Nat → Nat} (hF : Fr sGo M M') (h : RBy M n T) : RBy M' n T := ⟨(Fr_I hF (sGo_f (by omega))).trans h.1, h.2.1, fun i hi => ⟨(Fr_I hF (sGo_f (by omega))).trans (h.2.2 i hi).1, (h.2.2 i hi).2⟩⟩
def bt9 (T : Nat → Nat) (n p : Nat) : Int := if p < n then (T p : Int) else -1
theorem w169_s {M : MM} {T : Nat → Nat} {n p : Nat} {P : Int32 → MM → Prop} (hL : Lay M) (h : RBy M n T) (pn : p ≤ n) (hP : P (jI (bt9 T n p)) M) : w169 203 (jI (p : Int)) M P := by
  have n7 := h.2.1
  unfold bt9 at hP
  unfold w169
  rw [h.1, jI_le (by omega) (by omega) (by omega) (by omega)]
  refine ⟨kd_203 hL, fun z => ?_, fun z => ⟨kd_203 hL, 209, rf_203_7 hL, by rw [← nI_j]; exact in_209 hL (by omega), ?_⟩⟩
  · rw [if_neg (by omega)] at hP; exact hP
  · rw [if_pos (by omega)] at hP
    unfold w169_18
    rw [jI_cn (by omega), (h.2.2 p (by omega)).1]
    exact hP
theorem bt9_b {T : Nat → Nat} {n p : Nat} (h : p < n → T p < 256) : -1 ≤ bt9 T n p ∧ bt9 T n p < 256 := by
  unfold bt9
  by_cases c : p < n
  · rw [if_pos c]; have := h c; omega
  · rw [if_neg c]; omega
theorem w170_s {M : MM} {z : Int} {P : Int32 → MM → Prop} (h0 : -1 ≤ z) (h1 : z < 256) (hP : P (bI (decide (97 ≤ z ∧ z ≤ 122))) M) : w170 (jI z) M P := by
  unfold w170
  rw [show (97 : Int32) = jI 97 from rfl, show (122 : Int32) = jI 122 from rfl, jI_lt (by omega) (by omega) (by omega) (by omega), jI_lt (by omega) (by omega) (by omega) (by omega)]
  refine ⟨fun z => ⟨Or.inl rfl, ?_⟩, fun z => ⟨fun y => ⟨Or.inl rfl, ?_⟩, fun y => ⟨Or.inr rfl, ?_⟩⟩⟩
  · rw [decide_eq_false (by omega)] at hP; exact hP
  · rw [decide_eq_false (by omega)] at hP; exact hP
  · rw [decide_eq_true (by omega)] at hP; exact hP
theorem w171_s {M : MM} {z : Int} {P : Int32 → MM → Prop} (h0 : -1 ≤ z) (h1 : z < 256) (hP : P (bI (decide (48 ≤ z ∧ z ≤ 57))) M) : w171 (jI z) M P := by
  unfold w171
  rw [show (48 : Int32) = jI 48 from rfl, show (57 : Int32) = jI 57 from rfl, jI_lt (by omega) (by omega) (by omega) (by omega), jI_lt (by omega) (by omega) (by omega) (by omega)]
  refine ⟨fun z => ⟨Or.inl rfl, ?_⟩, fun z => ⟨fun y => ⟨Or.inl rfl, ?_⟩, fun y => ⟨Or.inr rfl, ?_⟩⟩⟩
  · rw [decide_eq_false (by omega)] at hP; exact hP
  · rw [decide_eq_false (by omega)] at hP; exact hP
  · rw [decide_eq_true (by omega)] at hP; exact hP
theorem shl_o5 {v c : Nat} (h : 32 * v + c < 9223372036854775808) (hc : c < 32) : (jL (v : Int) <<< ((5 : Int32).toInt64 &&& 63)) ||| jL (c : Int) = jL ((32 * v + c : Nat) : Int) := by
  have e0 : ((jL (v : Int) <<< ((5 : Int32).toInt64 &&& 63)) ||| jL (c : Int)).toBitVec = ((jL (v : Int)).toBitVec <<< 5) ||| (jL (c : Int)).toBitVec := rfl
  refine Int64.toBitVec_inj.mp (BitVec.eq_of_toNat_eq ?_)
  rw [e0, BitVec.toNat_or, BitVec.toNat_shiftLeft, (jL_nat (by omega)).1, (jL_nat (by omega)).1, (jL_nat h).1, Nat.mod_eq_of_lt (by rw [Nat.shiftLeft_eq]; omega), ← Nat.shiftLeft_add_eq_or_of_lt (show c < 2 ^ 5 by omega), Nat.shiftLeft_eq]
  omega
def rk (k : Nat) : Nat := if k = 4 then 0 else k + 1
/-- what the scanner of the reference leaves -/
def RTk (M : MM) (T : Nat → Nat) (n q : Nat) : Prop := mI M 203 16 = jI (q : Int) ∧ mI M 203 18 = jI (rk (tk T n q) : Int) ∧ (tk T n q ≠ 0 → mI M 203 17 = jI (te T n q : Int)) ∧ (tk T n q = 1 → mL M 203 22 = jL (nv 32 0 (wl T q (te T n q - q)) : Int)) ∧ (tk T n q = 2 → mI M 203 19 = jI (nl T q (te T n q - q) : Int))
theorem w168_81_s {M : MM} {T : Nat → Nat} {n q : Nat} {P : MM → Prop} (hX : ∀ M', Fr sGo M M' → RTk M' T n q → P M') (hq : q < n) (h59 : T q ≠ 59) (hl : isLt T q = true) : ∀ (m p : Nat) (M' : MM), Lay M' → RBy M' n T → p + m = n → q ≤ p → Fr sGo M M' → mI M' 203 16 = jI (q : Int) → mI M' 203 17 = jI (p : Int) → (∀ i, q ≤ i → i < p → isLt T i = true) → (p - q ≤ 8 → mL M' 203 22 = jL (nv 32 0 (wl T q (p - q)) : Int)) → w168_81 (m + 1) 203 M' P := by
  have fin : ∀ (p : Nat) (M' : MM), Lay M' → p ≤ n → n ≤ 700 → q ≤ p → Fr sGo M M' → mI M' 203 16 = jI (q : Int) → mI M' 203 17 = jI (p : Int) → (∀ i, q ≤ i → i < p → isLt T i = true) → (p - q ≤ 8 → mL M' 203 22 = jL (nv 32 0 (wl T q (p - q)) : Int)) → (p = n ∨ isLt T p = false) → (kd M' 203 10 ∧ (kd M' 203 10 ∧ (((mI M' 203 17 - mI M' 203 16) ≤ (8 : Int32) → w168_166 (some 203) (2 : Int32) M' P) ∧ (¬ ((mI M' 203 17 - mI M' 203 16) ≤ (8 : Int32)) → w168_166 (some 203) (1 : Int32) M' P)))) := fun p M' hL' pn n7 qp hF h4 h5 hA hV hE => by
    have et : te T n q = p := by
      unfold te
      rw [if_neg (by omega), if_neg h59, if_pos hl]
      refine run_e qp (by omega) hA ?_
      rcases hE with h | h
      · exact Or.inl (by omega)
      · exact Or.inr h
    have ek : tk T n q = if p - q ≤ 8 then 1 else 0 := by
      unfold tk
      rw [if_neg (by omega), if_neg h59, if_pos hl, et]
    rw [h4, h5, jI_sub, show (8 : Int32) = jI 8 from rfl, jI_le (by omega) (by omega) (by omega) (by omega)]
    refine ⟨kd_203 hL', kd_203 hL', fun z => ⟨203, rfl, kd_203 hL', hX _ (Fr_sI hF (sGo_1 (by omega))) ?_⟩, fun z => ⟨203, rfl, kd_203 hL', hX _ (Fr_sI hF (sGo_1 (by omega))) ?_⟩⟩
    · rw [if_pos (by omega)] at ek
      unfold RTk
      rw [ek, et]
      exact ⟨by rw [gI_n (by omega)]; exact h4, gI_y ⟨rfl, rfl⟩, fun _ => by rw [gI_n (by omega)]; exact h5, fun _ => by rw [gL_sI]; exact hV (by omega), fun x => absurd x (by omega)⟩
    · rw [if_neg (by omega)] at ek
      unfold RTk
      rw [ek, et]
      exact ⟨by rw [gI_n (by omega)]; exact h4, gI_y ⟨rfl, rfl⟩, fun x => absurd rfl x, fun x => absurd x (by omega), fun x => absurd x (by omega)⟩
  have nolt : ∀ p, (p < n → T p < 256) → p ≤ n → decide (97 ≤ bt9 T n p ∧ bt9 T n p ≤ 122) = false → (p = n ∨ isLt T p = false) := fun p hb pn c => by
    by_cases x : p < n
    · refine Or.inr (decide_eq_false (fun y => ?_))
      have := of_decide_eq_false c
      unfold bt9 at this
      rw [if_pos x] at this
      omega
    · exact Or.inl (by omega)
  intro m
  induction m with
  | zero =>
    intro p M' hL' hB e qp hF h4 h5 hA hV
    have n7 := hB.2.1
    refine ⟨kd_203 hL', kd_203 hL', ?_⟩
    rw [h5]
    refine w169_s hL' hB (by omega) (w170_s (bt9_b (fun x => by omega)).1 (bt9_b (fun x => by omega)).2 ?_)
    have eb : bt9 T n p = -1 := if_neg (by omega)
    rw [eb, show decide (97 ≤ (-1 : Int) ∧ (-1 : Int) ≤ 122) = false from rfl]
    exact br_t rfl (by exact fin p M' hL' (by omega) n7 qp hF h4 h5 hA hV (Or.inl (by omega)))
  | succ m ih =>
    intro p M' hL' hB e qp hF h4 h5 hA hV
    have n7 := hB.2.1
    have bp := hB.2.2 p (by omega)
    have eb : bt9 T n p = (T p : Int) := if_pos (by omega)
    refine ⟨kd_203 hL', kd_203 hL', ?_⟩
    rw [h5]
    refine w169_s hL' hB (by omega) ?_
    rw [eb]
    refine w170_s (by omega) (by omega) ?_
    cases c : decide (97 ≤ ((T p : Nat) : Int) ∧ ((T p : Nat) : Int) ≤ 122) with
    | false => exact br_t rfl (by exact fin p M' hL' (by omega) n7 qp hF h4 h5 hA hV (nolt p (fun _ => bp.2) (by omega) (by rw [eb]; exact c)))
    | true =>
      have lp := of_decide_eq_true c
      have hA' : ∀ i, q ≤ i → i < p + 1 → isLt T i = true := fun i i1 i2 => by
        by_cases x : i = p
        · rw [x]; exact decide_eq_true (by omega)
        · exact hA i i1 (by omega)
      refine br_f (by decide) ⟨kd_203 hL', kd_203 hL', ?_⟩
      rw [h4, h5, jI_sub, show (8 : Int32) = jI 8 from rfl, jI_le (by omega) (by omega) (by omega) (by omega)]
      refine ⟨fun z => ?_, fun z => ⟨kd_203 hL', kd_203 hL', kd_203 hL', w169_s hL' hB (by omega) ⟨kd_203 hL', ?_⟩⟩⟩
      · refine ⟨kd_203 hL', kd_203 hL', ?_⟩
        rw [h5, show (1 : Int32) = jI 1 from rfl, jI_add, c_s1]
        refine ih (p + 1) _ hL' (RBy_fr (Fr_sI Fr_r (sGo_1 (by omega))) hB) (by omega) (by omega) (Fr_sI hF (sGo_1 (by omega))) (by rw [gI_n (by omega)]; exact h4) (gI_y ⟨rfl, rfl⟩) hA' (fun x => by omega)
      · rw [eb, hV (by omega)]
        refine ⟨kd_203 hL', kd_203 hL', ?_⟩
        rw [gI_sL, h5, show (1 : Int32) = jI 1 from rfl, jI_add, c_s1]
        refine ih (p + 1) _ hL' (RBy_fr (Fr_sI (Fr_sL Fr_r sGo_2) (sGo_1 (by omega))) hB) (by omega) (by omega) (Fr_sI (Fr_sL hF sGo_2) (sGo_1 (by omega))) (by rw [gI_n (by omega), gI_sL]; exact h4) (gI_y ⟨rfl, rfl⟩) hA' (fun x => ?_)
        rw [gL_sI, gL_y ⟨rfl, rfl⟩]
        have ew : wl T q (p + 1 - q) = (T p - 96) :: wl T q (p - q) := by
          rw [show p + 1 - q = (p - q) + 1 by omega]
          show (T (q + (p - q)) - 96) :: _ = _
          rw [show q + (p - q) = p by omega]
        have gg := nv_r (wl_G (T := T) (q := q) (m := p + 1 - q) (by omega) x (fun i hi => hA' _ (by omega) (by omega)))
        have ev : nv 32 0 (wl T q (p + 1 - q)) = 32 * nv 32 0 (wl T q (p - q)) + (T p - 96) := by
          rw [ew]
          show (T p - 96 + 0) + 32 * nv 32 0 (wl T q (p - q)) = _
          omega
        rw [ev] at gg ⊢
        rw [jI_l (by omega) (by omega), show (96 : Int64) = jL 96 from rfl, jL_sub, show ((T p : Nat) : Int) - 96 = ((T p - 96 : Nat) : Int) by omega, shl_o5 gg (by omega)]
theorem w168_184_s {M : MM} {T : Nat → Nat} {n q : Nat} {P : MM → Prop} (hX : ∀ M', Fr sGo M M' → RTk M' T n q → P M') (hq : q < n) (hd : isDg T q = true) : ∀ (m p : Nat) (M' : MM), Lay M' → RBy M' n T → p + m = n → q ≤ p → Fr sGo M M' → mI M' 203 16 = jI (q : Int) → mI M' 203 17 = jI (p : Int) → (∀ i, q ≤ i → i < p → isDg T i = true) → (p - q ≤ 2 → mI M' 203 19 = jI (nl T q (p - q) : Int)) → w168_184 (m + 1) 203 M' P := by
  have dq := of_decide_eq_true hd
  have hl' : ¬ isLt T q = true := fun y => by have := of_decide_eq_true y; omega
  have fin : ∀ (p : Nat) (M' : MM), Lay M' → p ≤ n → n ≤ 700 → q ≤ p → Fr sGo M M' → mI M' 203 16 = jI (q : Int) → mI M' 203 17 = jI (p : Int) → (∀ i, q ≤ i → i < p → isDg T i = true) → (p - q ≤ 2 → mI M' 203 19 = jI (nl T q (p - q) : Int)) → (p = n ∨ isDg T p = false) → (kd M' 203 10 ∧ (kd M' 203 10 ∧ (((mI M' 203 17 - mI M' 203 16) ≤ (2 : Int32) → w168_266 (some 203) (3 : Int32) M' P) ∧ (¬ ((mI M' 203 17 - mI M' 203 16) ≤ (2 : Int32)) → w168_266 (some 203) (1 : Int32) M' P)))) := fun p M' hL' pn n7 qp hF h4 h5 hA hV hE => by
    have et : te T n q = p := by
      unfold te
      rw [if_neg (by omega), if_neg (by omega), if_neg hl']
      refine run_e qp (by omega) hA ?_
      rcases hE with h | h
      · exact Or.inl (by omega)
      · exact Or.inr h
    have qp' : q < p := by
      rcases hE with h | h
      · omega
      · by_cases x : p = q
        · rw [x, hd] at h; cases h
        · omega
    have ek : tk T n q = if 1 ≤ p - q ∧ p - q ≤ 2 then 2 else 0 := by
      unfold tk
      rw [if_neg (by omega), if_neg (by omega), if_neg hl', et]
    rw [h4, h5, jI_sub, show (2 : Int32) = jI 2 from rfl, jI_le (by omega) (by omega) (by omega) (by omega)]
    refine ⟨kd_203 hL', kd_203 hL', fun z => ⟨203, rfl, kd_203 hL', hX _ (Fr_sI hF (sGo_1 (by omega))) ?_⟩, fun z => ⟨203, rfl, kd_203 hL', hX _ (Fr_sI hF (sGo_1 (by omega))) ?_⟩⟩
    · rw [if_pos (by omega)] at ek
      unfold RTk
      rw [ek, et]
      exact ⟨by rw [gI_n (by omega)]; exact h4, gI_y ⟨rfl, rfl⟩, fun _ => by rw [gI_n (by omega)]; exact h5, fun x => absurd x (by omega), fun _ => by rw [gI_n (by omega)]; exact hV (by omega)⟩
    · rw [if_neg (by omega)] at ek
      unfold RTk
      rw [ek, et]
      exact ⟨by rw [gI_n (by omega)]; exact h4, gI_y ⟨rfl, rfl⟩, fun x => absurd rfl x, fun x => absurd x (by omega), fun x => absurd x (by omega)⟩
  intro m
  induction m with
  | zero =>
    intro p M' hL' hB e qp hF h4 h5 hA hV
    have n7 := hB.2.1
    refine ⟨kd_203 hL', kd_203 hL', ?_⟩
    rw [h5]
    refine w169_s hL' hB (by omega) (w171_s (bt9_b (fun x => by omega)).1 (bt9_b (fun x => by omega)).2 ?_)
    have eb : bt9 T n p = -1 := if_neg (by omega)
    rw [eb, show decide (48 ≤ (-1 : Int) ∧ (-1 : Int) ≤ 57) = false from rfl]
    exact br_t rfl (by exact fin p M' hL' (by omega) n7 qp hF h4 h5 hA hV (Or.inl (by omega)))
  | succ m ih =>
    intro p M' hL' hB e qp hF h4 h5 hA hV
    have n7 := hB.2.1
    have bp := hB.2.2 p (by omega)
    have eb : bt9 T n p = (T p : Int) := if_pos (by omega)
    refine ⟨kd_203 hL', kd_203 hL', ?_⟩
    rw [h5]
    refine w169_s hL' hB (by omega) ?_
    rw [eb]
    refine w171_s (by omega) (by omega) ?_
    cases c : decide (48 ≤ ((T p : Nat) : Int) ∧ ((T p : Nat) : Int) ≤ 57) with
    | false =>
      have c' := of_decide_eq_false c
      exact br_t rfl (by exact fin p M' hL' (by omega) n7 qp hF h4 h5 hA hV (Or.inr (decide_eq_false (by omega))))
    | true =>
      have lp := of_decide_eq_true c
      have hA' : ∀ i, q ≤ i → i < p + 1 → isDg T i = true := fun i i1 i2 => by
        by_cases x : i = p
        · rw [x]; exact decide_eq_true (by omega)
        · exact hA i i1 (by omega)
      refine br_f (by decide) ⟨kd_203 hL', kd_203 hL', ?_⟩
      rw [h4, h5, jI_sub, show (2 : Int32) = jI 2 from rfl, jI_le (by omega) (by omega) (by omega) (by omega)]
      refine ⟨fun z => ?_, fun z => ⟨kd_203 hL', kd_203 hL', kd_203 hL', w169_s hL' hB (by omega) ⟨kd_203 hL', ?_⟩⟩⟩
      · refine ⟨kd_203 hL', kd_203 hL', ?_⟩
        rw [h5, show (1 : Int32) = jI 1 from rfl, jI_add, c_s1]
        refine ih (p + 1) _ hL' (RBy_fr (Fr_sI Fr_r (sGo_1 (by omega))) hB) (by omega) (by omega) (Fr_sI hF (sGo_1 (by omega))) (by rw [gI_n (by omega)]; exact h4) (gI_y ⟨rfl, rfl⟩) hA' (fun x => by omega)
      · rw [eb, hV (by omega)]
        refine ⟨kd_203 hL', kd_203 hL', ?_⟩
        rw [gI_n (by omega), h5, show (1 : Int32) = jI 1 from rfl, jI_add, c_s1]
        refine ih (p + 1) _ hL' (RBy_fr (Fr_sI (Fr_sI Fr_r (sGo_1 (by omega))) (sGo_1 (by omega))) hB) (by omega) (by omega) (Fr_sI (Fr_sI hF (sGo_1 (by omega))) (sGo_1 (by omega))) (by rw [gI_n (by omega), gI_n (by omega)]; exact h4) (gI_y ⟨rfl, rfl⟩) hA' (fun x => ?_)
        rw [gI_n (by omega), gI_y ⟨rfl, rfl⟩]
        have ew : nl T q (p + 1 - q) = 10 * nl T q (p - q) + (T p - 48) := by
          rw [show p + 1 - q = (p - q) + 1 by omega]
          show 10 * nl T q (p - q) + (T (q + (p - q)) - 48) = _
          rw [show q + (p - q) = p by omega]
        rw [ew, show (10 : Int32) = jI 10 from rfl, show (48 : Int32) = jI 48 from rfl, jI_mul, jI_add, jI_sub]
        exact congrArg jI (by omega)
