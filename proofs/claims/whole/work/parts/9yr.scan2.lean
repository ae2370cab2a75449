/-! ===== the scanner of the class: numbers, all ===== -/
theorem nl_b {T : Nat → Nat} {q m : Nat} (m2 : m ≤ 2) (h : ∀ i, i < m → isDg T (q + i) = true) : nl T q m ≤ 99 := by
  match m, m2 with
  | 0, _ => show 0 ≤ 99; omega
  | 1, _ =>
    have h0 := of_decide_eq_true (h 0 (by omega))
    show 10 * 0 + (T (q + 0) - 48) ≤ 99
    omega
  | 2, _ =>
    have h0 := of_decide_eq_true (h 0 (by omega))
    have h1 := of_decide_eq_true (h 1 (by omega))
    show 10 * (10 * 0 + (T (q + 0) - 48)) + (T (q + 1) - 48) ≤ 99
    omega
theorem w19_191_s {M : MM} {T : Nat → Nat} {n q : Nat} {P : MM → Prop} (hX : ∀ M', Fr sSc M M' → CTk M' T n q → P M') (hq : q < n) (h59 : T q ≠ 59) (hl : isLt T q = false) : ∀ (m p : Nat) (M' : MM), Lay M' → TB M' n T → p + m = n → q ≤ p → Fr sSc M M' → mI M' 2 4 = jI (q : Int) → mI M' 2 5 = jI (p : Int) → (∀ i, q ≤ i → i < p → isDg T i = true) → (p - q ≤ 2 → mL M' 2 7 = jL (nl T q (p - q) : Int)) → w19_191 (m + 1) 2 (some 1) (jI (n : Int)) M' P := by
  have hl' : ¬ isLt T q = true := by rw [hl]; decide
  have fin : ∀ (p : Nat) (M' : MM), Lay M' → p ≤ n → n ≤ 700 → q ≤ p → Fr sSc M M' → mI M' 2 4 = jI (q : Int) → mI M' 2 5 = jI (p : Int) → (∀ i, q ≤ i → i < p → isDg T i = true) → (p - q ≤ 2 → mL M' 2 7 = jL (nl T q (p - q) : Int)) → (p = n ∨ isDg T p = false) → w19_248 2 M' P := fun p M' hL' pn n7 qp hF h4 h5 hA hV hE => by
    have et : te T n q = p := by
      unfold te
      rw [if_neg (by omega), if_neg h59, if_neg hl']
      refine run_e qp (by omega) hA ?_
      rcases hE with h | h
      · exact Or.inl (by omega)
      · exact Or.inr h
    have ek : tk T n q = if 1 ≤ p - q ∧ p - q ≤ 2 then 2 else 0 := by
      unfold tk
      rw [if_neg (by omega), if_neg h59, if_neg hl', et]
    have no : ¬ (1 ≤ p - q ∧ p - q ≤ 2) → w19_273 (some 2) M' P := fun z => by
      rw [if_neg z] at ek
      refine ⟨2, rfl, kd_2 hL', hX _ (Fr_sI hF (sB_t1 (by omega))) ?_⟩
      unfold CTk
      rw [ek, et]
      exact ⟨by rw [gI_n (by omega)]; exact h4, by rw [gI_n (by omega)]; exact h5, gI_y ⟨rfl, rfl⟩, fun x => absurd x (by omega), fun x => absurd x (by omega)⟩
    unfold w19_248
    rw [h4, h5, jI_sub, show (1 : Int32) = jI 1 from rfl, show (2 : Int32) = jI 2 from rfl, jI_lt (by omega) (by omega) (by omega) (by omega), jI_lt (by omega) (by omega) (by omega) (by omega)]
    refine ⟨kd_2 hL', kd_2 hL', fun z => no (by omega), fun z => ⟨fun y => no (by omega), fun y => ⟨2, rfl, kd_2 hL', hX _ (Fr_sI hF (sB_t1 (by omega))) ?_⟩⟩⟩
    rw [if_pos (by omega)] at ek
    unfold CTk
    rw [ek, et]
    exact ⟨by rw [gI_n (by omega)]; exact h4, by rw [gI_n (by omega)]; exact h5, gI_y ⟨rfl, rfl⟩, fun x => absurd x (by omega), fun _ => by rw [gL_sI]; exact hV (by omega)⟩
  intro m
  induction m with
  | zero =>
    intro p M' hL' hB e qp hF h4 h5 hA hV
    have n7 := hB.1
    refine ⟨kd_2 hL', br_t (by rw [h5, jI_le (by omega) (by omega) (by omega) (by omega)]; omega) (fin p M' hL' (by omega) n7 qp hF h4 h5 hA hV (Or.inl (by omega)))⟩
  | succ m ih =>
    intro p M' hL' hB e qp hF h4 h5 hA hV
    have n7 := hB.1
    have bp := hB.2 p (by omega)
    refine ⟨kd_2 hL', br_f (by rw [h5, jI_le (by omega) (by omega) (by omega) (by omega)]; omega) ⟨kd_2 hL', 1, rfl, by rw [h5]; exact i1j hL' (by omega), ?_⟩⟩
    rw [h5, jI_cn (by omega), bp.1]
    refine w21_s bp.2 ?_
    cases c : decide (48 ≤ T p ∧ T p ≤ 57) with
    | false => exact br_t rfl (fin p M' hL' (by omega) n7 qp hF h4 h5 hA hV (Or.inr c))
    | true =>
      have lp := of_decide_eq_true c
      refine br_f (by decide) ?_
      rw [h5, jI_cn (by omega), bp.1]
      refine ⟨kd_2 hL', kd_2 hL', i1j hL' (by omega), kd_2 hL', kd_2 hL', kd_2 hL', ?_⟩
      unfold w19_245
      have hA' : ∀ i, q ≤ i → i < p + 1 → isDg T i = true := fun i i1 i2 => by
        by_cases x : i = p
        · rw [x]; exact c
        · exact hA i i1 (by omega)
      refine ih (p + 1) _ hL' ?_ (by omega) (by omega) (Fr_sI (Fr_sL hF (sB_t1 (by omega))) (sB_t1 (by omega))) ?_ ?_ hA' (fun x => ?_)
      · exact ⟨hB.1, fun i hi => ⟨by rw [gI_n (by omega), gI_sL]; exact (hB.2 i hi).1, (hB.2 i hi).2⟩⟩
      · rw [gI_n (by omega), gI_sL]; exact h4
      · rw [gI_y ⟨rfl, rfl⟩, gI_sL, h5, show (1 : Int32) = jI 1 from rfl, jI_add, c_s1]
      · rw [gL_sI, gL_y ⟨rfl, rfl⟩, hV (by omega)]
        have es : sb (T p) = jI ((T p : Nat) : Int) := if_pos (by omega)
        have ew : nl T q (p + 1 - q) = 10 * nl T q (p - q) + (T p - 48) := by
          rw [show p + 1 - q = (p - q) + 1 by omega]
          show 10 * nl T q (p - q) + (T (q + (p - q)) - 48) = _
          rw [show q + (p - q) = p by omega]
        rw [ew, es, jI_l (by omega) (by omega), show (10 : Int64) = jL 10 from rfl, show (48 : Int64) = jL 48 from rfl, jL_mul, jL_add, jL_sub]
        exact congrArg jL (by omega)
theorem w19_43_s {M : MM} {T : Nat → Nat} {n q : Nat} {P : MM → Prop} (hL : Lay M) (hB : TB M n T) (qn : q ≤ n) (h5 : mI M 2 5 = jI (q : Int)) (hX : ∀ M', Fr sSc M M' → CTk M' T n q → P M') : w19_43 2 (some 1) (jI (n : Int)) M P := by
  have n7 := hB.1
  unfold w19_43
  rw [h5]
  obtain ⟨M1, e1⟩ : ∃ M1, M1 = sL (sI M 2 4 (jI (q : Int))) 2 7 (0 : Int64) := ⟨_, rfl⟩
  have f1 : Fr sSc M M1 := by rw [e1]; exact Fr_sL (Fr_sI Fr_r (sB_t1 (by omega))) (sB_t1 (by omega))
  have hL1 := f1.1 hL
  have hB1 := TB_fr f1 hB
  have g4 : mI M1 2 4 = jI (q : Int) := by rw [e1, gI_sL, gI_y ⟨rfl, rfl⟩]
  have g5 : mI M1 2 5 = jI (q : Int) := by rw [e1, gI_sL, gI_n (by omega)]; exact h5
  have g7 : mL M1 2 7 = jL 0 := by rw [e1, gL_y ⟨rfl, rfl⟩]; rfl
  rw [← e1, g5, jI_lt (by omega) (by omega) (by omega) (by omega), jI_cn (by omega)]
  refine ⟨kd_2 hL, kd_2 hL, kd_2 hL, kd_2 hL1, fun z => ⟨kd_2 hL1, 1, rfl, i1j hL1 (by omega), ?_⟩, fun z => ⟨kd_2 hL1, hX _ (Fr_sI f1 (sB_t1 (by omega))) ?_⟩⟩
  · have bq := hB1.2 q (by omega)
    rw [bq.1, show (59 : Int32) = jI 59 from rfl, ne_eq, sb_e bq.2 (by omega) (by omega)]
    refine ⟨fun y => ⟨kd_2 hL1, i1j hL1 (by omega), w20_s bq.2 ?_⟩, fun y => ⟨kd_2 hL1, kd_2 hL1, kd_2 hL1, ?_⟩⟩
    · cases c : decide (97 ≤ T q ∧ T q ≤ 122) with
      | false =>
        refine br_t rfl ⟨n - q + 1, w19_191_s (fun M' hF hC => hX M' (Fr_t f1 hF) hC) (by omega) (by omega) c (n - q) q M1 hL1 hB1 (by omega) (Nat.le_refl _) Fr_r g4 g5 (fun i i1 i2 => by omega) (fun _ => ?_)⟩
        rw [Nat.sub_self]; exact g7
      | true =>
        refine br_f (by decide) ⟨n - q + 1, w19_113_s (fun M' hF hC => hX M' (Fr_t f1 hF) hC) (by omega) (by omega) c (n - q) q M1 hL1 hB1 (by omega) (Nat.le_refl _) Fr_r g4 g5 (fun i i1 i2 => by omega) (fun _ => ?_)⟩
        rw [Nat.sub_self]; exact g7
    · have e59 : T q = 59 := by omega
      have et : te T n q = q + 1 := by unfold te; rw [if_neg (by omega), if_pos e59]
      have ek : tk T n q = 3 := by unfold tk; rw [if_neg (by omega), if_pos e59]
      refine hX _ (Fr_sI (Fr_sI f1 (sB_t1 (by omega))) (sB_t1 (by omega))) ?_
      unfold CTk
      rw [ek, et]
      refine ⟨by rw [gI_n (by omega), gI_n (by omega)]; exact g4, ?_, by rw [gI_n (by omega), gI_y ⟨rfl, rfl⟩]; rfl, fun x => absurd x (by omega), fun x => absurd x (by omega)⟩
      rw [gI_y ⟨rfl, rfl⟩, gI_n (by omega), g5, show (1 : Int32) = jI 1 from rfl, jI_add, c_s1]
  · have et : te T n q = q := by unfold te; rw [if_pos (by omega)]
    have ek : tk T n q = 4 := by unfold tk; rw [if_pos (by omega)]
    unfold CTk
    rw [ek, et]
    exact ⟨by rw [gI_n (by omega)]; exact g4, by rw [gI_n (by omega)]; exact g5, gI_y ⟨rfl, rfl⟩, fun x => absurd x (by omega), fun x => absurd x (by omega)⟩
theorem w19_s {M : MM} {T : Nat → Nat} {n p : Nat} {P : MM → Prop} (hL : Lay M) (hB : TB M n T) (pn : p ≤ n) (h5 : mI M 2 5 = jI (p : Int)) (hX : ∀ M', Fr sSc M M' → CTk M' T n (sk T n p) → P M') : w19 2 (some 1) (jI (n : Int)) M P := by
  have lp : ∀ (m c : Nat) (M' : MM), c + m = n → p ≤ c → Fr sSc M M' → mI M' 2 5 = jI (c : Int) → (∀ i, p ≤ i → i < c → isSp T i = true) → w19_0 (m + 1) 2 (some 1) (jI (n : Int)) M' P := by
    intro m
    induction m with
    | zero =>
      intro c M' e pc hF h5' hA
      have hL' := hF.1 hL
      have n7 := hB.1
      have es : sk T n p = c := run_e pc (by omega) hA (Or.inl (by omega))
      refine ⟨kd_2 hL', br_t (by rw [h5', jI_le (by omega) (by omega) (by omega) (by omega)]; omega) (w19_43_s hL' (TB_fr hF hB) (by omega) h5' (fun M2 f2 c2 => hX M2 (Fr_t hF f2) (by rw [es]; exact c2)))⟩
    | succ m ih =>
      intro c M' e pc hF h5' hA
      have hL' := hF.1 hL
      have n7 := hB.1
      have hB' := TB_fr hF hB
      have bc := hB'.2 c (by omega)
      refine ⟨kd_2 hL', br_f (by rw [h5', jI_le (by omega) (by omega) (by omega) (by omega)]; omega) ⟨kd_2 hL', 1, rfl, by rw [h5']; exact i1j hL' (by omega), ?_⟩⟩
      have go : isSp T c = true → w19_30 (fun z0 z1 z2 z3 => w19_0 (m + 1) z0 z1 z2 z3 P) 2 (some 1) (jI (n : Int)) M' P := fun s => by
        unfold w19_30
        rw [h5', show (1 : Int32) = jI 1 from rfl, jI_add, c_s1]
        refine ⟨kd_2 hL', kd_2 hL', ih (c + 1) _ (by omega) (by omega) (Fr_sI hF (sB_t1 (by omega))) (gI_y ⟨rfl, rfl⟩) (fun i i1 i2 => ?_)⟩
        by_cases x : i = c
        · rw [x]; exact s
        · exact hA i i1 (by omega)
      rw [h5', jI_cn (by omega), bc.1, show (10 : Int32) = jI 10 from rfl, show (32 : Int32) = jI 32 from rfl, ne_eq, sb_e bc.2 (by omega) (by omega), sb_e bc.2 (by omega) (by omega)]
      refine ⟨fun z => go (decide_eq_true (Or.inl (by omega))), fun z => ⟨kd_2 hL', i1j hL' (by omega), fun y => ?_, fun y => go (decide_eq_true (Or.inr (by omega)))⟩⟩
      have es : sk T n p = c := run_e pc (by omega) hA (Or.inr (decide_eq_false (by omega)))
      exact w19_43_s hL' hB' (by omega) h5' (fun M2 f2 c2 => hX M2 (Fr_t hF f2) (by rw [es]; exact c2))
  exact ⟨n - p + 1, lp (n - p) p M (by omega) (Nat.le_refl _) Fr_r h5 (fun i i1 i2 => by omega)⟩
