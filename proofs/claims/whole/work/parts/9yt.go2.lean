/-! ===== the scanner of the reference, all of it ===== -/
theorem w168_s {M : MM} {T : Nat → Nat} {n p : Nat} {P : MM → Prop} (hL : Lay M) (hB : RBy M n T) (pn : p ≤ n) (h17 : mI M 203 17 = jI (p : Int)) (hX : ∀ M', Fr sGo M M' → RTk M' T n (sk T n p) → P M') : w168 203 M P := by
  have n7 := hB.2.1
  have lp : ∀ (m c : Nat) (M' : MM), c + m = n → p ≤ c → Fr sGo M M' → mI M' 203 17 = jI (c : Int) → (∀ i, p ≤ i → i < c → isSp T i = true) → w168_0 (m + 1) 203 M' P := by
    intro m
    induction m with
    | zero =>
      intro c M' e pc hF h5 hA
      have hL' := hF.1 hL
      have hB' := RBy_fr hF hB
      have es : sk T n p = c := run_e pc (by omega) hA (Or.inl (by omega))
      have eb : bt9 T n c = -1 := if_neg (by omega)
      refine ⟨kd_203 hL', kd_203 hL', ?_⟩
      rw [h5]
      refine w169_s hL' hB' (by omega) ?_
      rw [eb]
      refine br_f (by decide) ⟨kd_203 hL', kd_203 hL', ?_⟩
      rw [h5]
      refine w169_s hL' hB' (by omega) ?_
      rw [eb]
      refine br_t (by decide) ⟨kd_203 hL', kd_203 hL', kd_203 hL', kd_203 hL', ?_⟩
      rw [h5, gI_n (by omega), h5]
      refine w169_s hL' (RBy_fr (Fr_sI Fr_r (sGo_1 (by omega))) hB') (by omega) ?_
      rw [eb]
      refine br_f (fun z => z rfl) ⟨kd_203 hL', hX _ (Fr_sI (Fr_sI hF (sGo_1 (by omega))) (sGo_1 (by omega))) ?_⟩
      rw [es]
      have et : te T n c = c := by unfold te; rw [if_pos (by omega)]
      have ek : tk T n c = 4 := by unfold tk; rw [if_pos (by omega)]
      unfold RTk
      rw [ek, et]
      exact ⟨by rw [gI_n (by omega), gI_y ⟨rfl, rfl⟩], gI_y ⟨rfl, rfl⟩, fun _ => by rw [gI_n (by omega), gI_n (by omega)]; exact h5, fun x => absurd x (by omega), fun x => absurd x (by omega)⟩
    | succ m ih =>
      intro c M' e pc hF h5 hA
      have hL' := hF.1 hL
      have hB' := RBy_fr hF hB
      have bc := hB'.2.2 c (by omega)
      have eb : bt9 T n c = (T c : Int) := if_pos (by omega)
      have go : isSp T c = true → w168_26 (fun z0 z1 => w168_0 (m + 1) z0 z1 P) 203 M' P := fun s => by
        unfold w168_26
        rw [h5, show (1 : Int32) = jI 1 from rfl, jI_add, c_s1]
        refine ⟨kd_203 hL', kd_203 hL', ih (c + 1) _ (by omega) (by omega) (Fr_sI hF (sGo_1 (by omega))) (gI_y ⟨rfl, rfl⟩) (fun i i1 i2 => ?_)⟩
        by_cases x : i = c
        · rw [x]; exact s
        · exact hA i i1 (by omega)
      refine ⟨kd_203 hL', kd_203 hL', ?_⟩
      rw [h5]
      refine w169_s hL' hB' (by omega) ?_
      rw [eb, show (32 : Int32) = jI 32 from rfl, jI_eq (by omega) (by omega) (by omega) (by omega)]
      refine ⟨fun z => go (decide_eq_true (Or.inr (by omega))), fun z => ⟨kd_203 hL', kd_203 hL', ?_⟩⟩
      rw [h5]
      refine w169_s hL' hB' (by omega) ?_
      rw [eb, show (10 : Int32) = jI 10 from rfl, ne_eq, jI_eq (by omega) (by omega) (by omega) (by omega)]
      refine ⟨fun y => ⟨kd_203 hL', kd_203 hL', kd_203 hL', kd_203 hL', ?_⟩, fun y => go (decide_eq_true (Or.inl (by omega)))⟩
      have es : sk T n p = c := run_e pc (by omega) hA (Or.inr (decide_eq_false (by omega)))
      rw [es] at hX
      rw [h5, gI_n (by omega), h5]
      obtain ⟨M1, e1⟩ : ∃ M1, M1 = sI M' 203 16 (jI (c : Int)) := ⟨_, rfl⟩
      rw [← e1]
      have f1 : Fr sGo M' M1 := by rw [e1]; exact Fr_sI Fr_r (sGo_1 (by omega))
      have hL1 := f1.1 hL'
      have hB1 := RBy_fr f1 hB'
      have g16 : mI M1 203 16 = jI (c : Int) := by rw [e1, gI_y ⟨rfl, rfl⟩]
      have g17 : mI M1 203 17 = jI (c : Int) := by rw [e1, gI_n (by omega)]; exact h5
      have hF1 := Fr_t hF f1
      refine w169_s hL1 hB1 (by omega) ?_
      rw [eb, show (-1 : Int32) = jI (-1) from rfl, ne_eq, jI_eq (by omega) (by omega) (by omega) (by omega)]
      refine ⟨fun _ => w170_s (by omega) (by omega) ?_, fun x => absurd x (by omega)⟩
      cases c1 : decide (97 ≤ ((T c : Nat) : Int) ∧ ((T c : Nat) : Int) ≤ 122) with
      | true =>
        have d1 := of_decide_eq_true c1
        refine br_f (by decide) ⟨kd_203 hL1, n - c + 1, w168_81_s (M := sL M1 203 22 0) (fun M2 f2 t2 => hX M2 (Fr_t (Fr_sL hF1 sGo_2) f2) t2) (by omega) (by omega) (decide_eq_true (by omega)) (n - c) c _ hL1 (RBy_fr (Fr_sL Fr_r sGo_2) hB1) (by omega) (Nat.le_refl _) Fr_r (by rw [gI_sL]; exact g16) (by rw [gI_sL]; exact g17) (fun i i1 i2 => by omega) (fun _ => ?_)⟩
        rw [Nat.sub_self, gL_y ⟨rfl, rfl⟩]; rfl
      | false =>
        have d1 := of_decide_eq_false c1
        refine br_t rfl (w171_s (by omega) (by omega) ?_)
        cases c2 : decide (48 ≤ ((T c : Nat) : Int) ∧ ((T c : Nat) : Int) ≤ 57) with
        | true =>
          have d2 := of_decide_eq_true c2
          refine br_f (by decide) ⟨kd_203 hL1, n - c + 1, w168_184_s (M := sI M1 203 19 0) (fun M2 f2 t2 => hX M2 (Fr_t (Fr_sI hF1 (sGo_1 (by omega))) f2) t2) (by omega) (decide_eq_true (by omega)) (n - c) c _ hL1 (RBy_fr (Fr_sI Fr_r (sGo_1 (by omega))) hB1) (by omega) (Nat.le_refl _) Fr_r (by rw [gI_n (by omega)]; exact g16) (by rw [gI_n (by omega)]; exact g17) (fun i i1 i2 => by omega) (fun _ => ?_)⟩
          rw [Nat.sub_self, gI_y ⟨rfl, rfl⟩]; rfl
        | false =>
          have d2 := of_decide_eq_false c2
          have nlt : ¬ isLt T c = true := fun x => by have := of_decide_eq_true x; omega
          refine br_t rfl ⟨kd_203 hL1, kd_203 hL1, ?_⟩
          rw [g17, show (59 : Int32) = jI 59 from rfl, ne_eq, jI_eq (by omega) (by omega) (by omega) (by omega), show (1 : Int32) = jI 1 from rfl, jI_add, c_s1]
          refine ⟨fun x => ⟨203, rfl, kd_203 hL1, hX _ (Fr_sI (Fr_sI hF1 (sGo_1 (by omega))) (sGo_1 (by omega))) ?_⟩, fun x => ⟨203, rfl, kd_203 hL1, hX _ (Fr_sI (Fr_sI hF1 (sGo_1 (by omega))) (sGo_1 (by omega))) ?_⟩⟩
          · have et : te T n c = c := by
              unfold te
              rw [if_neg (by omega), if_neg (by omega), if_neg nlt]
              exact run_e (Nat.le_refl _) (by omega) (fun i i1 i2 => by omega) (Or.inr (decide_eq_false (by omega)))
            have ek : tk T n c = 0 := by
              unfold tk
              rw [if_neg (by omega), if_neg (by omega), if_neg nlt, et, if_neg (by omega)]
            unfold RTk
            rw [ek]
            exact ⟨by rw [gI_n (by omega), gI_n (by omega)]; exact g16, gI_y ⟨rfl, rfl⟩, fun x => absurd rfl x, fun x => absurd x (by omega), fun x => absurd x (by omega)⟩
          · have e59 : T c = 59 := by omega
            have et : te T n c = c + 1 := by unfold te; rw [if_neg (by omega), if_pos e59]
            have ek : tk T n c = 3 := by unfold tk; rw [if_neg (by omega), if_pos e59]
            unfold RTk
            rw [ek, et]
            exact ⟨by rw [gI_n (by omega), gI_n (by omega)]; exact g16, gI_y ⟨rfl, rfl⟩, fun _ => by rw [gI_n (by omega), gI_y ⟨rfl, rfl⟩], fun x => absurd x (by omega), fun x => absurd x (by omega)⟩
  exact ⟨n - p + 1, lp (n - p) p M (by omega) (Nat.le_refl _) Fr_r h17 (fun i i1 i2 => by omega)⟩
