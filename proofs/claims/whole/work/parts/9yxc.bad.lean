/-! ===== the reference: faults, numbers that are read ===== -/
def sBa : Nat → Nat → Bool := sB 203 20 21 1 0
/-- what bad(k) leaves: 1 where there is no token -/
theorem w173_s {M : MM} {kd q c : Nat} {P : Int32 → MM → Prop} (hL : Lay M) (h18 : mI M 203 18 = jI (rk kd : Int)) (k4 : kd ≤ 4) (h16 : mI M 203 16 = jI (q : Int)) (hX : ∀ M', Fr sBa M M' → mI M' 203 20 = jI ((if kd = 0 then 1 else c : Nat) : Int) → mI M' 203 21 = jI (q : Int) → P 0 M') : w173 203 (jI (c : Int)) M P := by
  have e : (rk kd = 1) ↔ kd = 0 := by
    unfold rk
    by_cases c : kd = 4
    · rw [if_pos c]; omega
    · rw [if_neg c]; omega
  have b : rk kd ≤ 5 := by
    unfold rk
    by_cases c : kd = 4
    · rw [if_pos c]; omega
    · rw [if_neg c]; omega
  unfold w173
  rw [h18, show (1 : Int32) = jI 1 from rfl, ne_eq, jI_eq (by omega) (by omega) (by omega) (by omega)]
  refine ⟨kd_203 hL, fun z => ⟨203, rfl, kd_203 hL, kd_203 hL, kd_203 hL, ?_⟩, fun z => ⟨203, rfl, kd_203 hL, kd_203 hL, kd_203 hL, ?_⟩⟩
  · rw [if_neg (by omega)] at hX
    exact hX _ (Fr_sI (Fr_sI Fr_r (sB_t1 (by omega))) (sB_t1 (by omega))) (by rw [gI_n (by omega), gI_y ⟨rfl, rfl⟩]) (by rw [gI_y ⟨rfl, rfl⟩, gI_n (by omega)]; exact h16)
  · rw [if_pos (by omega)] at hX
    exact hX _ (Fr_sI (Fr_sI Fr_r (sB_t1 (by omega))) (sB_t1 (by omega))) (by rw [gI_n (by omega), gI_y ⟨rfl, rfl⟩]; rfl) (by rw [gI_y ⟨rfl, rfl⟩, gI_n (by omega)]; exact h16)
/-- readNumber: either a number to 18, or a fault -/
theorem w176_s {M : MM} {kd q v : Nat} {P : Int32 → MM → Prop} (hL : Lay M) (h18 : mI M 203 18 = jI (rk kd : Int)) (k4 : kd ≤ 4) (h16 : mI M 203 16 = jI (q : Int)) (h19 : kd = 2 → mI M 203 19 = jI (v : Int) ∧ v ≤ 99) (hX1 : kd = 2 → v ≤ 18 → P 1 M) (hX0 : ∀ M', ¬ (kd = 2 ∧ v ≤ 18) → Fr sBa M M' → mI M' 203 20 = jI ((if kd = 0 then 1 else if kd = 2 then 3 else 2 : Nat) : Int) → mI M' 203 21 = jI (q : Int) → P 0 M') : w176 203 M P := by
  have e : (rk kd = 3) ↔ kd = 2 := by
    unfold rk
    by_cases c : kd = 4
    · rw [if_pos c]; omega
    · rw [if_neg c]; omega
  have b : rk kd ≤ 5 := by
    unfold rk
    by_cases c : kd = 4
    · rw [if_pos c]; omega
    · rw [if_neg c]; omega
  unfold w176
  rw [h18, show (3 : Int32) = jI 3 from rfl, jI_eq (by omega) (by omega) (by omega) (by omega)]
  refine ⟨kd_203 hL, fun z => ⟨kd_203 hL, ?_⟩, fun z => ⟨kd_203 hL, ?_⟩⟩
  · have k2 : kd = 2 := by omega
    have g := h19 k2
    rw [g.1, show (18 : Int32) = jI 18 from rfl, jI_le (by omega) (by omega) (by omega) (by omega)]
    refine ⟨fun y => ⟨Or.inr rfl, hX1 k2 (by omega)⟩, fun y => ⟨kd_203 hL, ?_⟩⟩
    refine w173_s (c := 3) hL h18 k4 h16 (fun M1 f1 a1 a2 => br_t rfl ⟨Or.inl rfl, hX0 M1 (by omega) f1 ?_ a2⟩)
    rw [a1, if_neg (by omega), if_neg (by omega), if_pos k2]
  · refine w173_s (c := 2) hL h18 k4 h16 (fun M1 f1 a1 a2 => ⟨Or.inl rfl, hX0 M1 (by omega) f1 ?_ a2⟩)
    have k2 : ¬ kd = 2 := by omega
    rw [a1, if_neg k2]
