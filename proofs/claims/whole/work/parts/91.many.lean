/-! ===== many: both sides; A: how many acts are kept ===== -/
def ptsW (W : Nat → WY) : Nat → Nat
  | 0 => 0
  | n + 1 => ptsW W n + wn (W n)
def manA (k : Nat) (W : Nat → WY) (A l1 : Int32) : Int32 × Int32 := if frb l1 0 2 = true then ((if l1 = 0 then jI (k : Int) else if l1 = 1 then jI (ptsW W k : Int) else A), 0) else (-1, 1)
theorem w38_4_s {M : MM} {k : Nat} {W : Nat → WY} {P : Int32 → MM → Prop} (hL : Lay M) (hW : CWs M k W) (hP : P (jI (ptsW W k : Int)) M) : ∀ (q w : Nat), w + q = k → w38_4 (q + 1) 0 (jI (ptsW W w : Int)) (jI (w : Int)) M P := by
  have k4 := hW.2.1
  intro q
  induction q with
  | zero =>
    intro w hw
    refine ⟨kd_0 hL, br_t ?_ ?_⟩
    · rw [hW.1, jI_le (by omega) (by omega) (by omega) (by omega)]; omega
    · rw [show w = k by omega]; exact hP
  | succ q ih =>
    intro w hw
    have qw := (hW.2.2 w (by omega)).2
    refine ⟨kd_0 hL, br_f ?_ ⟨kd_0 hL, 19, rf_0_5 hL, i19 hL (by omega), ?_⟩⟩
    · rw [hW.1, jI_le (by omega) (by omega) (by omega) (by omega)]; omega
    rw [jI_cn (by omega), rf_19 hL (by omega)]
    refine ⟨_, rfl, kd_T hL (isT_way (by omega)), ?_⟩
    rw [qw.1, show (1 : Int32) = jI 1 from rfl, jI_add, jI_add]
    exact ih (w + 1) (by omega)
theorem w37_q {M : MM} {k : Nat} {W : Nat → WY} {A l1 : Int32} {P : Int32 → MM → Prop} (hL : Lay M) (hW : CWs M k W) (hA : ∀ a, mR M 0 7 = some a → mI M a 3 = A) (hk7 : ∃ a, mR M 0 7 = some a ∧ kd M a 0) (hX : ∀ M' r st, Fr sCQ M M' → mI M' 0 10 = st → (r, st) = manA k W A l1 → P r M') : w37 0 l1 M P := by
  unfold manA at hX
  by_cases hf : frb l1 0 2 = true
  · rw [if_pos hf] at hX
    have hh := of_decide_eq_true hf
    refine br_f hh.1 (br_t (nlt_le.mp hh.2) ⟨fun z => ?_, fun z => ?_⟩)
    · rw [if_neg z] at hX
      refine ⟨fun y => ?_, fun y => ?_⟩
      · rw [if_neg y] at hX
        obtain ⟨a, ea, ka⟩ := hk7
        refine ⟨kd_0 hL, a, ea, ka, 0, rfl, kd_0 hL, kd_0 hL, ?_⟩
        rw [hA a ea]
        exact hX _ _ _ (Fr_s0 Fr_r) (gI_y ⟨rfl, rfl⟩) rfl
      · rw [if_pos (Classical.not_not.mp y)] at hX
        exact ⟨kd_0 hL, k + 1, w38_4_s hL hW ⟨0, rfl, kd_0 hL, kd_0 hL, hX _ _ _ (Fr_s0 Fr_r) (gI_y ⟨rfl, rfl⟩) rfl⟩ k 0 (by omega)⟩
    · rw [if_pos (Classical.not_not.mp z)] at hX
      refine ⟨kd_0 hL, kd_0 hL, kd_0 hL, ?_⟩
      rw [hW.1]
      exact hX _ _ _ (Fr_s0 Fr_r) (gI_y ⟨rfl, rfl⟩) rfl
  · rw [if_neg hf] at hX
    have no : w37_9 0 M P := ⟨kd_0 hL, kd_0 hL, hX _ _ _ (Fr_s0 Fr_r) (gI_y ⟨rfl, rfl⟩) rfl⟩
    refine ⟨fun _ => no, fun z => ⟨fun y => absurd (decide_eq_true ⟨z, nlt_le.mpr y⟩) hf, fun _ => no⟩⟩
theorem w179_19_s {M : MM} {k : Nat} {W : Nat → WY} {A l1 : Int32} {P : Int32 → MM → Prop} (hL : Lay M) (hW : RWs M k W) (hA : mI M 203 12 = A) (hP : P (if l1 = 0 then jI (k : Int) else if l1 = 1 then jI (ptsW W k : Int) else A) (sI M 203 9 0)) : ∀ (q w : Nat), w + q = k → w179_19 (q + 1) 203 l1 (jI (ptsW W w : Int)) (jI (w : Int)) M P := by
  have k4 := hW.2.1
  intro q
  induction q with
  | zero =>
    intro w hw
    refine ⟨kd_203 hL, br_t ?_ ⟨fun z => ⟨fun y => ⟨kd_203 hL, 203, rfl, kd_203 hL, kd_203 hL, ?_⟩, fun y => ⟨203, rfl, kd_203 hL, kd_203 hL, ?_⟩⟩, fun z => ⟨kd_203 hL, 203, rfl, kd_203 hL, kd_203 hL, ?_⟩⟩⟩
    · rw [hW.1, jI_le (by omega) (by omega) (by omega) (by omega)]; omega
    · rw [if_neg z, if_neg y] at hP; rw [hA]; exact hP
    · rw [if_neg z, if_pos (Classical.not_not.mp y)] at hP
      rw [show w = k by omega]; exact hP
    · rw [if_pos (Classical.not_not.mp z)] at hP
      rw [hW.1]; exact hP
  | succ q ih =>
    intro w hw
    refine ⟨kd_203 hL, br_f ?_ ⟨kd_203 hL, w180_q hL hW (by omega) ?_⟩⟩
    · rw [hW.1, jI_le (by omega) (by omega) (by omega) (by omega)]; omega
    rw [show (1 : Int32) = jI 1 from rfl, jI_add, jI_add]
    exact ih (w + 1) (by omega)
theorem w179_q {M : MM} {k : Nat} {W : Nat → WY} {A l1 : Int32} {P : Int32 → MM → Prop} (hL : Lay M) (hW : RWs M k W) (hA : mI M 203 12 = A) (hX : ∀ M' r st, Fr sRQ M M' → mI M' 203 9 = st → (r, st) = manA k W A l1 → P r M') : w179 203 l1 M P := by
  unfold manA at hX
  refine w166_s ?_
  cases hf : frb l1 0 2 with
  | true =>
    rw [if_pos hf] at hX
    exact br_t (by decide) ⟨k + 1, w179_19_s hL hW hA (hX _ _ _ (Fr_s9 Fr_r) (gI_y ⟨rfl, rfl⟩) rfl) k 0 (by omega)⟩
  | false =>
    rw [if_neg (by rw [hf]; decide)] at hX
    exact br_f (by decide) ⟨kd_203 hL, kd_203 hL, hX _ _ _ (Fr_s9 Fr_r) (gI_y ⟨rfl, rfl⟩) rfl⟩
