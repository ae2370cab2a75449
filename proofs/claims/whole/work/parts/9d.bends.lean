/-! ===== bends: both sides ===== -/
def bdW (a : WY) (i : Nat) : Int32 := if tS a (i - 1) a (i + 1) = 0 then (if (wx a i - wx a (i - 1)) * (wx a (i + 1) - wx a i) + (wy a i - wy a (i - 1)) * (wy a (i + 1) - wy a i) ≤ 0 then 3 else 2) else if tS a (i - 1) a (i + 1) ≤ 0 then 1 else 0
def beV (l2 : Int32) (a : WY) : Nat := mIn (fun i => decide (bdW a i = l2)) 1 (wn a - 1)
def benA (k : Nat) (W : Nat → WY) (l1 l2 : Int32) : Int32 × Int32 :=
  if frb l2 0 3 = true then (if isWb k l1 = true then (jI (beV l2 (W l1.toNatClampNeg) : Int), 0) else (-1, 2)) else (-1, 1)
theorem bd_b {a : WY} (ga : gW a) {i : Nat} (h1 : 1 ≤ i) (hi : i + 1 < wn a) : -648 ≤ (wx a i - wx a (i - 1)) * (wx a (i + 1) - wx a i) + (wy a i - wy a (i - 1)) * (wy a (i + 1) - wy a i) ∧ (wx a i - wx a (i - 1)) * (wx a (i + 1) - wx a i) + (wy a i - wy a (i - 1)) * (wy a (i + 1) - wy a i) ≤ 648 := by
  have p0 := ga.2.2.1 (i - 1) (by omega)
  have p1 := ga.2.2.1 i (by omega)
  have p2 := ga.2.2.1 (i + 1) hi
  have m1 := mul_b (x := wx a i - wx a (i - 1)) (y := wx a (i + 1) - wx a i) (B := 18) (C := 18) (by omega) (by omega) (by omega) (by omega)
  have m2 := mul_b (x := wy a i - wy a (i - 1)) (y := wy a (i + 1) - wy a i) (B := 18) (C := 18) (by omega) (by omega) (by omega) (by omega)
  omega
theorem w72_s {M : MM} {t i : Nat} {a : WY} {P : Int32 → MM → Prop} (hL : Lay M) (ht : isT t = true) (hA : TrC M t a) (ga : gW a) (h1 : 1 ≤ i) (hi : i + 1 < wn a) (hP : P (bdW a i) M) : w72 t (jI (i : Int)) M P := by
  have n1 := ga.2.1
  have bb := bd_b ga h1 hi
  have em : jI (i : Int) - 1 = jI ((i - 1 : Nat) : Int) := by rw [show (1 : Int32) = jI 1 from rfl, jI_sub]; congr 1; omega
  have ep : jI (i : Int) + 1 = jI ((i + 1 : Nat) : Int) := by rw [show (1 : Int32) = jI 1 from rfl, jI_add, c_s1]
  unfold w72
  rw [em, ep]
  refine ⟨kd_T hL ht, w66_s hL ht ht hA hA ga ga (by omega) hi ?_⟩
  unfold bdW at hP
  refine ⟨fun z => ?_, fun z => ⟨fun y => ?_, fun y => ?_⟩⟩
  · rw [if_pos z] at hP
    refine ⟨kd_T hL ht, _, rfx_T hL ht, inxj hL ht (by omega), kd_T hL ht, _, rfx_T hL ht, inxj hL ht (by omega), kd_T hL ht, _, rfx_T hL ht, inxj hL ht (by omega), kd_T hL ht, _, rfx_T hL ht, inxj hL ht (by omega), kd_T hL ht, _, rfy_T hL ht, inyj hL ht (by omega), kd_T hL ht, _, rfy_T hL ht, inyj hL ht (by omega), kd_T hL ht, _, rfy_T hL ht, inyj hL ht (by omega), kd_T hL ht, _, rfy_T hL ht, inyj hL ht (by omega), ?_⟩
    rw [jI_cn (by omega), jI_cn (by omega), jI_cn (by omega), (hA.2 i (by omega)).1, (hA.2 i (by omega)).2, (hA.2 (i - 1) (by omega)).1, (hA.2 (i - 1) (by omega)).2, (hA.2 (i + 1) hi).1, (hA.2 (i + 1) hi).2, jI_sub, jI_sub, jI_sub, jI_sub, jI_mul, jI_mul, jI_add]
    generalize (wx a i - wx a (i - 1)) * (wx a (i + 1) - wx a i) + (wy a i - wy a (i - 1)) * (wy a (i + 1) - wy a i) = v at *
    refine ⟨fun y => ?_, fun y => ?_⟩
    · rw [show (0 : Int32) = jI 0 from rfl, jI_le (by omega) (by omega) (by omega) (by omega)] at y
      rw [if_pos y] at hP; exact hP
    · rw [show (0 : Int32) = jI 0 from rfl, jI_le (by omega) (by omega) (by omega) (by omega)] at y
      rw [if_neg y] at hP; exact hP
  · rw [if_neg z, if_pos y] at hP; exact hP
  · rw [if_neg z, if_neg y] at hP; exact hP
theorem w71_34_s {M : MM} {k w : Nat} {W : Nat → WY} {l2 : Int32} {P : Int32 → MM → Prop} (hL : Lay M) (hW : CWs M k W) (hw : w < k) (hP : P (jI (beV l2 (W w) : Int)) (sI M 0 10 0)) : ∀ (q i : Nat), i + q + 1 = wn (W w) → 1 ≤ i → w71_34 (q + 1) 0 (jI (w : Int)) l2 (jI (mIn (fun i => decide (bdW (W w) i = l2)) 1 i : Int)) (jI (i : Int)) M P := by
  have k4 := hW.2.1
  have gw := (hW.2.2 w hw).1
  have hA := (hW.2.2 w hw).2
  have n1 := gw.2.1
  have ht : isT (191 + 3 * w) = true := isT_way (by omega)
  have cw : (jI (w : Int)).toNatClampNeg = w := jI_cn (by omega)
  intro q
  induction q with
  | zero =>
    intro i hi h1
    refine ⟨kd_0 hL, 19, rf_0_5 hL, i19 hL (by omega), _, by rw [cw]; exact rf_19 hL (by omega), kd_T hL ht, br_t ?_ ⟨kd_0 hL, kd_0 hL, ?_⟩⟩
    · rw [hA.1, show (1 : Int32) = jI 1 from rfl, jI_add, jI_le (by omega) (by omega) (by omega) (by omega)]; omega
    · unfold beV at hP
      rw [show wn (W w) - 1 = i by omega] at hP; exact hP
  | succ q ih =>
    intro i hi h1
    have ei : jI (i : Int) + 1 = jI ((i + 1 : Nat) : Int) := by rw [show (1 : Int32) = jI 1 from rfl, jI_add, c_s1]
    refine ⟨kd_0 hL, 19, rf_0_5 hL, i19 hL (by omega), _, by rw [cw]; exact rf_19 hL (by omega), kd_T hL ht, br_f ?_ ⟨kd_0 hL, 19, rf_0_5 hL, i19 hL (by omega), _, by rw [cw]; exact rf_19 hL (by omega), kd_T hL ht, w72_s hL ht hA gw h1 (by omega) ?_⟩⟩
    · rw [hA.1, ei, jI_le (by omega) (by omega) (by omega) (by omega)]; omega
    have nx := ih (i + 1) (by omega) (by omega)
    have ms := mIn_s (fun i => decide (bdW (W w) i = l2)) 1 i h1
    rw [ms] at nx
    unfold w71_68
    rw [ei]
    refine ⟨fun z => ?_, fun z => ?_⟩
    · rw [if_neg (fun y => z (of_decide_eq_true y)), Nat.add_zero] at nx; exact nx
    · rw [if_pos (decide_eq_true (Classical.not_not.mp z))] at nx
      rw [show (1 : Int32) = jI 1 from rfl, jI_add, c_s1]
      exact nx
theorem w71_q {M : MM} {k : Nat} {W : Nat → WY} {l1 l2 : Int32} {P : Int32 → MM → Prop} (hL : Lay M) (hW : CWs M k W) (hX : ∀ M' r st, Fr sCQ M M' → mI M' 0 10 = st → (r, st) = benA k W l1 l2 → P r M') : w71 0 l1 l2 M P := by
  have hC := CWs_CW hL hW
  have k4 := hW.2.1
  unfold benA at hX
  by_cases hf : frb l2 0 3 = true
  · rw [if_pos hf] at hX
    have hh := of_decide_eq_true hf
    refine br_f hh.1 (br_t (nlt_le.mp hh.2) ⟨kd_0 hL, w40_s hC ?_⟩)
    cases c1 : isWb k l1 with
    | false =>
      rw [if_neg (by rw [c1]; decide)] at hX
      exact br_f (fun z => z rfl) ⟨kd_0 hL, kd_0 hL, hX _ _ _ (Fr_s0 Fr_r) (gI_y ⟨rfl, rfl⟩) rfl⟩
    | true =>
      rw [if_pos c1] at hX
      obtain ⟨w, hw, rfl⟩ := isWb_j k4 c1
      have a1 := (hW.2.2 w hw).1.1
      rw [jI_cn (by omega)] at hX
      have := w71_34_s hL hW hw (hX _ _ _ (Fr_s0 Fr_r) (gI_y ⟨rfl, rfl⟩) rfl) (wn (W w) - 2) 1 (by omega) (by omega)
      rw [mIn_0 _ 1 1 (by omega)] at this
      exact br_t (by decide) ⟨wn (W w) - 2 + 1, this⟩
  · rw [if_neg hf] at hX
    have no : w71_9 0 M P := ⟨kd_0 hL, kd_0 hL, hX _ _ _ (Fr_s0 Fr_r) (gI_y ⟨rfl, rfl⟩) rfl⟩
    exact ⟨fun _ => no, fun z => ⟨fun y => absurd (decide_eq_true ⟨z, nlt_le.mpr y⟩) hf, fun _ => no⟩⟩
theorem w207_34_s {M : MM} {k w : Nat} {W : Nat → WY} {l2 : Int32} {P : Int32 → MM → Prop} (hL : Lay M) (hW : RWs M k W) (hw : w < k) (hP : P (jI (beV l2 (W w) : Int)) (sI M 203 9 0)) : ∀ (q i : Nat), i + q + 1 = wn (W w) → 1 ≤ i → w207_34 (q + 1) 203 (jI (w : Int)) l2 (jI (mIn (fun i => decide (bdW (W w) i = l2)) 1 i : Int)) (jI (i : Int)) M P := by
  have gw := (hW.2.2 w hw).1
  have n1 := gw.2.1
  intro q
  induction q with
  | zero =>
    intro i hi h1
    refine ⟨kd_203 hL, w180_q hL hW hw (br_t ?_ ⟨kd_203 hL, kd_203 hL, ?_⟩)⟩
    · rw [show (1 : Int32) = jI 1 from rfl, jI_add, jI_le (by omega) (by omega) (by omega) (by omega)]; omega
    · unfold beV at hP
      rw [show wn (W w) - 1 = i by omega] at hP; exact hP
  | succ q ih =>
    intro i hi h1
    have bb := bd_b gw h1 (show i + 1 < wn (W w) by omega)
    have em : jI (i : Int) - 1 = jI ((i - 1 : Nat) : Int) := by rw [show (1 : Int32) = jI 1 from rfl, jI_sub]; congr 1; omega
    have ei : jI (i : Int) + 1 = jI ((i + 1 : Nat) : Int) := by rw [show (1 : Int32) = jI 1 from rfl, jI_add, c_s1]
    have nx := ih (i + 1) (by omega) (by omega)
    have ms := mIn_s (fun i => decide (bdW (W w) i = l2)) 1 i h1
    rw [ms] at nx
    have fin : ∀ s0 : Int32, s0 = bdW (W w) i → w207_163 (fun z0 z1 z2 z3 z4 z5 => w207_34 (q + 1) z0 z1 z2 z3 z4 z5 P) 203 (jI (w : Int)) l2 (jI (mIn (fun i => decide (bdW (W w) i = l2)) 1 i : Int)) (jI (i : Int)) s0 M P := fun s0 es => by
      subst es
      unfold w207_163 w207_177
      rw [ei]
      refine ⟨fun z => ?_, fun z => ?_⟩
      · rw [if_neg (fun y => z (of_decide_eq_true y)), Nat.add_zero] at nx
        rw [show (0 : Int32) = jI 0 from rfl, jI_add, Int.add_zero]
        exact nx
      · rw [if_pos (decide_eq_true (Classical.not_not.mp z))] at nx
        rw [show (1 : Int32) = jI 1 from rfl, jI_add, c_s1]
        exact nx
    unfold bdW at fin
    unfold w207_34
    rw [em, ei]
    refine ⟨kd_203 hL, w180_q hL hW hw (br_f ?_ ⟨kd_203 hL, w205_s hL hW hw (by omega) hw (by omega) ⟨kd_203 hL, w184_q hL hW hw (by omega) ⟨kd_203 hL, w184_q hL hW hw (by omega) ⟨kd_203 hL, w184_q hL hW hw (by omega) ⟨kd_203 hL, w184_q hL hW hw (by omega) ⟨kd_203 hL, w185_q hL hW hw (by omega) ⟨kd_203 hL, w185_q hL hW hw (by omega) ⟨kd_203 hL, w185_q hL hW hw (by omega) ⟨kd_203 hL, w185_q hL hW hw (by omega) ?_⟩⟩⟩⟩⟩⟩⟩⟩⟩)⟩
    · rw [jI_le (by omega) (by omega) (by omega) (by omega)]; omega
    rw [jI_sub, jI_sub, jI_sub, jI_sub, jI_mul, jI_mul, jI_add]
    generalize (wx (W w) i - wx (W w) (i - 1)) * (wx (W w) (i + 1) - wx (W w) i) + (wy (W w) i - wy (W w) (i - 1)) * (wy (W w) (i + 1) - wy (W w) i) = v at *
    generalize tS (W w) (i - 1) (W w) (i + 1) = s at *
    refine ⟨fun z => ⟨fun y => ?_, fun y => fin 1 ?_⟩, fun z => fin 0 ?_⟩
    · have e0 : s = 0 := Int32.le_antisymm z y
      refine ⟨fun x => fin 3 ?_, fun x => fin 2 ?_⟩
      · rw [show (0 : Int32) = jI 0 from rfl, jI_le (by omega) (by omega) (by omega) (by omega)] at x
        rw [if_pos e0, if_pos x]
      · rw [show (0 : Int32) = jI 0 from rfl, jI_le (by omega) (by omega) (by omega) (by omega)] at x
        rw [if_pos e0, if_neg x]
    · rw [if_neg (fun e => y (by rw [e]; exact Int32.le_refl _)), if_pos z]
    · rw [if_neg (fun e => z (by rw [e]; exact Int32.le_refl _)), if_neg z]
theorem w207_q {M : MM} {k : Nat} {W : Nat → WY} {l1 l2 : Int32} {P : Int32 → MM → Prop} (hL : Lay M) (hW : RWs M k W) (hX : ∀ M' r st, Fr sRQ M M' → mI M' 203 9 = st → (r, st) = benA k W l1 l2 → P r M') : w207 203 l1 l2 M P := by
  have hC := RWs_RW hL hW
  have k4 := hW.2.1
  unfold benA at hX
  refine w166_s ?_
  cases hf : frb l2 0 3 with
  | false =>
    rw [if_neg (by rw [hf]; decide)] at hX
    exact br_f (by decide) ⟨kd_203 hL, kd_203 hL, hX _ _ _ (Fr_s9 Fr_r) (gI_y ⟨rfl, rfl⟩) rfl⟩
  | true =>
    rw [if_pos hf] at hX
    refine br_t (by decide) ⟨kd_203 hL, w182_s hC ?_⟩
    cases c1 : isWb k l1 with
    | false =>
      rw [if_neg (by rw [c1]; decide)] at hX
      exact br_f (fun z => z rfl) ⟨kd_203 hL, kd_203 hL, hX _ _ _ (Fr_s9 Fr_r) (gI_y ⟨rfl, rfl⟩) rfl⟩
    | true =>
      rw [if_pos c1] at hX
      obtain ⟨w, hw, rfl⟩ := isWb_j k4 c1
      have a1 := (hW.2.2 w hw).1.1
      rw [jI_cn (by omega)] at hX
      have := w207_34_s hL hW hw (hX _ _ _ (Fr_s9 Fr_r) (gI_y ⟨rfl, rfl⟩) rfl) (wn (W w) - 2) 1 (by omega) (by omega)
      rw [mIn_0 _ 1 1 (by omega)] at this
      exact br_t (by decide) ⟨wn (W w) - 2 + 1, this⟩
