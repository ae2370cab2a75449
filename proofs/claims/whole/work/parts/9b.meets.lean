/-! ===== meets, bends: both sides ===== -/
def sg32 (x : Int32) : Int32 := (x >>> ((31 : Int32) &&& 31)) ||| (((-x).toUInt32 >>> ((31 : Int32).toUInt32 &&& Int32.toUInt32 31)).toInt32)
def tS (a : WY) (i : Nat) (b : WY) (k : Nat) : Int32 := sg32 (jI (eC a i b k))
def box (a : WY) (i : Nat) (b : WY) (k : Nat) : Bool := decide (min (wx a i) (wx a (i + 1)) ≤ wx b k ∧ wx b k ≤ max (wx a i) (wx a (i + 1)) ∧ min (wy a i) (wy a (i + 1)) ≤ wy b k ∧ wy b k ≤ max (wy a i) (wy a (i + 1)))
def onE (a : WY) (i : Nat) (b : WY) (k : Nat) : Bool := decide (tS a i b k = 0) && box a i b k
def crs (a : WY) (i : Nat) (b : WY) (k : Nat) : Bool := decide (tS a i b k * tS a i b (k + 1) < 0) && decide (tS b k a i * tS b k a (i + 1) < 0)
def tch (a : WY) (i : Nat) (b : WY) (k : Nat) : Bool := onE a i b k || (onE a i b (k + 1) || (onE b k a i || onE b k a (i + 1)))
def meE (l3 : Int32) (a : WY) (i : Nat) (b : WY) (k : Nat) : Bool := crs a i b k || (decide (l3 = 0) && tch a i b k)
theorem w66_s {M : MM} {t u i k : Nat} {a b : WY} {P : Int32 → MM → Prop} (hL : Lay M) (ht : isT t = true) (hu : isT u = true) (hA : TrC M t a) (hB : TrC M u b) (ga : gW a) (gb : gW b) (hi : i + 1 < wn a) (hk : k < wn b) (hP : P (tS a i b k) M) : w66 t (jI (i : Int)) (some u) (jI (k : Int)) M P := by
  have n1 := ga.2.1
  have n2 := gb.2.1
  unfold tS sg32 eC at hP
  simp (disch := omega) only [w66, w67, Option.some.injEq, exists_eq_left', kd_T hL ht, kd_T hL hu, true_and, rfx_T hL ht, rfy_T hL ht, rfx_T hL hu, rfy_T hL hu, show (1 : Int32) = jI 1 from rfl, jI_add, c_s1, jI_cn, inxj hL ht, inyj hL ht, inxj hL hu, inyj hL hu, fun i hi => (hA.2 i hi).1, fun i hi => (hA.2 i hi).2, fun i hi => (hB.2 i hi).1, fun i hi => (hB.2 i hi).2, jI_sub, jI_mul]
  exact hP
theorem w65_s {M : MM} {t u i k : Nat} {a b : WY} {P : Int32 → MM → Prop} (hL : Lay M) (ht : isT t = true) (hu : isT u = true) (hA : TrC M t a) (hB : TrC M u b) (ga : gW a) (gb : gW b) (hi : i + 1 < wn a) (hk : k + 1 < wn b) (hP : P (bI (crs a i b k)) M) : w65 t (jI (i : Int)) (some u) (jI (k : Int)) M P := by
  have ei : jI (i : Int) + 1 = jI ((i + 1 : Nat) : Int) := by rw [show (1 : Int32) = jI 1 from rfl, jI_add, c_s1]
  have ek : jI (k : Int) + 1 = jI ((k + 1 : Nat) : Int) := by rw [show (1 : Int32) = jI 1 from rfl, jI_add, c_s1]
  unfold crs at hP
  refine ⟨kd_T hL ht, w66_s hL ht hu hA hB ga gb hi (by omega) ⟨kd_T hL ht, ?_⟩⟩
  rw [ek]
  refine w66_s hL ht hu hA hB ga gb hi hk ⟨fun z => ⟨Or.inl rfl, ?_⟩, fun z => ⟨_, rfl, kd_T hL hu, w66_s hL hu ht hB hA gb ga hk (by omega) ⟨kd_T hL hu, ?_⟩⟩⟩
  · rw [decide_eq_false (Int32.not_lt.mpr z), Bool.false_and] at hP; exact hP
  rw [decide_eq_true (Int32.not_le.mp z), Bool.true_and] at hP
  rw [ei]
  refine w66_s hL hu ht hB hA gb ga hk hi ⟨fun z => ⟨Or.inl rfl, ?_⟩, fun z => ⟨Or.inr rfl, ?_⟩⟩
  · rw [decide_eq_false (Int32.not_lt.mpr z)] at hP; exact hP
  · rw [decide_eq_true (Int32.not_le.mp z)] at hP; exact hP
theorem w69_s {M : MM} {t u i k : Nat} {a b : WY} {P : Int32 → MM → Prop} (hL : Lay M) (ht : isT t = true) (hu : isT u = true) (hA : TrC M t a) (hB : TrC M u b) (ga : gW a) (gb : gW b) (hi : i + 1 < wn a) (hk : k < wn b) (hP : P (bI (onE a i b k)) M) : w69 t (jI (i : Int)) (some u) (jI (k : Int)) M P := by
  have n1 := ga.2.1
  have n2 := gb.2.1
  have b0 := ga.2.2.1 i (by omega)
  have b1 := ga.2.2.1 (i + 1) hi
  have b2 := gb.2.2.1 k hk
  refine ⟨_, rfl, kd_T hL hu, _, rfx_T hL hu, inxj hL hu (by omega), kd_T hL hu, _, rfy_T hL hu, inyj hL hu (by omega), kd_T hL ht, w66_s hL ht hu hA hB ga gb hi hk ?_⟩
  unfold onE at hP
  refine ⟨fun z => ⟨Or.inl rfl, ?_⟩, fun z => ?_⟩
  · rw [decide_eq_false z, Bool.false_and] at hP; exact hP
  rw [decide_eq_true (Classical.not_not.mp z), Bool.true_and, bI_j] at hP
  have hQ : ∀ r : Int, r = (if box a i b k = true then 1 else 0) → P (jI r) M := fun r e => e ▸ hP
  unfold box at hQ
  simp (disch := omega) only [kd_sI, kd_sL, kd_sR, true_and, and_true, Option.some.injEq, exists_eq_left', true_or, or_true, not_true_eq_false, not_false_eq_true, w70, w70_10, w33, w33_10, w69_118, w69_119, kd_T hL ht, rfx_T hL ht, rfy_T hL ht, jI_lit, jI_add, c_s1, jI_cn, inxj hL ht, inyj hL ht, fun i hi => (hA.2 i hi).1, fun i hi => (hA.2 i hi).2, fun i hi => (hB.2 i hi).1, fun i hi => (hB.2 i hi).2, jI_lt, jI_le, jI_eq]
  repeat' (first | with_reducible refine And.intro (fun _ => ?_) (fun _ => ?_) | fail)
  all_goals first | (exfalso; omega) | exact hQ _ (by simp only [decide_eq_true_eq]; omega)
theorem w68_s {M : MM} {t u i k : Nat} {a b : WY} {P : Int32 → MM → Prop} (hL : Lay M) (ht : isT t = true) (hu : isT u = true) (hA : TrC M t a) (hB : TrC M u b) (ga : gW a) (gb : gW b) (hi : i + 1 < wn a) (hk : k + 1 < wn b) (hP : P (bI (tch a i b k)) M) : w68 t (jI (i : Int)) (some u) (jI (k : Int)) M P := by
  have ei : jI (i : Int) + 1 = jI ((i + 1 : Nat) : Int) := by rw [show (1 : Int32) = jI 1 from rfl, jI_add, c_s1]
  have ek : jI (k : Int) + 1 = jI ((k + 1 : Nat) : Int) := by rw [show (1 : Int32) = jI 1 from rfl, jI_add, c_s1]
  unfold tch at hP
  refine ⟨kd_T hL ht, w69_s hL ht hu hA hB ga gb hi (by omega) ?_⟩
  cases c1 : onE a i b k with
  | true => rw [c1, Bool.true_or] at hP; exact br_t (by decide) ⟨Or.inr rfl, hP⟩
  | false =>
    rw [c1, Bool.false_or] at hP
    refine br_f (fun z => z rfl) ⟨kd_T hL ht, ?_⟩
    rw [ek]
    refine w69_s hL ht hu hA hB ga gb hi hk ?_
    cases c2 : onE a i b (k + 1) with
    | true => rw [c2, Bool.true_or] at hP; exact br_t (by decide) ⟨Or.inr rfl, hP⟩
    | false =>
      rw [c2, Bool.false_or] at hP
      refine br_f (fun z => z rfl) ⟨_, rfl, kd_T hL hu, w69_s hL hu ht hB hA gb ga hk (by omega) ?_⟩
      cases c3 : onE b k a i with
      | true => rw [c3, Bool.true_or] at hP; exact br_t (by decide) ⟨Or.inr rfl, hP⟩
      | false =>
        rw [c3, Bool.false_or] at hP
        refine br_f (fun z => z rfl) ⟨kd_T hL hu, ?_⟩
        rw [ei]
        refine w69_s hL hu ht hB hA gb ga hk hi ?_
        cases c4 : onE b k a (i + 1) with
        | true => rw [c4] at hP; exact br_f (by decide) ⟨Or.inr rfl, hP⟩
        | false => rw [c4] at hP; exact br_t rfl ⟨Or.inl rfl, hP⟩
/-! counting -/
def mIn (c : Nat → Bool) (s : Nat) : Nat → Nat
  | 0 => 0
  | k + 1 => mIn c s k + (if s ≤ k ∧ c k = true then 1 else 0)
theorem mIn_0 (c : Nat → Bool) (s : Nat) : ∀ k, k ≤ s → mIn c s k = 0
  | 0, _ => rfl
  | k + 1, h => by
    show mIn c s k + (if s ≤ k ∧ c k = true then 1 else 0) = 0
    rw [mIn_0 c s k (by omega), if_neg (by omega)]
theorem mIn_s (c : Nat → Bool) (s k : Nat) (h : s ≤ k) : mIn c s (k + 1) = mIn c s k + (if c k = true then 1 else 0) := by
  show mIn c s k + (if s ≤ k ∧ c k = true then 1 else 0) = _
  by_cases q : c k = true
  · rw [if_pos ⟨h, q⟩, if_pos q]
  · rw [if_neg (fun z => q z.2), if_neg q]
theorem mIn_le (c : Nat → Bool) (s : Nat) : ∀ k, mIn c s k ≤ k
  | 0 => Nat.le_refl _
  | k + 1 => by
    have := mIn_le c s k
    show mIn c s k + (if s ≤ k ∧ c k = true then 1 else 0) ≤ k + 1
    split <;> omega
def mTo (c : Nat → Nat → Bool) (s : Nat → Nat) (n : Nat) : Nat → Nat
  | 0 => 0
  | i + 1 => mTo c s n i + mIn (c i) (s i) n
/-- from which edge on one counts -/
def mSt (l1 l2 : Int32) (i : Nat) : Nat := if l1 = l2 then i + 2 else 0
def meV (l1 l2 l3 : Int32) (a b : WY) : Nat := mTo (fun i k => meE l3 a i b k) (mSt l1 l2) (wn b - 1) (wn a - 1)
def meeA (k : Nat) (W : Nat → WY) (l1 l2 l3 : Int32) : Int32 × Int32 :=
  if frb l3 0 1 = true then (if (isWb k l1 && isWb k l2) = true then (jI (meV l1 l2 l3 (W l1.toNatClampNeg) (W l2.toNatClampNeg) : Int), 0) else (-1, 2)) else (-1, 1)
theorem w64_90_s {M : MM} {t u i s x : Nat} {l1 l2 l3 : Int32} {a b : WY} {K : Nat → Int32 → Int32 → Int32 → Option Nat → Option Nat → Int32 → Int32 → MM → Prop} {P : Int32 → MM → Prop} (hL : Lay M) (ht : isT t = true) (hu : isT u = true) (hA : TrC M t a) (hB : TrC M u b) (ga : gW a) (gb : gW b) (hi : i + 1 < wn a) (hs : s < 20) (hK : K 0 l1 l2 l3 (some t) (some u) (jI ((x + mIn (fun k => meE l3 a i b k) s (wn b - 1) : Nat) : Int)) (jI ((i + 1 : Nat) : Int)) M) : ∀ (q k : Nat), wn b ≤ k + 1 + q → s ≤ k → (k ≤ wn b - 1 ∨ k = s) → w64_90 K (q + 1) 0 l1 l2 l3 (some t) (some u) (jI ((x + mIn (fun k => meE l3 a i b k) s k : Nat) : Int)) (jI (i : Int)) (jI (k : Int)) M P := by
  have n2 := gb.2.1
  have ei : jI (i : Int) + 1 = jI ((i + 1 : Nat) : Int) := by rw [show (1 : Int32) = jI 1 from rfl, jI_add, c_s1]
  have fin : ∀ k, wn b ≤ k + 1 → s ≤ k → (k ≤ wn b - 1 ∨ k = s) → mIn (fun k => meE l3 a i b k) s k = mIn (fun k => meE l3 a i b k) s (wn b - 1) := fun k h1 h2 h3 => by
    rcases h3 with z | z
    · rw [show k = wn b - 1 by omega]
    · rw [mIn_0 _ s k (by omega), mIn_0 _ s (wn b - 1) (by omega)]
  intro q
  induction q with
  | zero =>
    intro k hk sk hz
    refine ⟨_, rfl, kd_T hL hu, br_t ?_ ?_⟩
    · rw [hB.1, show (1 : Int32) = jI 1 from rfl, jI_add, jI_le (by omega) (by omega) (by omega) (by omega)]; omega
    · rw [ei, fin k (by omega) sk hz]; exact hK
  | succ q ih =>
    intro k hk sk hz
    have ek : jI (k : Int) + 1 = jI ((k + 1 : Nat) : Int) := by rw [show (1 : Int32) = jI 1 from rfl, jI_add, c_s1]
    refine ⟨_, rfl, kd_T hL hu, ?_⟩
    rw [hB.1, ek, jI_le (by omega) (by omega) (by omega) (by omega)]
    refine ⟨fun y => ?_, fun y => ⟨_, rfl, kd_T hL ht, w65_s hL ht hu hA hB ga gb hi (by omega) ?_⟩⟩
    · rw [ei, fin k (by omega) sk hz]; exact hK
    have nx := ih (k + 1) (by omega) (by omega) (Or.inl (by omega))
    have ms := mIn_s (fun k => meE l3 a i b k) s k sk
    have yes : meE l3 a i b k = true → w64_134 K (fun z0 z1 z2 z3 z4 z5 z6 z7 z8 z9 => w64_90 K (q + 1) z0 z1 z2 z3 z4 z5 z6 z7 z8 z9 P) 0 l1 l2 l3 (some t) (some u) (jI ((x + mIn (fun k => meE l3 a i b k) s k : Nat) : Int)) (jI (i : Int)) (jI (k : Int)) M P := fun c => by
      unfold w64_134 w64_137
      rw [ek, show (1 : Int32) = jI 1 from rfl, jI_add, c_s1]
      rw [ms, if_pos c, ← Nat.add_assoc] at nx
      exact nx
    have nope : meE l3 a i b k = false → w64_137 K (fun z0 z1 z2 z3 z4 z5 z6 z7 z8 z9 => w64_90 K (q + 1) z0 z1 z2 z3 z4 z5 z6 z7 z8 z9 P) 0 l1 l2 l3 (some t) (some u) (jI ((x + mIn (fun k => meE l3 a i b k) s k : Nat) : Int)) (jI (i : Int)) (jI (k : Int)) M P := fun c => by
      unfold w64_137
      rw [ek]
      rw [ms, if_neg (by rw [c]; decide), Nat.add_zero] at nx
      exact nx
    have me : meE l3 a i b k = (crs a i b k || (decide (l3 = 0) && tch a i b k)) := rfl
    cases c1 : crs a i b k with
    | true => exact br_t (by decide) (yes (by rw [me, c1, Bool.true_or]))
    | false =>
      rw [c1, Bool.false_or] at me
      refine br_f (fun z => z rfl) ⟨fun z => nope (by rw [me, decide_eq_false z, Bool.false_and]), fun z => ⟨kd_T hL ht, w68_s hL ht hu hA hB ga gb hi (by omega) ?_⟩⟩
      rw [decide_eq_true (Classical.not_not.mp z), Bool.true_and] at me
      cases c2 : tch a i b k with
      | true => exact br_f (by decide) (yes (me.trans c2))
      | false => exact br_t rfl (nope (me.trans c2))
theorem w64_59_s {M : MM} {t u : Nat} {l1 l2 l3 : Int32} {a b : WY} {P : Int32 → MM → Prop} (hL : Lay M) (ht : isT t = true) (hu : isT u = true) (hA : TrC M t a) (hB : TrC M u b) (ga : gW a) (gb : gW b) (hP : P (jI (meV l1 l2 l3 a b : Int)) (sI M 0 10 0)) : ∀ (q i : Nat), i + q + 1 = wn a → w64_59 (q + 1) 0 l1 l2 l3 (some t) (some u) (jI (mTo (fun i k => meE l3 a i b k) (mSt l1 l2) (wn b - 1) i : Int)) (jI (i : Int)) M P := by
  have n1 := ga.2.1
  intro q
  induction q with
  | zero =>
    intro i hi
    refine ⟨_, rfl, kd_T hL ht, br_t ?_ ⟨kd_0 hL, kd_0 hL, ?_⟩⟩
    · rw [hA.1, show (1 : Int32) = jI 1 from rfl, jI_add, jI_le (by omega) (by omega) (by omega) (by omega)]; omega
    · unfold meV at hP
      rw [show wn a - 1 = i by omega] at hP; exact hP
  | succ q ih =>
    intro i hi
    have ei : jI (i : Int) + 1 = jI ((i + 1 : Nat) : Int) := by rw [show (1 : Int32) = jI 1 from rfl, jI_add, c_s1]
    have go : ∀ s : Nat, s = mSt l1 l2 i → s < 20 → w64_84 (fun z0 z1 z2 z3 z4 z5 z6 z7 z8 => w64_59 (q + 1) z0 z1 z2 z3 z4 z5 z6 z7 z8 P) 0 l1 l2 l3 (some t) (some u) (jI (mTo (fun i k => meE l3 a i b k) (mSt l1 l2) (wn b - 1) i : Int)) (jI (i : Int)) (jI (s : Int)) M P := fun s es hs => by
      refine ⟨wn b + 1, ?_⟩
      have := w64_90_s (K := fun z0 z1 z2 z3 z4 z5 z6 z7 z8 => w64_59 (q + 1) z0 z1 z2 z3 z4 z5 z6 z7 z8 P) (P := P) (s := s) (x := mTo (fun i k => meE l3 a i b k) (mSt l1 l2) (wn b - 1) i) (l1 := l1) (l2 := l2) (l3 := l3) hL ht hu hA hB ga gb (i := i) (by omega) hs (by rw [es]; exact ih (i + 1) (by omega)) (wn b) s (by omega) (by omega) (Or.inr rfl)
      rw [mIn_0 _ s s (by omega), Nat.add_zero] at this
      exact this
    refine ⟨_, rfl, kd_T hL ht, br_f ?_ ⟨fun z => go 0 (if_neg z).symm (by omega), fun z => ?_⟩⟩
    · rw [hA.1, ei, jI_le (by omega) (by omega) (by omega) (by omega)]; omega
    · rw [show (2 : Int32) = jI 2 from rfl, jI_add, c_s2]
      exact go (i + 2) (if_pos (Classical.not_not.mp z)).symm (by omega)
theorem w64_q {M : MM} {k : Nat} {W : Nat → WY} {l1 l2 l3 : Int32} {P : Int32 → MM → Prop} (hL : Lay M) (hW : CWs M k W) (hX : ∀ M' r st, Fr sCQ M M' → mI M' 0 10 = st → (r, st) = meeA k W l1 l2 l3 → P r M') : w64 0 l1 l2 l3 M P := by
  have hC := CWs_CW hL hW
  have k4 := hW.2.1
  unfold meeA at hX
  by_cases hf : frb l3 0 1 = true
  · rw [if_pos hf] at hX
    have hh := of_decide_eq_true hf
    have no : (isWb k l1 && isWb k l2) = false → w64_31 0 M P := fun e => by
      rw [e, if_neg (by decide)] at hX
      exact ⟨kd_0 hL, kd_0 hL, hX _ _ _ (Fr_s0 Fr_r) (gI_y ⟨rfl, rfl⟩) rfl⟩
    refine br_f hh.1 (br_t (nlt_le.mp hh.2) ⟨kd_0 hL, w40_s hC ?_⟩)
    cases c1 : isWb k l1 with
    | false => exact br_t rfl (no (by rw [c1, Bool.false_and]))
    | true =>
      refine br_f (by decide) ⟨kd_0 hL, w40_s hC ?_⟩
      cases c2 : isWb k l2 with
      | false => exact br_f (fun z => z rfl) (no (by rw [c2, Bool.and_false]))
      | true =>
        rw [c1, c2, if_pos (by decide)] at hX
        obtain ⟨w, hw, rfl⟩ := isWb_j k4 c1
        obtain ⟨o, ho, rfl⟩ := isWb_j k4 c2
        have a1 := (hW.2.2 w hw).1.1
        refine br_t (by decide) ⟨kd_0 hL, 19, rf_0_5 hL, i19 hL (by omega), kd_0 hL, 19, rf_0_5 hL, i19 hL (by omega), wn (W w) - 1 + 1, ?_⟩
        rw [jI_cn (by omega), jI_cn (by omega)] at hX ⊢
        rw [rf_19 hL (by omega), rf_19 hL (by omega)]
        exact w64_59_s hL (isT_way (by omega)) (isT_way (by omega)) (hW.2.2 w hw).2 (hW.2.2 o ho).2 (hW.2.2 w hw).1 (hW.2.2 o ho).1 (hX _ _ _ (Fr_s0 Fr_r) (gI_y ⟨rfl, rfl⟩) rfl) (wn (W w) - 1) 0 (by omega)
  · rw [if_neg hf] at hX
    have no : w64_9 0 M P := ⟨kd_0 hL, kd_0 hL, hX _ _ _ (Fr_s0 Fr_r) (gI_y ⟨rfl, rfl⟩) rfl⟩
    exact ⟨fun _ => no, fun z => ⟨fun y => absurd (decide_eq_true ⟨z, nlt_le.mpr y⟩) hf, fun _ => no⟩⟩
