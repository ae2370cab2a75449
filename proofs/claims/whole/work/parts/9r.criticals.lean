/-! ===== criticals, critical: both sides ===== -/
def isAl (a b : WY) (c : Nat) (A B : Nat → Int) : Prop := Sq c A B ∧ (∀ n d, 0 < d → (Me c A B n d ↔ isCr a b n d)) ∧ c ≤ 506
theorem isAl_u {a b : WY} {c c' : Nat} {A B A' B' : Nat → Int} (h : isAl a b c A B) (h' : isAl a b c' A' B') : c = c' ∧ ∀ k, k < c → A k * B' k = A' k * B k :=
  Sq_u h.1 h'.1 (fun n d hd => (h.2.1 n d hd).trans (h'.2.1 n d hd).symm)
theorem Sq_i {c k m : Nat} {A B : Nat → Int} (h : Sq c A B) (hk : k < c) (hm : m < c) (e : A k * B m = A m * B k) : k = m := by
  rcases Nat.lt_trichotomy k m with z | z | z
  · have := h.2 k m z hm; omega
  · exact z
  · have := h.2 m k z hk; omega
theorem eq_x {a b c d e f : Int} (hb : 0 < b) (hd : 0 < d) (hf : 0 < f) (h1 : a * d = c * b) (h2 : c * f = e * d) : a * f = e * b := by
  refine Int.eq_of_mul_eq_mul_right (Int.ne_of_gt hd) ?_
  calc a * f * d = a * d * f := by grind
    _ = c * b * f := by rw [h1]
    _ = c * f * b := by grind
    _ = e * d * b := by rw [h2]
    _ = e * b * d := by grind
theorem isBw_u {kind : Int32} {a b : WY} {n d n' d' : Int} {m m' : Nat} (h : isSh kind a b n d) (h' : isSh kind a b n' d') (q : isBw a b n d m) (q' : isBw a b n' d' m') : m = m' := by
  obtain ⟨c, A, B, s, e, c5, hm, x⟩ := q
  obtain ⟨c', A', B', s', e', c5', hm', x'⟩ := q'
  obtain ⟨rfl, u⟩ := isAl_u (c := c) (c' := c') ⟨s, e, c5⟩ ⟨s', e', c5'⟩
  have um := u m' hm'
  have b1 := (s.1 m hm).2.2.1
  have b2 := (s'.1 m' hm').2.2.1
  have b3 := (s.1 m' hm').2.2.1
  have d1 := h.1.2.2.1
  have d2 := h'.1.2.2.1
  refine Sq_i s hm hm' ?_
  -- A m / B m = n / d = n' / d' = A' m' / B' m' = A m' / B m'
  have y1 : A m * d' = n' * B m := eq_x b1 d1 d2 x (isSh_u h h')
  have y2 : A m * B' m' = A' m' * B m := eq_x b1 d2 b2 y1 x'.symm
  exact eq_x b1 b2 b3 y2 um.symm
theorem w113_s {M : MM} {k w o : Nat} {W : Nat → WY} {P : Option Nat → MM → Prop} (hL : Lay M) (hW : CWs M k W) (hw : w < k) (ho : o < k) (hX : ∀ M' c A B, Fr sMat M M' → CSq M' c A B → isAl (W w) (W o) c A B → P (some 181) M') : w113 0 (jI (w : Int)) (jI (o : Int)) M P := by
  have k4 := hW.2.1
  have ga := (hW.2.2 w hw).1
  have gb := (hW.2.2 o ho).1
  refine ⟨kd_0 hL, 58, rf_0_15 hL, kd_58 hL, kd_0 hL, 19, rf_0_5 hL, i19 hL (by omega), kd_0 hL, 19, rf_0_5 hL, i19 hL (by omega), 59, rf_58_0 hL, kd_59 hL, ?_⟩
  rw [jI_cn (by omega), jI_cn (by omega), rf_19 hL (by omega), rf_19 hL (by omega)]
  refine w78_s hL (isT_way (by omega)) (isT_way (by omega)) (hW.2.2 w hw).2 (hW.2.2 o ho).2 ga gb (fun M1 h1 => ?_)
  have hL1 := h1.1.1 hL
  refine ⟨kd_0 hL1, 58, rf_0_15 hL1, kd_58 hL1, kd_0 hL1, 58, rf_0_15 hL1, kd_58 hL1, 181, rf_58_2 hL1, kd_181 hL1, ?_⟩
  rw [rf_58_0 hL1]
  refine w109_s (fl := 0) (ce := 648) hL1 (Laid_LI h1) ga gb (by omega) (by omega) (by omega) (by omega) (fun M2 c A B h2 hc hS c5 hM => ?_)
  have hL2 := h2.1 hL1
  refine ⟨kd_0 hL2, 58, rf_0_15 hL2, kd_58 hL2, ?_⟩
  rw [rf_58_2 hL2]
  refine hX M2 c A B (Fr_t (Fr_w h1.1 (fun x k z => sLay_M z)) (Fr_w h2 (fun x k z => ?_))) hc ⟨hS, fun n d hd => ?_, c5⟩
  · refine sB_f (fun y => ?_) (fun y => ?_)
    · rw [show sMat x k = sB 0 1 0 58 183 x k from rfl, sB_t2 (by omega)] at z; cases z
    · rw [show sMat x k = sB 0 1 0 58 183 x k from rfl, sB_t2 (by omega)] at z; cases z
  · rw [hM n d hd]
    exact ⟨fun z => z.2.2, fun z => ⟨by have := (cr_b ga gb hd z).1; omega, (cr_b ga gb hd z).2, z⟩⟩
theorem w114_s {M : MM} {c m : Nat} {A B : Nat → Int} {n d : Int} {P : Int32 → MM → Prop} (hL : Lay M) (hc : CSq M c A B) (hS : Sq c A B) (c5 : c ≤ 506) (hE : gE n d) (hm : m < c) (em : A m * d = n * B m) (f0 : mL M 55 0 = jL n) (f1 : mL M 55 1 = jL d) (hP : P (jI (m : Int)) M) : w114 181 (some 55) M P := by
  have lp : ∀ (q k : Nat), k + q = m → w114_2 (q + 1) 181 (some 55) (jI (k : Int)) M P := by
    intro q
    have step : ∀ (N k : Nat), k < c → (A k * d < n * B k → w114_2 N 181 (some 55) (jI ((k + 1 : Nat) : Int)) M P) → (¬ A k * d < n * B k → P (jI (k : Int)) M) → w114_2 (N + 1) 181 (some 55) (jI (k : Int)) M P := by
      intro N k hk h1 h2
      obtain ⟨r1, r2⟩ := hc.2 k hk
      have b1 := pr_b (hS.1 k hk) hE
      have b2 := pr_b hE (hS.1 k hk)
      unfold w114_2
      rw [show jI (k : Int) + 1 = jI ((k + 1 : Nat) : Int) by rw [show (1 : Int32) = jI 1 from rfl, jI_add, c_s1]]
      refine ⟨kd_181 hL, br_f (by rw [hc.1, jI_le (by omega) (by omega) (by omega) (by omega)]; omega) ⟨kd_181 hL, 182, rf_181_0 hL, i182 hL (by omega), 55, rfl, kd_55 hL, kd_55 hL, kd_181 hL, 183, rf_181_1 hL, i183 hL (by omega), ?_⟩⟩
      rw [jI_cn (by omega), r1, r2, f0, f1, jL_mul, jL_mul]
      show (jI 0 ≤ lg_cmp (jL (A k * d)) (jL (n * B k)) → _) ∧ (¬ (jI 0 ≤ lg_cmp (jL (A k * d)) (jL (n * B k))) → _)
      rw [lc_ge, jL_le (by omega) (by omega) (by omega) (by omega)]
      exact ⟨fun z => h2 (by omega), fun z => h1 (by omega)⟩
    induction q with
    | zero =>
      intro k hk
      have : k = m := by omega
      subst this
      exact step 0 k hm (fun z => absurd z (by omega)) (fun _ => hP)
    | succ q ih =>
      intro k hk
      have l := hS.2 k m (by omega) hm
      have bk := (hS.1 k (by omega)).2.2.1
      have bm := (hS.1 m hm).2.2.1
      have lt : A k * d < n * B k := by
        have := Int.mul_lt_mul_of_pos_right l hE.2.2.1
        rw [show A m * B k * d = A m * d * B k by grind, em, show A k * B m * d = A k * d * B m by grind, show n * B m * B k = n * B k * B m by grind] at this
        exact Int.lt_of_mul_lt_mul_right this (Int.le_of_lt bm)
      exact step (q + 1) k (by omega) (fun _ => ih (k + 1) (by omega)) (fun z => absurd lt z)
  exact ⟨m + 1, lp m 0 (by omega)⟩
def crC (k : Nat) (l1 l2 l3 : Int32) : Int32 := if frb l3 (-1) 1 = true then chk2 k l1 l2 else 1
def criR (k : Nat) (W : Nat → WY) (l1 l2 l3 r st : Int32) : Prop :=
  if crC k l1 l2 l3 = 0 then (st = 0 ∧ if l3 = -1 then ∃ c A B, isAl (W l1.toNatClampNeg) (W l2.toNatClampNeg) c A B ∧ r = jI (c : Int) else ∃ n d m, isSh l3 (W l1.toNatClampNeg) (W l2.toNatClampNeg) n d ∧ isBw (W l1.toNatClampNeg) (W l2.toNatClampNeg) n d m ∧ r = jI (m : Int)) else (r = -1 ∧ st = crC k l1 l2 l3)
theorem criR_u {k : Nat} {W : Nat → WY} {l1 l2 l3 r st r' st' : Int32} (h : criR k W l1 l2 l3 r st) (h' : criR k W l1 l2 l3 r' st') : r = r' ∧ st = st' := by
  unfold criR at h h'
  by_cases c : crC k l1 l2 l3 = 0
  · rw [if_pos c] at h h'
    refine ⟨?_, h.1.trans h'.1.symm⟩
    replace h := h.2
    replace h' := h'.2
    by_cases e : l3 = -1
    · rw [if_pos e] at h h'
      obtain ⟨c, A, B, x, y⟩ := h
      obtain ⟨c', A', B', x', y'⟩ := h'
      rw [y, y', (isAl_u x x').1]
    · rw [if_neg e] at h h'
      obtain ⟨n, d, m, x, y, z⟩ := h
      obtain ⟨n', d', m', x', y', z'⟩ := h'
      rw [z, z', isBw_u x x' y y']
  · rw [if_neg c] at h h'
    exact ⟨h.1.trans h'.1.symm, h.2.trans h'.2.symm⟩
theorem frb_3 {l3 : Int32} : frb l3 (-1) 1 = true ↔ (l3 = -1 ∨ l3 = 0 ∨ l3 = 1) := by
  obtain ⟨z, rfl, z1, z2⟩ := jI_of l3
  rw [show (-1 : Int32) = jI (-1) from rfl, show (1 : Int32) = jI 1 from rfl, show (0 : Int32) = jI 0 from rfl, frb_i z1 z2 (by omega) (by omega) (by omega) (by omega), decide_eq_true_eq, jI_eq (by omega) (by omega) (by omega) (by omega), jI_eq (by omega) (by omega) (by omega) (by omega), jI_eq (by omega) (by omega) (by omega) (by omega)]
  omega
theorem w112_q {M : MM} {k : Nat} {W : Nat → WY} {l1 l2 l3 : Int32} {P : Int32 → MM → Prop} (hL : Lay M) (hW : CWs M k W) (hX : ∀ M' r st, Fr sCQ M M' → mI M' 0 10 = st → criR k W l1 l2 l3 r st → P r M') : w112 0 l1 l2 l3 M P := by
  have hC := CWs_CW hL hW
  have k4 := hW.2.1
  have core : ∀ b : Bool, (b = true ↔ frb l3 (-1) 1 = true) → w112_21 0 l1 l2 l3 (some 0) (some 0) (bI b) M P := by
    intro b hb
    have e : (if b = true then chk2 k l1 l2 else 1) = crC k l1 l2 l3 := by
      unfold crC
      by_cases z : b = true
      · rw [if_pos z, if_pos (hb.mp z)]
      · rw [if_neg z, if_neg (fun y => z (hb.mpr y))]
    refine ⟨0, rfl, kd_0 hL, w62_s hC ?_⟩
    rw [e]
    have h1 : Fr sCQ M (sI M 0 10 (crC k l1 l2 l3)) := Fr_s0 Fr_r
    have g1 : mI (sI M 0 10 (crC k l1 l2 l3)) 0 10 = crC k l1 l2 l3 := gI_y ⟨rfl, rfl⟩
    refine ⟨0, rfl, kd_0 hL, kd_0 hL, ?_⟩
    rw [g1]
    by_cases c : crC k l1 l2 l3 = 0
    · replace hX : ∀ M' r st, Fr sCQ M M' → mI M' 0 10 = st → (st = 0 ∧ if l3 = -1 then ∃ c A B, isAl (W l1.toNatClampNeg) (W l2.toNatClampNeg) c A B ∧ r = jI (c : Int) else ∃ n d m, isSh l3 (W l1.toNatClampNeg) (W l2.toNatClampNeg) n d ∧ isBw (W l1.toNatClampNeg) (W l2.toNatClampNeg) n d m ∧ r = jI (m : Int)) → P r M' := fun M' r st x y w => hX M' r st x y (by unfold criR; rw [if_pos c]; exact w)
      have hf : frb l3 (-1) 1 = true := by
        unfold crC at c
        by_cases z : frb l3 (-1) 1 = true
        · exact z
        · rw [if_neg z] at c; exact absurd c (by decide)
      have c2 : chk2 k l1 l2 = 0 := by unfold crC at c; rw [if_pos hf] at c; exact c
      obtain ⟨w, o, rfl, rfl, hw, ho, hne⟩ := chk2_0 k4 c2
      rw [jI_cn (by omega), jI_cn (by omega)] at hX
      have hL1 := h1.1 hL
      have hW1 := CWs_Q h1 hW
      refine br_t c ?_
      generalize sI M 0 10 (crC k (jI (w : Int)) (jI (o : Int)) l3) = M1 at *
      have ga := (hW.2.2 w hw).1
      have gb := (hW.2.2 o ho).1
      refine ⟨fun ne => ?_, fun ne => ?_⟩
      · have hk : l3 = 0 ∨ l3 = 1 ∨ l3 = 2 := by
          rcases frb_3.mp hf with z | z | z
          · exact absurd z ne
          · exact Or.inl z
          · exact Or.inr (Or.inl z)
        refine ⟨kd_0 hL1, kd_0 hL1, 19, rf_0_5 hL1, i19 hL1 (by omega), kd_0 hL1, 19, rf_0_5 hL1, i19 hL1 (by omega), kd_0 hL1, 58, rf_0_15 hL1, kd_58 hL1, ?_⟩
        rw [jI_cn (by omega), jI_cn (by omega), rf_19 hL1 (by omega), rf_19 hL1 (by omega), rf_0_12 hL1]
        refine w106_s hL1 (isT_way (by omega)) (isT_way (by omega)) (hW1.2.2 w hw).2 (hW1.2.2 o ho).2 ga gb hk (fun M2 n d h2 hs f0 f1 => ?_)
        have hL2 := h2.1 hL1
        have hF2 : Fr sCQ M1 M2 := Fr_w h2 (fun x k z => by
          refine sB_f (fun y => ?_) (fun y => ?_)
          · rw [show sCQ x k = sB 0 10 10 55 190 x k from rfl, sB_t2 (by omega)] at z; cases z
          · rw [show sCQ x k = sB 0 10 10 55 190 x k from rfl, sB_t2 (by omega)] at z; cases z)
        refine ⟨kd_0 hL2, w113_s hL2 (CWs_Q hF2 hW1) hw ho (fun M3 c A B h3 hc hA => ?_)⟩
        have hL3 := h3.1 hL2
        have y0 : mL M3 55 0 = jL n := (Fr_L h3 (sB_f (by omega) (by omega))).trans f0
        have y1 : mL M3 55 1 = jL d := (Fr_L h3 (sB_f (by omega) (by omega))).trans f1
        refine ⟨kd_0 hL3, 181, rfl, kd_181 hL3, ?_⟩
        rw [rf_0_12 hL3]
        have hs' := hs
        unfold isSh at hs'
        have n2 : ¬ l3 = 2 := by
          rcases frb_3.mp hf with z | z | z <;> rw [z] <;> decide
        rw [if_neg n2] at hs'
        obtain ⟨m, hm, em⟩ := (hA.2.1 n d hs.1.2.2.1).mpr hs'.2.1
        refine w114_s hL3 hc hA.1 hA.2.2 hs.1 hm em y0 y1 ⟨kd_0 hL3, kd_0 hL3, hX _ _ _ (Fr_s0 (Fr_t h1 (Fr_t hF2 (Fr_w h3 (fun x k z => sMat_Q z))))) (gI_y ⟨rfl, rfl⟩) ⟨rfl, ?_⟩⟩
        rw [if_neg ne]
        exact ⟨n, d, m, hs, ⟨c, A, B, hA.1, hA.2.1, hA.2.2, hm, em⟩, rfl⟩
      · refine ⟨kd_0 hL1, w113_s hL1 hW1 hw ho (fun M3 c A B h3 hc hA => ?_)⟩
        have hL3 := h3.1 hL1
        refine ⟨181, rfl, kd_181 hL3, kd_0 hL3, kd_0 hL3, ?_⟩
        rw [hc.1]
        refine hX _ _ _ (Fr_s0 (Fr_t h1 (Fr_w h3 (fun x k z => sMat_Q z)))) (gI_y ⟨rfl, rfl⟩) ⟨rfl, ?_⟩
        rw [if_pos (Classical.not_not.mp ne)]
        exact ⟨c, A, B, hA, rfl⟩
    · exact br_f c (hX _ _ _ h1 g1 (by unfold criR; rw [if_neg c]; exact ⟨rfl, rfl⟩))
  have yes : frb l3 (-1) 1 = true → w112_16 0 l1 l2 l3 (some 0) (some 0) M P := fun z => core true ⟨fun _ => z, fun _ => rfl⟩
  refine ⟨fun z => yes (frb_3.mpr (Or.inl z)), fun z => ⟨fun y => yes (frb_3.mpr (Or.inr (Or.inl y))), fun y => ⟨fun x => core false ⟨fun w => (by cases w), fun w => ?_⟩, fun x => yes (frb_3.mpr (Or.inr (Or.inr (Classical.not_not.mp x))))⟩⟩⟩
  rcases frb_3.mp w with v | v | v
  · exact absurd v z
  · exact absurd v y
  · exact absurd v x
theorem w250_q {M : MM} {k : Nat} {W : Nat → WY} {l1 l2 l3 : Int32} {P : Int32 → MM → Prop} (hL : Lay M) (hW : RWs M k W) (hX : ∀ M' r st, Fr sRQ M M' → mI M' 203 9 = st → criR k W l1 l2 l3 r st → P r M') : w250 203 l1 l2 l3 M P := by
  have hC := RWs_RW hL hW
  have k4 := hW.2.1
  have no : ∀ s0, s0 = crC k l1 l2 l3 → ¬ s0 ≤ 0 → w250_19 203 l1 l2 l3 s0 M P := fun s0 e h => by
    subst e
    refine br_f h ⟨kd_203 hL, kd_203 hL, hX _ _ _ (Fr_s9 Fr_r) (gI_y ⟨rfl, rfl⟩) ?_⟩
    unfold criR
    rw [if_neg (fun z => h (by rw [z]; decide))]
    exact ⟨rfl, rfl⟩
  refine w166_s ?_
  cases hf : frb l3 (-1) 1 with
  | false => exact br_f (by decide) (no 1 (by unfold crC; rw [if_neg (by rw [hf]; decide)]) (by decide))
  | true =>
    refine br_t (by decide) ⟨kd_203 hL, w202_s hC ?_⟩
    have e : crC k l1 l2 l3 = chk2 k l1 l2 := by unfold crC; rw [if_pos hf]
    by_cases c : chk2 k l1 l2 = 0
    · have c' : crC k l1 l2 l3 = 0 := e.trans c
      replace hX : ∀ M' r st, Fr sRQ M M' → mI M' 203 9 = st → (st = 0 ∧ if l3 = -1 then ∃ c A B, isAl (W l1.toNatClampNeg) (W l2.toNatClampNeg) c A B ∧ r = jI (c : Int) else ∃ n d m, isSh l3 (W l1.toNatClampNeg) (W l2.toNatClampNeg) n d ∧ isBw (W l1.toNatClampNeg) (W l2.toNatClampNeg) n d m ∧ r = jI (m : Int)) → P r M' := fun M' r st x y w => hX M' r st x y (by unfold criR; rw [if_pos c']; exact w)
      refine br_t (by rw [c]; decide) ?_
      obtain ⟨w, o, rfl, rfl, hw, ho, hne⟩ := chk2_0 k4 c
      rw [jI_cn (by omega), jI_cn (by omega)] at hX
      have ga := (hW.2.2 w hw).1
      have gb := (hW.2.2 o ho).1
      refine ⟨kd_203 hL, w211_s hL hW hw ho (fun M1 h1 hR => ?_)⟩
      have hL1 := h1.1 hL
      refine ⟨fun ne => ?_, fun ne => ?_⟩
      · have hk : l3 = 0 ∨ l3 = 1 ∨ l3 = 2 := by
          rcases frb_3.mp hf with z | z | z
          · exact absurd z ne
          · exact Or.inl z
          · exact Or.inr (Or.inl z)
        refine ⟨kd_203 hL1, w245_s hL1 hR ga gb hk (fun M2 n d h2 hs _ _ hb => ?_)⟩
        have hL2 := h2.1 hL1
        have n2 : ¬ l3 = 2 := by
          rcases frb_3.mp hf with z | z | z <;> rw [z] <;> decide
        obtain ⟨m, hb1, hb2⟩ := hb n2
        refine ⟨kd_203 hL2, kd_203 hL2, kd_203 hL2, ?_⟩
        rw [hb2]
        refine hX _ _ _ (Fr_s9 (Fr_t (Fr_w h1 (fun x k z => sRL_Q z)) (Fr_w h2 (fun x k z => sSh_Q z)))) (gI_y ⟨rfl, rfl⟩) ⟨rfl, ?_⟩
        rw [if_neg ne]
        exact ⟨n, d, m, hs, hb1, rfl⟩
      · refine ⟨kd_203 hL1, w246_s hL1 hR ga gb (fun M2 c A B h2 hc hS hRd c5 hM => ?_)⟩
        have hL2 := h2.1 hL1
        refine ⟨kd_203 hL2, kd_203 hL2, kd_203 hL2, ?_⟩
        rw [hc.1]
        refine hX _ _ _ (Fr_s9 (Fr_t (Fr_w h1 (fun x k z => sRL_Q z)) (Fr_w h2 (fun x k z => sPr_Q z)))) (gI_y ⟨rfl, rfl⟩) ⟨rfl, ?_⟩
        rw [if_pos (Classical.not_not.mp ne)]
        exact ⟨c, A, B, ⟨hS, hM, c5⟩, rfl⟩
    · exact no _ e.symm (chk2_n c)
/-! critical -/
def ciC (k : Nat) (l1 l2 l3 : Int32) : Int32 := if l3 < 0 then 1 else chk2 k l1 l2
def ciR (k : Nat) (W : Nat → WY) (F : Int × Int) (l1 l2 l3 r st : Int32) (F' : Int × Int) : Prop :=
  if ciC k l1 l2 l3 = 0 then (∃ c A B, isAl (W l1.toNatClampNeg) (W l2.toNatClampNeg) c A B ∧ if l3 < jI (c : Int) then (r = 1 ∧ st = 0 ∧ F' = (ft (A l3.toNatClampNeg) (B l3.toNatClampNeg), fb (A l3.toNatClampNeg) (B l3.toNatClampNeg))) else (r = 0 ∧ st = 5 ∧ F' = F)) else (r = 0 ∧ st = ciC k l1 l2 l3 ∧ F' = F)
theorem ci_i {l3 : Int32} {c : Nat} (c5 : c ≤ 506) (h0 : ¬ l3 < 0) (h : l3 < jI (c : Int)) : ∃ m : Nat, m < c ∧ l3 = jI (m : Int) ∧ l3.toNatClampNeg = m := by
  obtain ⟨z, rfl, z1, z2⟩ := jI_of l3
  rw [show (0 : Int32) = jI 0 from rfl, jI_lt (by omega) (by omega) (by omega) (by omega)] at h0
  rw [jI_lt (by omega) (by omega) (by omega) (by omega)] at h
  refine ⟨z.toNat, by omega, by rw [show ((z.toNat : Nat) : Int) = z by omega], ?_⟩
  rw [jI_cl (by omega) (by omega)]
theorem ciC_0 {k : Nat} {l1 l2 l3 : Int32} (h : ciC k l1 l2 l3 = 0) : ¬ l3 < 0 ∧ chk2 k l1 l2 = 0 := by
  unfold ciC at h
  by_cases z : l3 < 0
  · rw [if_pos z] at h; exact absurd h (by decide)
  · rw [if_neg z] at h; exact ⟨z, h⟩
theorem ciR_u {k : Nat} {W : Nat → WY} {F : Int × Int} {l1 l2 l3 r st r' st' : Int32} {G G' : Int × Int} (h : ciR k W F l1 l2 l3 r st G) (h' : ciR k W F l1 l2 l3 r' st' G') : r = r' ∧ st = st' ∧ G = G' := by
  unfold ciR at h h'
  by_cases c : ciC k l1 l2 l3 = 0
  · rw [if_pos c] at h h'
    obtain ⟨c1, A, B, x, y⟩ := h
    obtain ⟨c2, A', B', x', y'⟩ := h'
    obtain ⟨rfl, u⟩ := isAl_u x x'
    by_cases z : l3 < jI (c1 : Int)
    · rw [if_pos z] at y y'
      obtain ⟨m, hm, _, em⟩ := ci_i x.2.2 (ciC_0 c).1 z
      rw [em] at y y'
      have g := x.1.1 m hm
      have g' := x'.1.1 m hm
      have e := fr_eqI g.1 g.2.2.1 g'.1 g'.2.2.1 (u m hm)
      exact ⟨y.1.trans y'.1.symm, y.2.1.trans y'.2.1.symm, by rw [y.2.2, y'.2.2, e.1, e.2]⟩
    · rw [if_neg z] at y y'
      exact ⟨y.1.trans y'.1.symm, y.2.1.trans y'.2.1.symm, y.2.2.trans y'.2.2.symm⟩
  · rw [if_neg c] at h h'
    exact ⟨h.1.trans h'.1.symm, h.2.1.trans h'.2.1.symm, h.2.2.trans h'.2.2.symm⟩
theorem w115_q {M : MM} {k : Nat} {W : Nat → WY} {F : Int × Int} {l1 l2 l3 : Int32} {P : Int32 → MM → Prop} (hL : Lay M) (hW : CWs M k W) (hF : CFr M F) (hX : ∀ M' r st F', Fr sCF M M' → mI M' 0 10 = st → CFr M' F' → ciR k W F l1 l2 l3 r st F' → P r M') : w115 0 l1 l2 l3 M P := by
  have hC := CWs_CW hL hW
  have k4 := hW.2.1
  have core : ∀ b : Bool, (b = true ↔ ¬ l3 < 0) → w115_11 0 l1 l2 l3 (some 0) (some 0) (bI b) M P := by
    intro b hb
    have e : (if b = true then chk2 k l1 l2 else 1) = ciC k l1 l2 l3 := by
      unfold ciC
      by_cases z : b = true
      · rw [if_pos z, if_neg (hb.mp z)]
      · rw [if_neg z, if_pos (Classical.byContradiction fun y => z (hb.mpr y))]
    refine ⟨0, rfl, kd_0 hL, w62_s hC ?_⟩
    rw [e]
    have h1 : Fr sCF M (sI M 0 10 (ciC k l1 l2 l3)) := Fr_s0F Fr_r
    have g1 : mI (sI M 0 10 (ciC k l1 l2 l3)) 0 10 = ciC k l1 l2 l3 := gI_y ⟨rfl, rfl⟩
    refine ⟨0, rfl, kd_0 hL, kd_0 hL, ?_⟩
    rw [g1]
    by_cases c : ciC k l1 l2 l3 = 0
    · replace hX : ∀ M' r st F', Fr sCF M M' → mI M' 0 10 = st → CFr M' F' → (∃ c A B, isAl (W l1.toNatClampNeg) (W l2.toNatClampNeg) c A B ∧ if l3 < jI (c : Int) then (r = 1 ∧ st = 0 ∧ F' = (ft (A l3.toNatClampNeg) (B l3.toNatClampNeg), fb (A l3.toNatClampNeg) (B l3.toNatClampNeg))) else (r = 0 ∧ st = 5 ∧ F' = F)) → P r M' := fun M' r st F' x y z w => hX M' r st F' x y z (by unfold ciR; rw [if_pos c]; exact w)
      obtain ⟨h0, c2⟩ := ciC_0 c
      obtain ⟨w, o, rfl, rfl, hw, ho, hne⟩ := chk2_0 k4 c2
      rw [jI_cn (by omega), jI_cn (by omega)] at hX
      have hL1 := h1.1 hL
      have hW1 := CWs_F h1 hW
      have hC1 : CFr (sI M 0 10 (ciC k (jI (w : Int)) (jI (o : Int)) l3)) F := hF
      refine br_t c ?_
      generalize sI M 0 10 (ciC k (jI (w : Int)) (jI (o : Int)) l3) = M1 at *
      refine ⟨kd_0 hL1, w113_s hL1 hW1 hw ho (fun M3 c A B h3 hc hA => ?_)⟩
      have hL3 := h3.1 hL1
      have hF3 : Fr sCF M M3 := Fr_t h1 (Fr_w h3 (fun x k z => sMat_Q (sCF_Q z)))
      have hC3 : CFr M3 F := ⟨(Fr_L h3 (sB_f (by omega) (by omega))).trans hC1.1, (Fr_L h3 (sB_f (by omega) (by omega))).trans hC1.2⟩
      refine ⟨181, rfl, kd_181 hL3, ?_⟩
      rw [hc.1]
      refine ⟨fun z => ?_, fun z => ⟨kd_0 hL3, kd_0 hL3, Or.inl rfl, hX _ _ _ F (Fr_s0F hF3) (gI_y ⟨rfl, rfl⟩) hC3 ⟨c, A, B, hA, by rw [if_neg z]; exact ⟨rfl, rfl, rfl⟩⟩⟩⟩
      obtain ⟨m, hm, em, em'⟩ := ci_i hA.2.2 h0 z
      obtain ⟨r1, r2⟩ := hc.2 m hm
      have c5 := hA.2.2
      refine ⟨kd_0 hL3, kd_181 hL3, 182, rf_181_0 hL3, by rw [em]; exact i182 hL3 (by omega), kd_181 hL3, 183, rf_181_1 hL3, by rw [em]; exact i183 hL3 (by omega), 55, rf_0_12 hL3, kd_55 hL3, kd_55 hL3, kd_55 hL3, ?_⟩
      rw [em', r1, r2]
      have hF4 : Fr sCF M (sL (sL M3 55 0 (jL (A m))) 55 1 (jL (B m))) := Fr_sL (Fr_sL hF3 (sB_t2 (by omega))) (sB_t2 (by omega))
      have hL4 := hF4.1 hL
      have f0 : mL (sL (sL M3 55 0 (jL (A m))) 55 1 (jL (B m))) 55 0 = jL (A m) := by rw [gL_n (by omega), gL_y ⟨rfl, rfl⟩]
      have f1 : mL (sL (sL M3 55 0 (jL (A m))) 55 1 (jL (B m))) 55 1 = jL (B m) := gL_y ⟨rfl, rfl⟩
      generalize sL (sL M3 55 0 (jL (A m))) 55 1 (jL (B m)) = M4 at *
      refine ⟨kd_0 hL4, kd_0 hL4, ?_⟩
      rw [rf_0_12 hL4]
      exact w55_s hL4 (Or.inl rfl) f0 f1 (gE_F (hA.1.1 m hm)) (fun M5 h5 s5 t0 t1 => ⟨Or.inr rfl, hX _ _ _ (_, _) (Fr_t hF4 h5) s5 ⟨t0, t1⟩ ⟨c, A, B, hA, by rw [if_pos z, em']; exact ⟨rfl, rfl, rfl⟩⟩⟩)
    · exact br_f c (hX _ _ _ F h1 g1 hF (by unfold ciR; rw [if_neg c]; exact ⟨rfl, rfl, rfl⟩))
  exact ⟨fun z => core false ⟨fun w => (by cases w), fun w => absurd z w⟩, fun z => core true ⟨fun _ => z, fun _ => rfl⟩⟩
theorem w251_q {M : MM} {k : Nat} {W : Nat → WY} {F : Int × Int} {l1 l2 l3 : Int32} {P : Int32 → MM → Prop} (hL : Lay M) (hW : RWs M k W) (hF : RFr M F) (hX : ∀ M' r st F', Fr sRF M M' → mI M' 203 9 = st → RFr M' F' → ciR k W F l1 l2 l3 r st F' → P r M') : w251 203 l1 l2 l3 M P := by
  have hC := RWs_RW hL hW
  have k4 := hW.2.1
  have no : ∀ s0, s0 = ciC k l1 l2 l3 → ¬ s0 ≤ 0 → w251_14 203 l1 l2 l3 s0 M P := fun s0 e h => by
    subst e
    refine br_f h ⟨kd_203 hL, kd_203 hL, Or.inl rfl, hX _ _ _ F (Fr_s9F Fr_r) (gI_y ⟨rfl, rfl⟩) hF ?_⟩
    unfold ciR
    rw [if_neg (fun z => h (by rw [z]; decide))]
    exact ⟨rfl, rfl, rfl⟩
  refine ⟨fun z => ⟨kd_203 hL, w202_s hC ?_⟩, fun z => no 1 (by unfold ciC; rw [if_pos (Int32.not_le.mp z)]) (by decide)⟩
  have h0 : ¬ l3 < 0 := Int32.not_lt.mpr z
  have e : ciC k l1 l2 l3 = chk2 k l1 l2 := by unfold ciC; rw [if_neg h0]
  by_cases c : chk2 k l1 l2 = 0
  · have c' : ciC k l1 l2 l3 = 0 := e.trans c
    replace hX : ∀ M' r st F', Fr sRF M M' → mI M' 203 9 = st → RFr M' F' → (∃ c A B, isAl (W l1.toNatClampNeg) (W l2.toNatClampNeg) c A B ∧ if l3 < jI (c : Int) then (r = 1 ∧ st = 0 ∧ F' = (ft (A l3.toNatClampNeg) (B l3.toNatClampNeg), fb (A l3.toNatClampNeg) (B l3.toNatClampNeg))) else (r = 0 ∧ st = 5 ∧ F' = F)) → P r M' := fun M' r st F' x y z w => hX M' r st F' x y z (by unfold ciR; rw [if_pos c']; exact w)
    refine br_t (by rw [c]; decide) ?_
    obtain ⟨w, o, rfl, rfl, hw, ho, hne⟩ := chk2_0 k4 c
    rw [jI_cn (by omega), jI_cn (by omega)] at hX
    have ga := (hW.2.2 w hw).1
    have gb := (hW.2.2 o ho).1
    refine ⟨kd_203 hL, w211_s hL hW hw ho (fun M1 h1 hR => ?_)⟩
    have hL1 := h1.1 hL
    refine ⟨kd_203 hL1, w246_s hL1 hR ga gb (fun M2 c A B h2 hc hS hRd c5 hM => ?_)⟩
    have hL2 := h2.1 hL1
    have hF2 : Fr sRQ M M2 := Fr_t (Fr_w h1 (fun x k z => sRL_Q z)) (Fr_w h2 (fun x k z => sPr_Q z))
    have hF2' : Fr sRF M M2 := Fr_w hF2 (fun x k z => sRF_Q z)
    have hA : isAl (W w) (W o) c A B := ⟨hS, hM, c5⟩
    refine ⟨kd_203 hL2, ?_⟩
    rw [hc.1]
    refine ⟨fun y => ⟨kd_203 hL2, kd_203 hL2, Or.inl rfl, hX _ _ _ F (Fr_s9F hF2') (gI_y ⟨rfl, rfl⟩) (RFr_Q (Fr_s9 hF2) hF) ⟨c, A, B, hA, by rw [if_neg (Int32.not_lt.mpr y)]; exact ⟨rfl, rfl, rfl⟩⟩⟩, fun y => ?_⟩
    have y' : l3 < jI (c : Int) := Int32.not_le.mp y
    obtain ⟨m, hm, em, em'⟩ := ci_i c5 h0 y'
    obtain ⟨r1, r2⟩ := hc.2 m hm
    refine ⟨kd_203 hL2, 227, rf_203_47 hL2, by rw [em]; exact i227 hL2 (by omega), kd_203 hL2, 228, rf_203_48 hL2, by rw [em]; exact i228 hL2 (by omega), kd_203 hL2, kd_203 hL2, ?_⟩
    rw [em', r1, r2]
    refine w195_s hL2 (gE_F (hS.1 m hm)) ⟨kd_203 hL2, Or.inr rfl, ?_⟩
    refine hX _ _ _ (_, _) (Fr_s9F (Fr_sL (Fr_sL hF2' (sRF_1 (by omega))) (sRF_1 (by omega)))) (gI_y ⟨rfl, rfl⟩) ⟨?_, ?_⟩ ⟨c, A, B, hA, by rw [if_pos y', em']; exact ⟨rfl, rfl, rfl⟩⟩
    · rw [gL_sI, gL_n (by omega), gL_y ⟨rfl, rfl⟩]
    · rw [gL_sI, gL_y ⟨rfl, rfl⟩]
  · exact no _ e.symm (by rw [show chk2 k l1 l2 = chk2 k l1 l2 from rfl]; exact chk2_n c)
