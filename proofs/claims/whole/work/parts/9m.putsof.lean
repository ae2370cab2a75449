/-! CRITICALS in the reference: the loops -/
def sPr : Nat → Nat → Bool := sB 203 31 51 227 228
theorem sPc_r {x k : Nat} (h : sPr x k = false) : sPc x k = false := sB_w (by omega) (by omega) x k h
theorem sLN_r {x k : Nat} (h : sPr x k = false) : sLN x k = false := sLN_f (fun z => by rw [z.1, show sPr 203 k = sB 203 31 51 227 228 203 k from rfl, sB_t1 (by omega)] at h; cases h)
theorem sPr_Q {x k : Nat} (h : sRQ x k = false) : sPr x k = false := by
  refine sB_f (fun z => ?_) (fun z => ?_)
  · rw [z.1, sRQ_1 (by omega)] at h; cases h
  · rw [sRQ_2 (by omega)] at h; cases h
def KR (M0 : MM) (bd : Nat) (T : Int → Int → Prop) (M : MM) : Prop := Fr sPr M0 M ∧ ∃ c A B, RSq M c A B ∧ Sq c A B ∧ Rd c A B ∧ c ≤ bd ∧ ∀ n d, 0 < d → (Me c A B n d ↔ T n d)
theorem KR_w {M0 M : MM} {bd bd' : Nat} {T T' : Int → Int → Prop} (h : KR M0 bd T M) (hb : bd ≤ bd') (hT : ∀ n d, T n d ↔ T' n d) : KR M0 bd' T' M := by
  obtain ⟨h1, c, A, B, q1, q2, q3, q4, q5⟩ := h
  exact ⟨h1, c, A, B, q1, q2, q3, by omega, fun n d hd => by rw [q5 n d hd, hT]⟩
theorem KR_ln {M0 M M' : MM} {bd : Nat} {T : Int → Int → Prop} (h : KR M0 bd T M) (hF : Fr sLN M M') : KR M0 bd T M' := by
  obtain ⟨h1, c, A, B, q1, q2, q3, q4, q5⟩ := h
  refine ⟨Fr_t h1 (Fr_w hF (fun x k => sLN_r)), c, A, B, ⟨(Fr_I hF (sLN_f (by omega))).trans q1.1, fun k hk => ⟨(Fr_L hF (sLN_f (by omega))).trans (q1.2 k hk).1, (Fr_L hF (sLN_f (by omega))).trans (q1.2 k hk).2⟩⟩, q2, q3, q4, q5⟩
theorem w247_k {M0 M : MM} {n d : Int} {bd : Nat} {T : Int → Int → Prop} {P : MM → Prop} (hL0 : Lay M0) (h : KR M0 bd T M) (b5 : bd < 639) (hE : gE n d) (hX : ∀ M', KR M0 (bd + 1) (fun n' d' => T n' d' ∨ n * d' = n' * d) M' → P M') : w247 203 (jL n) (jL d) M P := by
  obtain ⟨h1, c, A, B, q1, q2, q3, q4, q5⟩ := h
  refine w247_s (h1.1 hL0) q1 q2 q3 (by omega) hE (fun M' c' A' B' a1 a2 a3 a4 a5 a6 => hX M' ⟨Fr_t h1 (Fr_w a1 (fun x k => sPc_r)), c', A', B', a2, a3, a4, by omega, fun n' d' hd' => ?_⟩)
  rw [a6, q5 n' d' hd']
theorem fr_iff {a b a' b' n d : Int} (hb : 0 < b) (hb' : 0 < b') (e : a * b' = a' * b) : a * d = n * b ↔ a' * d = n * b' := by
  constructor
  · intro h
    refine Int.eq_of_mul_eq_mul_right (Int.ne_of_gt hb) ?_
    calc a' * d * b = a' * b * d := by grind
      _ = a * b' * d := by rw [e]
      _ = a * d * b' := by grind
      _ = n * b * b' := by rw [h]
      _ = n * b' * b := by grind
  · intro h
    refine Int.eq_of_mul_eq_mul_right (Int.ne_of_gt hb') ?_
    calc a * d * b' = a * b' * d := by grind
      _ = a' * b * d := by rw [e]
      _ = a' * d * b := by grind
      _ = n * b' * b := by rw [h]
      _ = n * b * b' := by grind
theorem lr_g {L f s : Int} (hB : sdB L f s) : gE (lrA L f s) (lrB L f) := by
  unfold sdB at hB
  unfold lrA lrB
  by_cases c : 0 ≤ f ∧ f ≤ L
  · rw [if_pos c, if_pos c]; unfold gE; omega
  · rw [if_neg c, if_neg c]; unfold gE; split <;> omega
theorem lr_i {L f s n d : Int} (hB : sdB L f s) : lrA L f s * d = n * lrB L f ↔ lsA L f s * d = n * lsB L f :=
  fr_iff (lr_g hB).2.2.1 (ls_g hB).2.2.1 (ls_lr hB.1).symm
theorem w187_s {M : MM} {px py qx qy : Int} {P : Int32 → MM → Prop} (hP : P (jI ((px - qx) * (px - qx) + (py - qy) * (py - qy))) M) : w187 (jI px) (jI py) (jI qx) (jI qy) M P := by
  unfold w187
  rw [jI_sub, jI_sub, jI_mul, jI_mul, jI_add]
  exact hP
theorem w249_s {M : MM} {px py ox oy qx qy rx ry : Int} {P : MM → Prop} (hL : Lay M) (h1 : 0 ≤ px ∧ px ≤ 18) (h2 : 0 ≤ py ∧ py ≤ 18) (h1' : 0 ≤ ox ∧ ox ≤ 18) (h2' : 0 ≤ oy ∧ oy ≤ 18) (h3 : 0 ≤ qx ∧ qx ≤ 18) (h4 : 0 ≤ qy ∧ qy ≤ 18) (h5 : 0 ≤ rx ∧ rx ≤ 18) (h6 : 0 ≤ ry ∧ ry ≤ 18) {L f s f' s' : Int} (eL' : (rx - qx) * (rx - qx) + (ry - qy) * (ry - qy) = L) (ef' : (px - qx) * (rx - qx) + (py - qy) * (ry - qy) = f') (es' : (px - qx) * (px - qx) + (py - qy) * (py - qy) = s') (ef : (ox - qx) * (rx - qx) + (oy - qy) * (ry - qy) = f) (es : (ox - qx) * (ox - qx) + (oy - qy) * (oy - qy) = s) (hB' : sdB L f' s') (hB : sdB L f s) (hX : ∀ M', Fr sLN M M' → (¬ mdV f s f' s' → P M') ∧ (mdV f s f' s' → w247 203 (jL (mdA L f s f' s')) (jL ((2 * (f - f')) * (2 * (f - f')))) M' P)) : w249 203 (jI px) (jI py) (jI ox) (jI oy) (jI qx) (jI qy) (jI rx) (jI ry) M P := by
  unfold sdB at hB hB'
  refine ⟨kd_203 hL, w193_s hL h1 h2 h3 h4 h5 h6 ?_⟩
  rw [ef', eL']
  generalize (px - qx) * (ry - qy) - (py - qy) * (rx - qx) = c
  have hF1 : Fr sLN M (leM M f' c L) := Fr_sL (Fr_sL (Fr_sL Fr_r (sLN_t (by omega))) (sLN_t (by omega))) (sLN_t (by omega))
  have g1 : mL (leM M f' c L) 203 31 = jL f' := by unfold leM; rw [gL_n (by omega), gL_n (by omega), gL_y ⟨rfl, rfl⟩]
  have g3 : mL (leM M f' c L) 203 33 = jL L := by unfold leM; rw [gL_y ⟨rfl, rfl⟩]
  have hL1 := hF1.1 hL
  generalize leM M f' c L = M1 at *
  refine ⟨kd_203 hL1, w187_s ?_⟩
  rw [es']
  refine ⟨kd_203 hL1, kd_203 hL1, w193_s hL1 h1' h2' h3 h4 h5 h6 ?_⟩
  rw [ef, eL']
  generalize (ox - qx) * (ry - qy) - (oy - qy) * (rx - qx) = c'
  have hF2 : Fr sLN M (leM M1 f c' L) := Fr_sL (Fr_sL (Fr_sL hF1 (sLN_t (by omega))) (sLN_t (by omega))) (sLN_t (by omega))
  have g2 : mL (leM M1 f c' L) 203 31 = jL f := by unfold leM; rw [gL_n (by omega), gL_n (by omega), gL_y ⟨rfl, rfl⟩]
  have hL2 := hF2.1 hL
  generalize leM M1 f c' L = M2 at *
  obtain ⟨x1, x2⟩ := hX M2 hF2
  refine ⟨kd_203 hL2, w187_s ?_⟩
  rw [es, g1, g2, g3, jI_l (by omega) (by omega), jI_l (by omega) (by omega), show (2 : Int64) = jL 2 from rfl, jL_sub, jL_mul, jL_sub, jL_neg, jL_neg]
  have core : ∀ D U : Int, -5000 ≤ D → D ≤ 5000 → -5000 ≤ U → U ≤ 5000 → (0 ≤ U ∧ U ≤ D → w247 203 (jL (s' * D * D - 2 * U * f' * D + U * U * L)) (jL (D * D)) M2 P) → (¬ (0 ≤ U ∧ U ≤ D) → P M2) → w249_107 203 (jL f') (jL s') (jL L) (jL D) (jL U) M2 P := by
    intro D U d1 d2 u1 u2 hy hn
    have c2 : (lg_cmp (jL U) 0 < 0) ↔ U < 0 := by
      show lg_cmp (jL U) (jL 0) < jI 0 ↔ _
      rw [lc_lt, jL_lt (by omega) (by omega) (by omega) (by omega)]
    have c3 : (lg_cmp (jL U) (jL D) ≤ 0) ↔ U ≤ D := by
      show lg_cmp (jL U) (jL D) ≤ jI 0 ↔ _
      rw [lc_le, jL_le (by omega) (by omega) (by omega) (by omega)]
    unfold w249_107
    rw [c2, c3]
    refine ⟨fun z => hn (by omega), fun z => ⟨fun y => ⟨kd_203 hL2, ?_⟩, fun y => hn (by omega)⟩⟩
    rw [show (2 : Int64) = jL 2 from rfl, jL_mul, jL_mul, jL_mul, jL_mul, jL_mul, jL_sub, jL_mul, jL_mul, jL_add, jL_mul]
    exact hy (by omega)
  have c0 : (lg_cmp (jL (2 * (f' - f))) 0 ≠ 0) ↔ 2 * (f' - f) ≠ 0 := by
    show ¬ (lg_cmp (jL (2 * (f' - f))) (jL 0) = jI 0) ↔ _
    rw [lc_eq, jL_eq (by omega) (by omega) (by omega) (by omega)]
  have c1 : (0 ≤ lg_cmp (jL (2 * (f' - f))) 0) ↔ 0 ≤ 2 * (f' - f) := by
    show jI 0 ≤ lg_cmp (jL (2 * (f' - f))) (jL 0) ↔ _
    rw [lc_ge, jL_le (by omega) (by omega) (by omega) (by omega)]
  rw [c0, c1]
  refine ⟨fun z => ⟨fun y => core _ _ (by omega) (by omega) (by omega) (by omega) (fun w => ?_) (fun w => x1 ?_), fun y => core _ _ (by omega) (by omega) (by omega) (by omega) (fun w => ?_) (fun w => x1 ?_)⟩, fun z => x1 ?_⟩
  · have := x2 (Or.inr (by omega))
    have e : mdA L f s f' s' = s' * (2 * (f' - f)) * (2 * (f' - f)) - 2 * (s' - s) * f' * (2 * (f' - f)) + (s' - s) * (s' - s) * L := by unfold mdA; grind
    have e2 : 2 * (f - f') * (2 * (f - f')) = 2 * (f' - f) * (2 * (f' - f)) := by grind
    rw [e, e2] at this
    exact this
  · unfold mdV; omega
  · have := x2 (Or.inl (by omega))
    have e : mdA L f s f' s' = s' * -(2 * (f' - f)) * -(2 * (f' - f)) - 2 * -(s' - s) * f' * -(2 * (f' - f)) + -(s' - s) * -(s' - s) * L := by unfold mdA; grind
    have e2 : 2 * (f - f') * (2 * (f - f')) = -(2 * (f' - f)) * -(2 * (f' - f)) := by grind
    rw [e, e2] at this
    exact this
  · unfold mdV; omega
  · unfold mdV; omega
/-- a way in two arrays of the reference -/
def RP (M : MM) (x y : Nat) (a : WY) : Prop := ∀ i, i < wn a → mI M x i = jI (wx a i) ∧ mI M y i = jI (wy a i)
theorem RP_fr {M M' : MM} {x y : Nat} {a : WY} (hF : Fr sPr M M') (hx : 210 ≤ x ∧ x ≤ 213) (hy : 210 ≤ y ∧ y ≤ 213) (h : RP M x y a) : RP M' x y a := fun i hi => ⟨(Fr_I hF (sB_f (by omega) (by omega))).trans (h i hi).1, (Fr_I hF (sB_f (by omega) (by omega))).trans (h i hi).2⟩
theorem in8x {M : MM} (h : Lay M) {x k : Nat} (hx : 210 ≤ x ∧ x ≤ 213) (q : k < 8) : inb M x 11 (jI (k : Int)) := by
  have : x = 210 ∨ x = 211 ∨ x = 212 ∨ x = 213 := by omega
  rcases this with rfl | rfl | rfl | rfl
  · exact i210 h q
  · exact i211 h q
  · exact i212 h q
  · exact i213 h q
theorem w248_75_s {M0 : MM} {A B a b : WY} {x1 x2 x3 x4 r j p : Nat} {K1 : Nat → Option Nat → Option Nat → Int32 → Option Nat → Option Nat → Int32 → Int32 → MM → Prop} {K2 : Nat → Option Nat → Option Nat → Int32 → Option Nat → Option Nat → Int32 → Int32 → Int32 → MM → Prop} {P : MM → Prop} (hL0 : Lay M0) (g1 : 210 ≤ x1 ∧ x1 ≤ 213) (g2 : 210 ≤ x2 ∧ x2 ≤ 213) (g3 : 210 ≤ x3 ∧ x3 ≤ 213) (g4 : 210 ≤ x4 ∧ x4 ≤ 213) (hQ : RP M0 x1 x2 A) (hE : RP M0 x3 x4 B) (gA' : gW A) (gB' : gW B) (r14 : r < 14) (eE' : rE a b r = B) (eQ' : rQ a b r = A) (eI' : rI r = j) (hj : j + 1 < wn B) (hp : p < wn A) (hN : rN a b r = wn A) (ga : gW a) (gb : gW b)
    (hX : ∀ M', KR M0 (2 + 36 * r + trg (p + 1)) (TU a b r (p + 1) (p + 1)) M' → K2 203 (some x1) (some x2) (jI (wn A : Int)) (some x3) (some x4) (jI (wn B : Int)) (jI (j : Int)) (jI ((p + 1 : Nat) : Int)) M') :
    ∀ (q k : Nat) (M : MM), k + q = wn A → p < k → KR M0 (2 + 36 * r + trg p + (k - p)) (TU a b r p k) M → w248_75 K1 K2 (q + 1) 203 (some x1) (some x2) (jI (wn A : Int)) (some x3) (some x4) (jI (wn B : Int)) (jI (j : Int)) (jI (p : Int)) (jI (k : Int)) M P := by
  have n8 := gA'.2.1
  have m8 := gB'.2.1
  have tp := trg_le (p + 1) (by omega)
  have ts : trg (p + 1) = trg p + (8 - p) := rfl
  intro q
  induction q with
  | zero =>
    intro k M hk pk h
    refine br_t (by rw [jI_le (by omega) (by omega) (by omega) (by omega)]; omega) ?_
    rw [show jI (p : Int) + 1 = jI ((p + 1 : Nat) : Int) by rw [show (1 : Int32) = jI 1 from rfl, jI_add, c_s1]]
    exact hX M (KR_w h (by omega) (fun n d => or_congr Iff.rfl (TT_p (by omega))))
  | succ q ih =>
    intro k M hk pk h
    have hL := h.1.1 hL0
    have ej : jI (j : Int) + 1 = jI ((j + 1 : Nat) : Int) := by rw [show (1 : Int32) = jI 1 from rfl, jI_add, c_s1]
    have ek : jI (k : Int) + 1 = jI ((k + 1 : Nat) : Int) := by rw [show (1 : Int32) = jI 1 from rfl, jI_add, c_s1]
    have rq := RP_fr h.1 g1 g2 hQ
    have re := RP_fr h.1 g3 g4 hE
    unfold w248_75
    rw [ej, ek]
    refine br_f (by rw [jI_le (by omega) (by omega) (by omega) (by omega)]; omega) ⟨x1, rfl, in8x hL g1 (by omega), x2, rfl, in8x hL g2 (by omega), in8x hL g1 (by omega), in8x hL g2 (by omega), x3, rfl, in8x hL g3 (by omega), x4, rfl, in8x hL g4 (by omega), in8x hL g3 (by omega), in8x hL g4 (by omega), kd_203 hL, ?_⟩
    rw [jI_cn (by omega), jI_cn (by omega), jI_cn (by omega), jI_cn (by omega), (rq p hp).1, (rq p hp).2, (rq k (by omega)).1, (rq k (by omega)).2, (re j (by omega)).1, (re j (by omega)).2, (re (j + 1) hj).1, (re (j + 1) hj).2]
    have p0 := gA'.2.2.1 p hp
    have pk' := gA'.2.2.1 k (by omega)
    have q0 := gB'.2.2.1 j (by omega)
    have q1 := gB'.2.2.1 (j + 1) hj
    have bp := sdB_of gB' gA' hj hp
    have bk := sdB_of gB' gA' hj (show k < wn A by omega)
    have fd := eF_d gB' gA' hj hp (show k < wn A by omega)
    have v1 : ∀ n d, rV a b r p k n d ↔ (mdV (eF B j A k) (eS B j A k) (eF B j A p) (eS B j A p) ∧ mdA (eL B j) (eF B j A k) (eS B j A k) (eF B j A p) (eS B j A p) * d = n * ((2 * (eF B j A k - eF B j A p)) * (2 * (eF B j A k - eF B j A p)))) := fun n d => by
      rw [rV_1 pk, eE', eQ', eI']
    refine w249_s (L := eL B j) (f := eF B j A k) (s := eS B j A k) (f' := eF B j A p) (s' := eS B j A p) hL ⟨p0.1, p0.2.1⟩ ⟨p0.2.2.1, p0.2.2.2⟩ ⟨pk'.1, pk'.2.1⟩ ⟨pk'.2.2.1, pk'.2.2.2⟩ ⟨q0.1, q0.2.1⟩ ⟨q0.2.2.1, q0.2.2.2⟩ ⟨q1.1, q1.2.1⟩ ⟨q1.2.2.1, q1.2.2.2⟩ (by unfold eL qd; grind) (by unfold eF; grind) (by unfold eS qd; grind) (by unfold eF; grind) (by unfold eS qd; grind) bp bk (fun M1 hF1 => ⟨fun nv => ih (k + 1) M1 (by omega) (by omega) (KR_w (KR_ln h hF1) (by omega) (fun n d => ?_)), fun v => ?_⟩)
    · unfold TU
      rw [TT_s (show p ≤ k by omega) (by omega), v1]
      exact ⟨fun x => x.imp id Or.inl, fun x => x.imp id (fun y => y.elim id (fun z => absurd z.1 nv))⟩
    · refine w247_k hL0 (KR_ln h hF1) (by omega) (md_g bp fd v) (fun M' h' => ih (k + 1) M' (by omega) (by omega) (KR_w h' (by omega) (fun n d => ?_)))
      unfold TU
      rw [TT_s (show p ≤ k by omega) (by omega), v1, or_assoc]
      exact or_congr Iff.rfl (or_congr Iff.rfl ⟨fun x => ⟨v, x⟩, fun x => x.2⟩)
theorem w248_15_s {M0 : MM} {A B a b : WY} {x1 x2 x3 x4 r j : Nat} {K1 : Nat → Option Nat → Option Nat → Int32 → Option Nat → Option Nat → Int32 → Int32 → MM → Prop} {P : MM → Prop} (hL0 : Lay M0) (g1 : 210 ≤ x1 ∧ x1 ≤ 213) (g2 : 210 ≤ x2 ∧ x2 ≤ 213) (g3 : 210 ≤ x3 ∧ x3 ≤ 213) (g4 : 210 ≤ x4 ∧ x4 ≤ 213) (hQ : RP M0 x1 x2 A) (hE : RP M0 x3 x4 B) (gA' : gW A) (gB' : gW B) (r14 : r < 14) (eE' : rE a b r = B) (eQ' : rQ a b r = A) (eI' : rI r = j) (hj : j + 1 < wn B) (hN : rN a b r = wn A) (ga : gW a) (gb : gW b)
    (hX : ∀ M', KR M0 (2 + 36 * (r + 1)) (TU a b (r + 1) 0 0) M' → K1 203 (some x1) (some x2) (jI (wn A : Int)) (some x3) (some x4) (jI (wn B : Int)) (jI ((j + 1 : Nat) : Int)) M') :
    ∀ (q p : Nat) (M : MM), p + q = wn A → KR M0 (2 + 36 * r + trg p) (TU a b r p p) M → w248_15 K1 (q + 1) 203 (some x1) (some x2) (jI (wn A : Int)) (some x3) (some x4) (jI (wn B : Int)) (jI (j : Int)) (jI (p : Int)) M P := by
  have n8 := gA'.2.1
  have m8 := gB'.2.1
  intro q
  induction q with
  | zero =>
    intro p M hp h
    have tp := trg_le p (by omega)
    refine br_t (by rw [jI_le (by omega) (by omega) (by omega) (by omega)]; omega) ?_
    rw [show jI (j : Int) + 1 = jI ((j + 1 : Nat) : Int) by rw [show (1 : Int32) = jI 1 from rfl, jI_add, c_s1]]
    exact hX M (KR_w h (by omega) (fun n d => or_congr Iff.rfl (TT_r (by omega))))
  | succ q ih =>
    intro p M hp h
    have hL := h.1.1 hL0
    have tp := trg_le (p + 1) (by omega)
    have ts : trg (p + 1) = trg p + (8 - p) := rfl
    have hp' : p < wn A := by omega
    have ej : jI (j : Int) + 1 = jI ((j + 1 : Nat) : Int) := by rw [show (1 : Int32) = jI 1 from rfl, jI_add, c_s1]
    have ep : jI (p : Int) + 1 = jI ((p + 1 : Nat) : Int) := by rw [show (1 : Int32) = jI 1 from rfl, jI_add, c_s1]
    have rq := RP_fr h.1 g1 g2 hQ
    have re := RP_fr h.1 g3 g4 hE
    unfold w248_15
    rw [ej, ep]
    refine br_f (by rw [jI_le (by omega) (by omega) (by omega) (by omega)]; omega) ⟨x1, rfl, in8x hL g1 (by omega), x2, rfl, in8x hL g2 (by omega), x3, rfl, in8x hL g3 (by omega), x4, rfl, in8x hL g4 (by omega), in8x hL g3 (by omega), in8x hL g4 (by omega), kd_203 hL, ?_⟩
    rw [jI_cn (by omega), jI_cn (by omega), jI_cn (by omega), (rq p hp').1, (rq p hp').2, (re j (by omega)).1, (re j (by omega)).2, (re (j + 1) hj).1, (re (j + 1) hj).2]
    have p0 := gA'.2.2.1 p hp'
    have q0 := gB'.2.2.1 j (by omega)
    have q1 := gB'.2.2.1 (j + 1) hj
    have bp := sdB_of gB' gA' hj hp'
    refine w192_s (L := eL B j) (f := eF B j A p) (s := eS B j A p) hL ⟨p0.1, p0.2.1⟩ ⟨p0.2.2.1, p0.2.2.2⟩ ⟨q0.1, q0.2.1⟩ ⟨q0.2.2.1, q0.2.2.2⟩ ⟨q1.1, q1.2.1⟩ ⟨q1.2.2.1, q1.2.2.2⟩ (by unfold eL qd; grind) (by unfold eF; grind) (by unfold eS qd; grind) bp (fun M1 hF1 t0 t1 => ?_)
    have hL1 := hF1.1 hL
    refine ⟨kd_203 hL1, kd_203 hL1, kd_203 hL1, ?_⟩
    rw [t0, t1]
    refine w247_k hL0 (KR_ln h hF1) (by omega) (lr_g bp) (fun M2 h2 => ⟨wn A - (p + 1) + 1, ?_⟩)
    refine w248_75_s hL0 g1 g2 g3 g4 hQ hE gA' gB' r14 eE' eQ' eI' hj hp' hN ga gb (fun M'' h'' => ih (p + 1) M'' (by omega) h'') (wn A - (p + 1)) (p + 1) M2 (by omega) (by omega) (KR_w h2 (by omega) (fun n d => ?_))
    unfold TU
    rw [TT_s (Nat.le_refl p) (by omega), rV_0, eE', eQ', eI', or_assoc, lr_i bp]
theorem w248_s {M0 : MM} {A B a b : WY} {x1 x2 x3 x4 r0 : Nat} {P : MM → Prop} (hL0 : Lay M0) (g1 : 210 ≤ x1 ∧ x1 ≤ 213) (g2 : 210 ≤ x2 ∧ x2 ≤ 213) (g3 : 210 ≤ x3 ∧ x3 ≤ 213) (g4 : 210 ≤ x4 ∧ x4 ≤ 213) (hQ : RP M0 x1 x2 A) (hE : RP M0 x3 x4 B) (gA' : gW A) (gB' : gW B) (r7 : r0 ≤ 7) (eE' : ∀ j, j < 7 → rE a b (r0 + j) = B) (eQ' : ∀ j, j < 7 → rQ a b (r0 + j) = A) (eI' : ∀ j, j < 7 → rI (r0 + j) = j) (ga : gW a) (gb : gW b)
    (hX : ∀ M', KR M0 (2 + 36 * (r0 + (wn B - 1))) (TU a b (r0 + (wn B - 1)) 0 0) M' → P M') {M : MM} (h : KR M0 (2 + 36 * r0) (TU a b r0 0 0) M) : w248 203 (some x1) (some x2) (jI (wn A : Int)) (some x3) (some x4) (jI (wn B : Int)) M P := by
  have n8 := gA'.2.1
  have m8 := gB'.2.1
  have m1 := gB'.1
  have lp : ∀ (q j : Nat) (M : MM), j + q + 1 = wn B → KR M0 (2 + 36 * (r0 + j)) (TU a b (r0 + j) 0 0) M → w248_3 (q + 1) 203 (some x1) (some x2) (jI (wn A : Int)) (some x3) (some x4) (jI (wn B : Int)) (jI (j : Int)) M P := by
    intro q
    induction q with
    | zero =>
      intro j M hj h
      refine br_t (by rw [show (1 : Int32) = jI 1 from rfl, jI_add, jI_le (by omega) (by omega) (by omega) (by omega)]; omega) ?_
      rw [show j = wn B - 1 by omega] at h
      exact hX M h
    | succ q ih =>
      intro j M hj h
      have hN : rN a b (r0 + j) = wn A := by unfold rN; rw [eE' j (by omega), eQ' j (by omega), eI' j (by omega), if_pos (by omega)]
      refine br_f (by rw [show (1 : Int32) = jI 1 from rfl, jI_add, jI_le (by omega) (by omega) (by omega) (by omega)]; omega) ⟨wn A + 1, ?_⟩
      exact w248_15_s hL0 g1 g2 g3 g4 hQ hE gA' gB' (by omega) (eE' j (by omega)) (eQ' j (by omega)) (eI' j (by omega)) (by omega) hN ga gb (fun M' h' => ih (j + 1) M' (by omega) h') (wn A) 0 M (by omega) (KR_w h (by omega) (fun n d => Iff.rfl))
  exact ⟨wn B - 1 + 1, lp (wn B - 1) 0 M (by omega) h⟩
theorem TT_z {N : Nat → Nat} {V : Nat → Nat → Nat → Int → Int → Prop} {r s : Nat} {n d : Int} (hs : r ≤ s) (h : ∀ r', r ≤ r' → r' < s → N r' = 0) : TT N V r 0 0 n d ↔ TT N V s 0 0 n d := by
  constructor
  · rintro ⟨r', p', k', a1, a2, a3, a4⟩
    exact ⟨r', p', k', a1, a2, by omega, a4⟩
  · rintro ⟨r', p', k', a1, a2, a3, a4⟩
    refine ⟨r', p', k', a1, a2, ?_, a4⟩
    rcases Nat.lt_or_ge r' r with z | z
    · exact Or.inl z
    · have := h r' z (by omega)
      omega
/-- it does not matter which way is the first -/
theorem isCr_T {a b : WY} {n d : Int} : isCr a b n d ↔ isCr b a n d := by
  have half : ∀ a b : WY, isCr a b n d → isCr b a n d := by
    intro a b h
    rcases h with h | ⟨r', p', k', a1, a2, a3, a4⟩
    · left
      unfold isEn at *
      rw [qd_sym b 0, qd_sym b (wn b - 1)]
      exact h
    · right
      have r14 : r' < 14 := by omega
      by_cases c : r' < 7
      · have e1 : rE b a (r' + 7) = rE a b r' := by unfold rE; rw [if_neg (by omega), if_pos c]
        have e2 : rQ b a (r' + 7) = rQ a b r' := by unfold rQ; rw [if_neg (by omega), if_pos c]
        have e3 : rI (r' + 7) = rI r' := by unfold rI; rw [if_neg (by omega), if_pos c]; omega
        have e4 : rN b a (r' + 7) = rN a b r' := by unfold rN; rw [e1, e2, e3]
        refine ⟨r' + 7, p', k', a1, by rw [e4]; exact a2, by omega, ?_⟩
        unfold rV at *
        rw [e1, e2, e3]; exact a4
      · have e1 : rE b a (r' - 7) = rE a b r' := by unfold rE; rw [if_pos (by omega), if_neg c]
        have e2 : rQ b a (r' - 7) = rQ a b r' := by unfold rQ; rw [if_pos (by omega), if_neg c]
        have e3 : rI (r' - 7) = rI r' := by unfold rI; rw [if_pos (by omega), if_neg c]
        have e4 : rN b a (r' - 7) = rN a b r' := by unfold rN; rw [e1, e2, e3]
        refine ⟨r' - 7, p', k', a1, by rw [e4]; exact a2, by omega, ?_⟩
        unfold rV at *
        rw [e1, e2, e3]; exact a4
  exact ⟨half a b, half b a⟩
theorem w246_s {M : MM} {a b : WY} {P : MM → Prop} (hL : Lay M) (hR : RAB M a b) (ga : gW a) (gb : gW b)
    (hX : ∀ M' c A B, Fr sPr M M' → RSq M' c A B → Sq c A B → Rd c A B → c ≤ 506 → (∀ n d, 0 < d → (Me c A B n d ↔ isCr a b n d)) → P M') : w246 203 M P := by
  have a1 := ga.1
  have a2 := ga.2.1
  have b1 := gb.1
  have b2 := gb.2.1
  have hF0 : Fr sPr M (sI M 203 49 0) := Fr_sI Fr_r (sB_t1 (by omega))
  have e0 : mI (sI M 203 49 0) 203 49 = jI ((0 : Nat) : Int) := gI_y ⟨rfl, rfl⟩
  have RA : ∀ M', Fr sPr M M' → RAB M' a b := fun M' hF => RAB_fr hF (sB_f (by omega) (by omega)) (sB_f (by omega) (by omega)) (fun x k _ _ => sB_f (by omega) (by omega)) hR
  have hL0 := hF0.1 hL
  have hR0 := RA _ hF0
  have q0 := qd_b ga gb (show 0 < wn a by omega) (show 0 < wn b by omega)
  have q9 := qd_b ga gb (show wn a - 1 < wn a by omega) (show wn b - 1 < wn b by omega)
  refine ⟨kd_203 hL, kd_203 hL, ?_⟩
  generalize sI M 203 49 0 = M0 at *
  have h0 : KR M0 0 (fun _ _ => False) M0 := ⟨Fr_r, 0, fun _ => 0, fun _ => 0, ⟨e0, fun k hk => absurd hk (by omega)⟩, ⟨fun k hk => absurd hk (by omega), fun k m km hm => absurd hm (by omega)⟩, fun k hk => absurd hk (by omega), by omega, fun n d hd => ⟨fun ⟨k, hk, _⟩ => absurd hk (by omega), fun z => z.elim⟩⟩
  refine w231_s (i := 0) (j := 0) hL0 hR0 ga gb (by omega) (by omega) ⟨kd_203 hL0, ?_⟩
  rw [jI_l (by omega) (by omega)]
  refine w247_k (d := 1) hL0 h0 (by omega) ⟨by omega, by omega, by omega, by omega⟩ (fun M1 h1 => ?_)
  have hL1 := h1.1.1 hL0
  have hR1 := RA _ (Fr_t hF0 h1.1)
  refine ⟨kd_203 hL1, kd_203 hL1, kd_203 hL1, ?_⟩
  rw [hR1.1, hR1.2.1, show (1 : Int32) = jI 1 from rfl, jI_sub, jI_sub, show (wn a : Int) - 1 = ((wn a - 1 : Nat) : Int) by omega, show (wn b : Int) - 1 = ((wn b - 1 : Nat) : Int) by omega]
  refine w231_s hL1 hR1 ga gb (by omega) (by omega) ⟨kd_203 hL1, ?_⟩
  rw [jI_l (by omega) (by omega)]
  refine w247_k (d := 1) hL0 h1 (by omega) ⟨by omega, by omega, by omega, by omega⟩ (fun M2 h2 => ?_)
  have h3 : KR M0 (2 + 36 * 0) (TU b a 0 0 0) M2 := KR_w h2 (by omega) (fun n d => by
    unfold TU isEn
    rw [Int.mul_one, qd_sym b 0, qd_sym b (wn b - 1)]
    exact ⟨fun z => Or.inl (z.imp (fun z => z.elim False.elim id) id), fun z => z.elim (fun z => z.imp Or.inr id) (fun z => absurd z TT_0)⟩)
  have hL2 := h2.1.1 hL0
  have hR2 := RA _ (Fr_t hF0 h2.1)
  refine ⟨kd_203 hL2, kd_203 hL2, kd_203 hL2, kd_203 hL2, kd_203 hL2, kd_203 hL2, kd_203 hL2, ?_⟩
  rw [rf_203_23 hL2, rf_203_24 hL2, rf_203_25 hL2, rf_203_26 hL2, hR2.1, hR2.2.1]
  refine w248_s (r0 := 0) (a := b) (b := a) hL0 (by omega) (by omega) (by omega) (by omega) hR0.2.2.1 hR0.2.2.2 ga gb (by omega) (fun j hj => by unfold rE; rw [if_pos (by omega)]) (fun j hj => by unfold rQ; rw [if_pos (by omega)]) (fun j hj => by unfold rI; rw [if_pos (by omega)]; omega) gb ga (fun M3 h4 => ?_) h3
  have hL3 := h4.1.1 hL0
  have hR3 := RA _ (Fr_t hF0 h4.1)
  have h5 : KR M0 (2 + 36 * 7) (TU b a 7 0 0) M3 := KR_w h4 (by omega) (fun n d => or_congr Iff.rfl (TT_z (by omega) (fun r' x1 x2 => by
    unfold rN; rw [show rI r' = r' from if_pos x2, show rE b a r' = b from if_pos x2, if_neg (by omega)])))
  refine ⟨kd_203 hL3, kd_203 hL3, kd_203 hL3, kd_203 hL3, kd_203 hL3, kd_203 hL3, kd_203 hL3, ?_⟩
  rw [rf_203_23 hL3, rf_203_24 hL3, rf_203_25 hL3, rf_203_26 hL3, hR3.1, hR3.2.1]
  refine w248_s (r0 := 7) (a := b) (b := a) hL0 (by omega) (by omega) (by omega) (by omega) hR0.2.2.2 hR0.2.2.1 gb ga (by omega) (fun j hj => by unfold rE; rw [if_neg (by omega)]) (fun j hj => by unfold rQ; rw [if_neg (by omega)]) (fun j hj => by unfold rI; rw [if_neg (by omega)]; omega) gb ga (fun M4 h6 => ?_) h5
  obtain ⟨k1, c, A, B, k2, k3, k4, k5, k6⟩ := h6
  refine hX M4 c A B (Fr_t hF0 k1) k2 k3 k4 (by omega) (fun n d hd => ?_)
  rw [k6 n d hd, isCr_T]
  exact or_congr Iff.rfl (TT_z (by omega) (fun r' x1 x2 => by
    unfold rN; rw [show rI r' = r' - 7 from if_neg (by omega), show rE b a r' = a from if_neg (by omega), if_neg (by omega)]))
