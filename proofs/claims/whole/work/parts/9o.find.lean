/-! ===== findShortest in the class, laysShortest in the reference ===== -/
theorem Laid_m {S : Nat → Nat → Bool} {M M' : MM} {a b : WY} (h : Fr S M M') (h1 : ∀ k, S 59 k = false) (hS : ∀ x k, 63 ≤ x → x ≤ 174 → k < 5 → S x k = false) (ga : gW a) (gb : gW b) (hD : Laid M a b) : Laid M' a b := by
  refine ⟨(Fr_I h (h1 _)).trans hD.1, (Fr_I h (h1 _)).trans hD.2.1, fun r p hp hr => ?_⟩
  have n8 := rN_le (r := r) ga gb
  have f : ∀ k, k < 5 → mL M' (63 + (r * 8 + p)) k = mL M (63 + (r * 8 + p)) k := fun k hk => Fr_L h (hS _ _ (by omega) (by omega) hk)
  obtain ⟨q0, q1, q2, q3, q4⟩ := hD.2.2 r p hp hr
  exact ⟨(f _ (by omega)).trans q0, (f _ (by omega)).trans q1, (f _ (by omega)).trans q2, (f _ (by omega)).trans q3, (f _ (by omega)).trans q4⟩
theorem w100_k {M : MM} {a b : WY} {n d : Int} {kind : Int32} {P : Int32 → MM → Prop} (hk : kind = 0 ∨ kind = 1) (hL : Lay M) (hM : MS M a b n d) (ga : gW a) (gb : gW b) (hX : ∀ e : Bool, (e = true ↔ Eno kind a b n d) → P (bI e) M) : w100 59 kind M P := by
  unfold Eno at hX
  rcases hk with rfl | rfl
  · refine w100_s hL hM ga gb (hX _ ?_)
    rw [if_neg (by decide), if_neg (by decide)]
  · refine w100_1 hL hM ga gb (fun e he => hX e ?_)
    rw [if_neg (by decide), if_pos rfl]; exact he
theorem row_k0 {a b : WY} {c : Nat} {A B : Nat → Int} {fl ce : Int} (ga : gW a) (gb : gW b) (hM : ∀ n d, 0 < d → (Me c A B n d ↔ (fl * d ≤ n ∧ n ≤ ce * d ∧ isCr a b n d))) (f1 : fl ≤ max (qd a 0 b 0) (qd a (wn a - 1) b (wn b - 1))) (c1 : hv a b 0 0 ≤ ce) : 0 < c := by
  have a1 := ga.1
  have b1 := gb.1
  have hz := hv_0 a b 0 0
  have h9 := hv_9 (a := a) (b := b) _ 0 0 (Nat.le_refl _) (by omega) (by omega)
  obtain ⟨e, he1, he2⟩ : ∃ e : Int, e = max (qd a 0 b 0) (qd a (wn a - 1) b (wn b - 1)) ∧ isCr a b e 1 := by
    rcases Int.le_total (qd a 0 b 0) (qd a (wn a - 1) b (wn b - 1)) with z | z
    · exact ⟨qd a (wn a - 1) b (wn b - 1), by omega, Or.inl (Or.inr (by omega))⟩
    · exact ⟨qd a 0 b 0, by omega, Or.inl (Or.inl (by omega))⟩
  obtain ⟨k0, hk0, ek0⟩ := (hM e 1 (by omega)).mpr ⟨by omega, by omega, he2⟩
  omega
def sFi : Nat → Nat → Bool := sB 55 0 1 58 183
theorem w106_90_s {M0 : MM} {a b : WY} {kind : Int32} {c : Nat} {A B : Nat → Int} {P : MM → Prop} (hL0 : Lay M0) (hk : kind = 0 ∨ kind = 1) (ga : gW a) (gb : gW b) (hD : Laid M0 a b) (hc : CSq M0 c A B) (hS : Sq c A B) (c5 : c ≤ 506)
    (hX : ∀ M' m, Fr sFi M0 M' → m < c → Eno kind a b (A m) (B m) → (∀ k, k < m → ¬ Eno kind a b (A k) (B k)) → mL M' 55 0 = jL (A m) → mL M' 55 1 = jL (B m) → P M') :
    ∀ (q lo hi r : Nat) (M : MM), r + q = 10 → lo ≤ hi → hi < c → hi - lo < 2 ^ q → Fr sMea M0 M → (∀ k, k < lo → ¬ Eno kind a b (A k) (B k)) → Eno kind a b (A hi) (B hi) → w106_90 (q + 1) 58 kind (some 55) (jI (lo : Int)) (jI (hi : Int)) (jI (r : Int)) M P := by
  have cq : ∀ M, Fr sMea M0 M → CSq M c A B := fun M h => ⟨(Fr_I h (sMea_f (by omega))).trans hc.1, fun k hk => ⟨(Fr_L h (sMea_f (by omega))).trans (hc.2 k hk).1, (Fr_L h (sMea_f (by omega))).trans (hc.2 k hk).2⟩⟩
  have fin : ∀ (M : MM) (m : Nat), Fr sMea M0 M → m < c → (∀ k, k < m → ¬ Eno kind a b (A k) (B k)) → Eno kind a b (A m) (B m) → w106_170 58 (some 55) (jI (m : Int)) M P := by
    intro M m h hm h1 h2
    have hL := h.1 hL0
    obtain ⟨r1, r2⟩ := (cq M h).2 m hm
    refine ⟨kd_58 hL, 181, rf_58_2 hL, kd_181 hL, 182, rf_181_0 hL, i182 hL (by omega), kd_58 hL, 181, rf_58_2 hL, kd_181 hL, 183, rf_181_1 hL, i183 hL (by omega), 55, rfl, kd_55 hL, kd_55 hL, kd_55 hL, ?_⟩
    rw [jI_cn (by omega), r1, r2]
    refine hX _ m (Fr_sL (Fr_sL (Fr_w h (fun x k z => ?_)) (sB_t1 (by omega))) (sB_t1 (by omega))) hm h2 h1 (by rw [gL_n (by omega), gL_y ⟨rfl, rfl⟩]) (gL_y ⟨rfl, rfl⟩)
    refine sMea_f ?_
    by_cases y : 63 ≤ x ∧ x ≤ 174
    · rw [show sFi x k = sB 55 0 1 58 183 x k from rfl, sB_t2 (by omega)] at z; cases z
    · omega
  intro q
  induction q with
  | zero =>
    intro lo hi r M hr hl hh hd h h1 h2
    rw [Nat.pow_zero] at hd
    have : lo = hi := by omega
    subst this
    exact br_t (by rw [show (10 : Int32) = jI 10 from rfl, jI_le (by omega) (by omega) (by omega) (by omega)]; omega) (fin M lo h hh h1 h2)
  | succ q ih =>
    intro lo hi r M hr hl hh hd h h1 h2
    rw [Nat.pow_succ] at hd
    have hL := h.1 hL0
    refine br_f (by rw [show (10 : Int32) = jI 10 from rfl, jI_le (by omega) (by omega) (by omega) (by omega)]; omega) ?_
    rw [jI_le (by omega) (by omega) (by omega) (by omega)]
    refine ⟨fun x => ?_, fun x => ⟨by decide, kd_58 hL, kd_58 hL, 181, rf_58_2 hL, kd_181 hL, 182, rf_181_0 hL, ?_⟩⟩
    · have : lo = hi := by omega
      subst this
      exact fin M lo h hh h1 h2
    have eh : (jI (lo : Int) + jI (hi : Int)) / 2 = jI (((lo + hi) / 2 : Nat) : Int) := by
      rw [show (2 : Int32) = jI 2 from rfl, jI_add, jI_div (by omega) (by omega) (by omega) (by omega)]; congr 1
    have er : jI (r : Int) + 1 = jI ((r + 1 : Nat) : Int) := by rw [show (1 : Int32) = jI 1 from rfl, jI_add, c_s1]
    rw [eh]
    generalize hm : (lo + hi) / 2 = m at *
    have e1 : jI (m : Int) + 1 = jI ((m + 1 : Nat) : Int) := by rw [show (1 : Int32) = jI 1 from rfl, jI_add, c_s1]
    obtain ⟨r1, r2⟩ := (cq M h).2 m (by omega)
    refine ⟨i182 hL (by omega), kd_58 hL, 181, rf_58_2 hL, kd_181 hL, 183, rf_181_1 hL, i183 hL (by omega), 59, rf_58_0 hL, kd_59 hL, ?_⟩
    rw [jI_cn (by omega), r1, r2]
    have hD' := Laid_m h (fun k => sMea_f (by omega)) (fun x k _ _ z => sMea_f (by omega)) ga gb hD
    refine w80_s hL hD' ga gb (hS.1 m (by omega)) (fun M6 h6 => ?_)
    have hF6 := Fr_t h h6.1
    have hL6 := hF6.1 hL0
    refine ⟨kd_58 hL6, 59, rf_58_0 hL6, kd_59 hL6, w100_k hk hL6 (MS_of hD' h6) ga gb (fun e he => ?_)⟩
    unfold w106_164
    rw [er, e1]
    cases e with
    | false =>
      refine br_t rfl (ih (m + 1) hi (r + 1) M6 (by omega) ?_ hh (by omega) hF6 (fun k hk' hE => ?_) h2)
      · omega
      · have nE : ¬ Eno kind a b (A m) (B m) := fun z => by have := he.mpr z; cases this
        rcases Nat.lt_or_ge k m with z | z
        · exact nE (Eno_mono hk ga gb (hS.1 k (by omega)).2.2.1 (hS.1 m (by omega)).2.2.1 (Int.le_of_lt (hS.2 k m z (by omega))) hE)
        · have : k = m := by omega
          subst this; exact nE hE
    | true => exact br_f (by decide) (ih lo m (r + 1) M6 (by omega) (by omega) (by omega) (by omega) hF6 h1 (he.mp rfl))
theorem w106_s {M : MM} {t u : Nat} {a b : WY} {kind : Int32} {P : MM → Prop} (hL : Lay M) (ht : isT t = true) (hu : isT u = true) (hA : TrC M t a) (hB : TrC M u b) (ga : gW a) (gb : gW b) (hk : kind = 0 ∨ kind = 1 ∨ kind = 2) (hX : ∀ M' n d, Fr sFi M M' → isSh kind a b n d → mL M' 55 0 = jL n → mL M' 55 1 = jL d → P M') : w106 58 (some t) (some u) kind (some 55) M P := by
  have a1 := ga.1
  have b1 := gb.1
  have ot := isT_out ht
  have ou := isT_out hu
  have jp : ∀ x k, sFi x k = false → sJp x k = false := fun x k z => by
    refine sB_f (fun y => ?_) (fun y => ?_)
    · rw [show sFi x k = sB 55 0 1 58 183 x k from rfl, sB_t2 (by omega)] at z; cases z
    · rw [show sFi x k = sB 55 0 1 58 183 x k from rfl, sB_t2 (by omega)] at z; cases z
  refine ⟨kd_58 hL, 175, rf_58_1 hL, kd_175 hL, w96_s hL ht hu (by omega) (by omega) hA hB ga gb (fun M2 h2 => ?_)⟩
  have hL2 := h2.1.1 hL
  have hF2 : Fr sFi M M2 := Fr_w h2.1 jp
  have hz := hv_z ga gb (show 0 < wn a by omega) (show 0 < wn b by omega)
  have v177 : mI M2 177 (8 * 0 + 0) = jI (hv a b 0 0) := (h2.2.2.2 0 0 (by omega) (by omega) (by omega)).2
  by_cases c2 : kind = 2
  · refine br_f (fun z => z c2) ⟨kd_58 hL2, 175, rf_58_1 hL2, kd_175 hL2, w99_s hL2 ga gb h2 ⟨55, rfl, kd_55 hL2, kd_55 hL2, kd_55 hL2, ?_⟩⟩
    rw [jI_l (by omega) (by omega)]
    refine hX _ (hv a b 0 0) 1 (Fr_sL (Fr_sL hF2 (sB_t1 (by omega))) (sB_t1 (by omega))) ⟨⟨by omega, by omega, by omega, by omega⟩, ?_⟩ (by rw [gL_n (by omega), gL_y ⟨rfl, rfl⟩]) (gL_y ⟨rfl, rfl⟩)
    rw [if_pos c2]; omega
  · have hk' : kind = 0 ∨ kind = 1 := by
      rcases hk with z | z | z
      · exact Or.inl z
      · exact Or.inr z
      · exact absurd z c2
    have hA2 : TrC M2 t a := TrC_fr2 h2.1 (fun x k _ _ => sJp_f (by omega)) hA
    have hB2 : TrC M2 u b := TrC_fr2 h2.1 (fun x k _ _ => sJp_f (by omega)) hB
    refine br_t c2 ⟨kd_58 hL2, 59, rf_58_0 hL2, kd_59 hL2, w78_s hL2 ht hu hA2 hB2 ga gb (fun M4 h4 => ?_)⟩
    have hL4 := h4.1.1 hL2
    have hD4 := Laid_LI h4
    have v4 : mI M4 177 (8 * 0 + 0) = jI (hv a b 0 0) := (Fr_I h4.1 (sB_f (by omega) (by omega))).trans v177
    have hF4 : Fr sFi M M4 := Fr_t hF2 (Fr_w h4.1 (fun x k z => by
      refine sB_f (fun y => ?_) (fun y => ?_)
      · rw [show sFi x k = sB 55 0 1 58 183 x k from rfl, sB_t2 (by omega)] at z; cases z
      · rw [show sFi x k = sB 55 0 1 58 183 x k from rfl, sB_t2 (by omega)] at z; cases z))
    have q0 := qd_b ga gb (show 0 < wn a by omega) (show 0 < wn b by omega)
    have q9 := qd_b ga gb (show wn a - 1 < wn a by omega) (show wn b - 1 < wn b by omega)
    refine ⟨kd_58 hL4, kd_58 hL4, kd_58 hL4, 59, rf_58_0 hL4, kd_59 hL4, w107_s hL4 hD4 ga gb ⟨kd_58 hL4, 59, rf_58_0 hL4, kd_59 hL4, w108_s hL4 hD4 ga gb (w33_s (by omega) (by omega) (by omega) (by omega) ⟨kd_58 hL4, 175, rf_58_1 hL4, kd_175 hL4, ⟨kd_175 hL4, 177, rf_175_1 hL4, i177 (k := 0) hL4 (by omega), ?_⟩⟩)⟩⟩
    rw [show (0 : Int32).toNatClampNeg = 8 * 0 + 0 from rfl, v4]
    refine ⟨181, rf_58_2 hL4, kd_181 hL4, w109_s hL4 hD4 ga gb (by omega) (by omega) (by omega) (by omega) (fun M5 c A B h5 hc hS c5 hM => ?_)⟩
    have hL5 := h5.1 hL4
    have hD5 := Laid_fr h5 (fun x k z => sB_f (by omega) (by omega)) ga gb hD4
    have hF5 : Fr sFi M M5 := Fr_t hF4 (Fr_w h5 (fun x k z => by
      refine sB_f (fun y => ?_) (fun y => ?_)
      · rw [show sFi x k = sB 55 0 1 58 183 x k from rfl, sB_t2 (by omega)] at z; cases z
      · rw [show sFi x k = sB 55 0 1 58 183 x k from rfl, sB_t2 (by omega)] at z; cases z))
    have c0 := row_k0 ga gb hM (Int.le_refl _) (Int.le_refl _)
    have eL := row_en hk' ga gb hS hM (Int.le_refl _) (Int.le_refl _) (m := c - 1) (by omega) (fun k x _ => by omega)
    refine ⟨kd_58 hL5, 181, rf_58_2 hL5, kd_181 hL5, 11, ?_⟩
    rw [hc.1, show jI (c : Int) - 1 = jI ((c - 1 : Nat) : Int) by rw [show (1 : Int32) = jI 1 from rfl, jI_sub]; congr 1; omega]
    have e10 : (2 : Nat) ^ 10 = 1024 := by decide
    exact w106_90_s hL5 hk' ga gb hD5 hc hS c5 (fun M' m x1 x2 x3 x4 x5 x6 => hX M' _ _ (Fr_t hF5 x1) (row_sh hk' ga gb hS hM (Int.le_refl _) x2 x3 x4) x5 x6) 10 0 (c - 1) 0 M5 (by omega) (by omega) (by omega) (by omega) Fr_r (fun k hk => absurd hk (by omega)) eL
