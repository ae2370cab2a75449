/-! ===== the reference reads a way ===== -/
theorem sRW_8 {k : Nat} : sRW 208 k = true := by unfold sRW; rw [sB_t2 (o := 203) (c := 6) (d := 6) (a := 208) (b := 208) (by omega), Bool.or_true]
theorem sRW_6 : sRW 203 6 = true := rfl
theorem RTk_c {M M' : MM} {T : Nat → Nat} {n q : Nat} (hI : ∀ k, 16 ≤ k → k ≤ 19 → mI M' 203 k = mI M 203 k) (hL : mL M' 203 22 = mL M 203 22) (h : RTk M T n q) : RTk M' T n q :=
  ⟨(hI 16 (by omega) (by omega)).trans h.1, (hI 18 (by omega) (by omega)).trans h.2.1, fun z => (hI 17 (by omega) (by omega)).trans (h.2.2.1 z), fun z => hL.trans (h.2.2.2.1 z), fun z => (hI 19 (by omega) (by omega)).trans (h.2.2.2.2 z)⟩
theorem rk_v {k j : Nat} (h : k ≤ 4) (hj : 1 ≤ j) (hj' : j ≤ 4) : (rk k = j) ↔ k + 1 = j := by
  unfold rk
  by_cases c : k = 4
  · rw [if_pos c]; omega
  · rw [if_neg c]
theorem rk_b {k : Nat} (h : k ≤ 4) : rk k ≤ 5 := by
  unfold rk
  by_cases c : k = 4
  · rw [if_pos c]; omega
  · rw [if_neg c]; omega
theorem rk_0 {k : Nat} (h : k ≤ 4) : (rk k = 0) ↔ k = 4 := by
  unfold rk
  by_cases c : k = 4
  · rw [if_pos c]; omega
  · rw [if_neg c]; omega
theorem w172_136_s {T : Nat → Nat} {n : Nat} {P : Int32 → MM → Prop} : ∀ (r : Nat) (M : MM) (q m : Nat) (s : PS), n ≤ q + r → Lay M → RBy M n T → RTk M T n q → q ≤ n → RPs M s → PIv s → s.1 = 2 → RF0 M → ¬ (tk T n q = 3 ∧ 2 ≤ wn (s.2.2.2.1 (s.2.1 - 1))) → n ≤ q + m →
    (∀ M' s' (q' m' : Nat), n ≤ q' + m' → q' ≤ n → q < q' → Fr sRW M M' → bq T n m s q = bq T n m' s' q' → RTk M' T n q' → RPs M' s' → PIv s' → s'.1 = 0 → RF0 M' → P 1 M') →
    (∀ M' (f pl : Nat) s', Fr sRW M M' → bq T n m s q = (f, pl, s') → f ≠ 0 → mI M' 203 20 = jI (f : Int) → mI M' 203 21 = jI (pl : Int) → P 0 M') → w172_136 (r + 1) 203 (jI ((17 * (s.2.1 - 1) : Nat) : Int)) M P := by
  intro r
  induction r with
  | zero =>
    intro M q m s hr hL hB hK qn hS hI h2 hZ hN hm hX1 hX0
    refine ⟨kd_203 hL, w175_s hL hB hK qn hS hI h2 hZ hN hm (fun M1 s1 q1 m1 y1 y2 y3 y4 y5 y6 y7 y8 y9 y10 y11 => ?_) (fun M1 f pl s1 y1 y2 y3 y4 y5 => br_f (by decide) (hX0 M1 f pl s1 y1 y2 y3 y4 y5))⟩
    exfalso; omega
  | succ r ih =>
    intro M q m s hr hL hB hK qn hS hI h2 hZ hN hm hX1 hX0
    refine ⟨kd_203 hL, w175_s hL hB hK qn hS hI h2 hZ hN hm (fun M1 s1 q1 m1 y1 y2 y3 y4 y5 y6 y7 y8 y9 y10 y11 => ?_) (fun M1 f pl s1 y1 y2 y3 y4 y5 => br_f (by decide) (hX0 M1 f pl s1 y1 y2 y3 y4 y5))⟩
    have hL1 := y4.1 hL
    have k4 := y8.2.1
    have k1 := y8.2.2.1 (by omega)
    have cur := (y7.2 (s1.2.1 - 1) (by omega)).1.1
    have w8 := (y8.2.2.2.2.2 (s1.2.1 - 1) (by omega)).2.1.1
    have t4 := tk_4 (T := T) (n := n) (q := q1)
    have rb := rk_b t4.1
    have n4 : ¬ (tk T n q1 = 4 ∧ s1.1 = 0) := by omega
    have y6' := y6
    obtain ⟨b16, b18, b17, b22, b19⟩ := y6
    have ev := tkV_2 (T := T) (n := n) (q := q1) y9
    have on : ¬ (tk T n q1 = 3 ∧ 2 ≤ wn (s1.2.2.2.1 (s1.2.1 - 1))) → w172_136 (r + 1) 203 (jI ((17 * (s1.2.1 - 1) : Nat) : Int)) M1 P := fun z =>
      ih M1 q1 m1 s1 (by omega) hL1 (RBy_w y4 hB) y6' y2 y7 y8 y9 y11 z y1 (fun M' s' q' m' z1 z2 z3 z4 z5 z6 z7 z8 z9 z10 => hX1 M' s' q' m' z1 z2 (by omega) (Fr_t y4 z4) (y5.trans z5) z6 z7 z8 z9 z10) (fun M' f pl s' z1 z2 z3 z4 z5 => hX0 M' f pl s' (Fr_t y4 z1) (y5.trans z2) z3 z4 z5)
    refine br_t (by decide) ⟨kd_203 hL1, 205, rf_203_1 hL1, i205 hL1 (by omega), ?_⟩
    rw [← y10, jI_cn (by omega), cur, b18, show (2 : Int32) = jI 2 from rfl, show (3 : Int32) = jI 3 from rfl, show (4 : Int32) = jI 4 from rfl, jI_lt (by omega) (by omega) (by omega) (by omega), jI_eq (by omega) (by omega) (by omega) (by omega), jI_eq (by omega) (by omega) (by omega) (by omega)]
    have r3 := rk_v (k := tk T n q1) (j := 3) t4.1 (by omega) (by omega)
    have r4 := rk_v (k := tk T n q1) (j := 4) t4.1 (by omega) (by omega)
    refine ⟨fun z => on (by omega), fun z => ⟨kd_203 hL1, fun u => on (by omega), fun u => ⟨kd_203 hL1, fun v => ⟨kd_203 hL1, ?_⟩, fun v => ⟨kd_203 hL1, ?_⟩⟩⟩⟩
    · have k3 : tk T n q1 = 3 := by omega
      have es : tkV T n q1 s1 = (0, (0, s1.2)) := by
        rw [ev, if_neg (by omega)]
        unfold st2
        rw [if_pos ⟨k3, by omega⟩]
      have pI := PIv_t (T := T) (n := n) (q := q1) y8
      rw [es] at pI
      obtain ⟨g1, g2, g3, m', g4, g5, g6, g7, g8⟩ := bq_g n4 es y1
      refine w168_s hL1 (RBy_w y4 hB) g2 (b17 (by omega)) (fun M4 f4 c4 => ⟨kd_203 (f4.1 hL1), kd_203 (f4.1 hL1), ?_⟩)
      have S4 := RPs_g y8 f4 y7
      have h6 := S4.1
      rw [if_pos (by omega)] at h6
      have Z4 := RF0_g f4 y11
      refine hX1 _ (0, s1.2) _ m' g5 g7 (by omega) (Fr_sI (Fr_t y4 (Fr_w f4 (fun x k => sRW_g))) sRW_6) (y5.trans g8) (RTk_c (fun k _ _ => gI_n (by omega)) rfl c4) ⟨?_, fun w hw => ⟨RBk_m (S4.2 w hw).1 (y8.2.2.2.2.2 w hw).2.1.1 (fun d _ => gI_n (by omega)), (S4.2 w hw).2⟩⟩ pI rfl ⟨(gI_n (by omega)).trans Z4.1, (gI_n (by omega)).trans Z4.2⟩
      show mI _ 203 6 = jI ((s1.2.1 - (if 2 ≤ 0 then 1 else 0) : Nat) : Int)
      rw [gI_y ⟨rfl, rfl⟩, h6, show (1 : Int32) = jI 1 from rfl, jI_add, if_neg (by omega)]
      exact congrArg jI (by omega)
    · have es : tkV T n q1 s1 = ((if tk T n q1 = 0 then 1 else 2 : Nat), s1) := by
        rw [ev]
        by_cases c0 : tk T n q1 = 0
        · rw [if_pos c0, if_pos c0]
        · rw [if_neg c0, if_neg c0]
          unfold st2
          rw [if_neg (by omega), if_pos (by omega)]
      have f0 : (if tk T n q1 = 0 then 1 else 2 : Nat) ≠ 0 := by
        by_cases c0 : tk T n q1 = 0
        · rw [if_pos c0]; omega
        · rw [if_neg c0]; omega
      exact w173_s (c := 2) hL1 b18 t4.1 b16 (fun M2 f2 a1 a2 => ⟨Or.inl rfl, hX0 M2 _ q1 s1 (Fr_t y4 (Fr_w f2 (fun x k => sRW_b))) (y5.trans (bq_d n4 es f0)) f0 a1 a2⟩)
/-- the names that are there already -/
theorem w172_70_s {M : MM} {T : Nat → Nat} {n q m : Nat} {s : PS} {P : Int32 → MM → Prop} (hL : Lay M) (hB : RBy M n T) (hK : RTk M T n q) (qn : q ≤ n) (hS : RPs M s) (hI : PIv s) (h1 : s.1 = 1) (hZ : RF0 M) (k1 : tk T n q = 1) (nw : wl T q (te T n q - q) ≠ [25, 1, 23]) (hm : n ≤ q + m)
    (hX1 : ∀ M' s' (q' m' : Nat), n ≤ q' + m' → q' ≤ n → q < q' → Fr sRW M M' → bq T n m s q = bq T n m' s' q' → RTk M' T n q' → RPs M' s' → PIv s' → s'.1 = 0 → RF0 M' → P 1 M')
    (hX0 : ∀ M' (f pl : Nat) s', Fr sRW M M' → bq T n m s q = (f, pl, s') → f ≠ 0 → mI M' 203 20 = jI (f : Int) → mI M' 203 21 = jI (pl : Int) → P 0 M') : ∃ n2, w172_70 n2 203 (0 : Int32) M P := by
  have k4 := hI.2.2.2.1 h1
  have n7 := hB.2.1
  have t4 := tk_4 (T := T) (n := n) (q := q)
  have n4 : ¬ (tk T n q = 4 ∧ s.1 = 0) := by omega
  have hK' := hK
  obtain ⟨b16, b18, b17, b22, b19⟩ := hK
  have ev := tkV_1 (T := T) (n := n) (q := q) h1
  have gR := tk_1 k1
  have h6 := hS.1
  rw [if_neg (by omega), Nat.sub_zero] at h6
  have e22 := b22 k1
  rw [if_neg (by omega)] at ev
  unfold st1 at ev
  rw [if_pos ⟨k1, nw⟩] at ev
  have lp : ∀ (r c : Nat), c + r = s.2.1 → (∀ u, u < c → s.2.2.1 u ≠ wl T q (te T n q - q)) → w172_70 (r + 1) 203 (jI (c : Int)) M P := by
    intro r
    induction r with
    | zero =>
      intro c e hA
      obtain rfl : c = s.2.1 := by omega
      rw [if_neg (by rw [hasN_f hA]; decide)] at ev
      have pI := PIv_t (T := T) (n := n) (q := q) hI
      rw [ev] at pI
      obtain ⟨g1, g2, g3, m', g4, g5, g6, g7, g8⟩ := bq_g n4 ev hm
      refine ⟨kd_203 hL, br_t (by rw [h6, jI_le (by omega) (by omega) (by omega) (by omega)]; omega) ⟨kd_203 hL, kd_203 hL, kd_203 hL, 208, rf_203_4 hL, by rw [h6, ← nI_j]; exact in_208 hL k4, kd_203 hL, ?_⟩⟩
      rw [h6, jI_cn (by omega), e22]
      have fa : Fr sRW M (sL M 208 s.2.1 (jL (nv 32 0 (wl T q (te T n q - q)) : Int))) := Fr_sL Fr_r sRW_8
      refine w168_s hL (RBy_w fa hB) g2 (b17 (by omega)) (fun M2 f2 c2 => ?_)
      have hL2 : Lay M2 := f2.1 hL
      have e6 : mI M2 203 6 = jI (s.2.1 : Int) := (Fr_I f2 (sGo_f (by omega))).trans h6
      refine ⟨kd_203 hL2, ?_⟩
      unfold w174
      dsimp only
      have i1 : (17 : Int32) * mI M2 203 6 = jI ((17 * s.2.1 : Nat) : Int) := by
        rw [e6, show (17 : Int32) = jI 17 from rfl, jI_mul]
        exact congrArg jI (by omega)
      rw [i1, jI_cn (by omega)]
      refine ⟨kd_203 hL2, 205, rf_203_1 hL2, i205 hL2 (by omega), n + 1, ?_⟩
      have fb : Fr sRW M (sI M2 205 (17 * s.2.1) 0) := Fr_sI (Fr_t fa (Fr_w f2 (fun x k => sRW_g))) sRW_5
      have S2 : RPs (sI M2 205 (17 * s.2.1) 0) (2, s.2.1 + 1, upL s.2.2.1 s.2.1 (wl T q (te T n q - q)), upW s.2.2.2.1 s.2.1 noW, s.2.2.2.2) := by
        refine ⟨?_, fun w hw => ?_⟩
        · show mI _ 203 6 = jI ((s.2.1 + 1 - (if 2 ≤ 2 then 1 else 0) : Nat) : Int)
          rw [gI_n (by omega), e6, if_pos (by omega), Nat.add_sub_cancel]
        · have hw' : w < s.2.1 + 1 := hw
          show RBk _ 205 (17 * w) (upW s.2.2.2.1 s.2.1 noW w) ∧ mL M2 208 w = jL (nv 32 0 (upL s.2.2.1 s.2.1 (wl T q (te T n q - q)) w) : Int)
          rw [Fr_L f2 (sGo_f (by omega))]
          unfold upW upL
          by_cases e : w = s.2.1
          · rw [if_pos e, if_pos e, gL_y ⟨rfl, e⟩]
            exact ⟨⟨by rw [gI_y ⟨rfl, by rw [e]⟩]; rfl, fun i hi => absurd (show i < 0 from hi) (by omega)⟩, rfl⟩
          · rw [if_neg e, if_neg e, gL_n (by omega)]
            have qq := hS.2 w (by omega)
            refine ⟨RBk_m qq.1 (hI.2.2.2.2.2 w (by omega)).2.1.1 (fun d hd => ?_), qq.2⟩
            rw [gI_n (by omega), Fr_I f2 (sGo_f (by omega))]; rfl
      have Z2 : RF0 (sI M2 205 (17 * s.2.1) 0) := ⟨(gI_n (by omega)).trans ((Fr_I f2 (sGo_f (by omega))).trans hZ.1), (gI_n (by omega)).trans ((Fr_I f2 (sGo_f (by omega))).trans hZ.2)⟩
      have lo := w172_136_s (T := T) (n := n) (P := P) n (sI M2 205 (17 * s.2.1) 0) (sk T n (te T n q)) m' (2, s.2.1 + 1, upL s.2.2.1 s.2.1 (wl T q (te T n q - q)), upW s.2.2.2.1 s.2.1 noW, s.2.2.2.2) (by omega) hL2 (RBy_w fb hB) (RTk_c (fun k _ _ => gI_n (by omega)) rfl c2) g7 S2 pI rfl Z2 (fun z => ?_) g5 (fun M' s' q' m2 z1 z2 z3 z4 z5 z6 z7 z8 z9 z10 => hX1 M' s' q' m2 z1 z2 (by omega) (Fr_t fb z4) (g8.trans z5) z6 z7 z8 z9 z10) (fun M' f pl s' z1 z2 z3 z4 z5 => hX0 M' f pl s' (Fr_t fb z1) (g8.trans z2) z3 z4 z5)
      · have e0 : 17 * (s.2.1 + 1 - 1) = 17 * s.2.1 := by omega
        have lo' : w172_136 (n + 1) 203 (jI ((17 * (s.2.1 + 1 - 1) : Nat) : Int)) (sI M2 205 (17 * s.2.1) 0) P := lo
        rw [e0] at lo'
        exact lo'
      · have z2 : 2 ≤ wn (upW s.2.2.2.1 s.2.1 noW (s.2.1 + 1 - 1)) := z.2
        unfold upW at z2
        rw [if_pos (by omega)] at z2
        exact absurd (show 2 ≤ 0 from z2) (by omega)
    | succ r ih =>
      intro c e hA
      have qq := hS.2 c (by omega)
      refine ⟨kd_203 hL, br_f (by rw [h6, jI_le (by omega) (by omega) (by omega) (by omega)]; omega) ⟨kd_203 hL, 208, rf_203_4 hL, by rw [← nI_j]; exact in_208 hL (by omega), kd_203 hL, ?_⟩⟩
      rw [jI_cn (by omega), qq.2, e22, show (0 : Int32) = jI 0 from rfl, ne_eq, lc_eq, nv_ir (hI.2.2.2.2.2 c (by omega)).1 gR]
      refine ⟨fun x => ?_, fun x => ⟨kd_203 hL, ?_⟩⟩
      · rw [show (1 : Int32) = jI 1 from rfl, jI_add, c_s1]
        refine ih (c + 1) (by omega) (fun u hu => ?_)
        by_cases e' : u = c
        · rw [e']; exact x
        · exact hA u (by omega)
      · rw [if_pos (hasN_t (w := c) (by omega) (Classical.not_not.mp x))] at ev
        refine w173_s (c := 4) hL b18 t4.1 b16 (fun M1 f1 a1 a2 => ⟨Or.inl rfl, ?_⟩)
        rw [if_neg (by omega)] at a1
        exact hX0 M1 4 q s (Fr_w f1 (fun x k => sRW_b)) (bq_d n4 ev (by omega)) (by omega) a1 a2
  exact ⟨s.2.1 + 1, lp s.2.1 0 (by omega) (fun u hu => by omega)⟩
/-- readWay -/
theorem w172_s {M : MM} {T : Nat → Nat} {n q m : Nat} {s : PS} {P : Int32 → MM → Prop} (hL : Lay M) (hB : RBy M n T) (hK : RTk M T n q) (qn : q ≤ n) (hS : RPs M s) (hI : PIv s) (h0 : s.1 = 0) (hZ : RF0 M) (k4 : tk T n q ≠ 4) (hm : n ≤ q + m)
    (hX1 : ∀ M' s' (q' m' : Nat), n ≤ q' + m' → q' ≤ n → q < q' → Fr sRW M M' → bq T n m s q = bq T n m' s' q' → RTk M' T n q' → RPs M' s' → PIv s' → s'.1 = 0 → RF0 M' → P 1 M')
    (hX0 : ∀ M' (f pl : Nat) s', Fr sRW M M' → bq T n m s q = (f, pl, s') → f ≠ 0 → mI M' 203 20 = jI (f : Int) → mI M' 203 21 = jI (pl : Int) → P 0 M') : w172 203 M P := by
  have c4 := hI.2.1
  have n7 := hB.2.1
  have t4 := tk_4 (T := T) (n := n) (q := q)
  have rb := rk_b t4.1
  have r2 := rk_v (k := tk T n q) (j := 2) t4.1 (by omega) (by omega)
  have n4 : ¬ (tk T n q = 4 ∧ s.1 = 0) := fun z => k4 z.1
  obtain ⟨b16, b18, b17, b22, b19⟩ := hK
  have ev := tkV_0 (T := T) (n := n) (q := q) h0
  have h6 := hS.1
  rw [if_neg (by omega), Nat.sub_zero] at h6
  have no : ¬ (tk T n q = 1 ∧ wl T q (te T n q - q) = [25, 1, 23]) → w172_19 203 M P := fun z => by
    have es : tkV T n q s = ((if tk T n q = 0 then 1 else 2 : Nat), s) := by
      rw [ev]
      by_cases c0 : tk T n q = 0
      · rw [if_pos c0, if_pos c0]
      · rw [if_neg c0, if_neg c0]
        unfold st0
        rw [if_neg z]
    have f0 : (if tk T n q = 0 then 1 else 2 : Nat) ≠ 0 := by
      by_cases c0 : tk T n q = 0
      · rw [if_pos c0]; omega
      · rw [if_neg c0]; omega
    exact ⟨kd_203 hL, w173_s (c := 2) hL b18 t4.1 b16 (fun M2 f2 a1 a2 => ⟨Or.inl rfl, hX0 M2 _ q s (Fr_w f2 (fun x k => sRW_b)) (bq_d n4 es f0) f0 a1 a2⟩)⟩
  have st : ∀ {M1 : MM} {q1 m1 : Nat} {s1 : PS}, Fr sRW M M1 → RTk M1 T n q1 → q1 ≤ n → q < q1 → RPs M1 s1 → PIv s1 → s1.1 = 1 → RF0 M1 → n ≤ q1 + m1 → bq T n m s q = bq T n m1 s1 q1 → (kd M1 203 10 ∧ (((mI M1 203 18) ≠ (2 : Int32) → (w172_62 203 M1 P)) ∧ (¬ ((mI M1 203 18) ≠ (2 : Int32)) → (kd M1 203 10 ∧ (((lg_cmp (mL M1 203 22) (23609 : Int64)) ≠ 0 → (∃ n2, w172_70 n2 203 (0 : Int32) M1 P)) ∧ (¬ ((lg_cmp (mL M1 203 22) (23609 : Int64)) ≠ 0) → (w172_62 203 M1 P))))))) := by
    intro M1 q1 m1 s1 fM kM qn1 qq1 sM iM a1 zM hm1 be
    have hL1 := fM.1 hL
    have t41 := tk_4 (T := T) (n := n) (q := q1)
    have rb1 := rk_b t41.1
    have r21 := rk_v (k := tk T n q1) (j := 2) t41.1 (by omega) (by omega)
    have n41 : ¬ (tk T n q1 = 4 ∧ s1.1 = 0) := by omega
    have kM' := kM
    obtain ⟨d16, d18, d17, d22, d19⟩ := kM
    have ev1 := tkV_1 (T := T) (n := n) (q := q1) a1
    have no1 : ¬ (tk T n q1 = 1 ∧ wl T q1 (te T n q1 - q1) ≠ [25, 1, 23]) → w172_62 203 M1 P := fun z => by
      have es : tkV T n q1 s1 = ((if tk T n q1 = 0 then 1 else 2 : Nat), s1) := by
        rw [ev1]
        by_cases c0 : tk T n q1 = 0
        · rw [if_pos c0, if_pos c0]
        · rw [if_neg c0, if_neg c0]
          unfold st1
          rw [if_neg z]
      have f0 : (if tk T n q1 = 0 then 1 else 2 : Nat) ≠ 0 := by
        by_cases c0 : tk T n q1 = 0
        · rw [if_pos c0]; omega
        · rw [if_neg c0]; omega
      exact ⟨kd_203 hL1, w173_s (c := 2) hL1 d18 t41.1 d16 (fun M2 f2 a1 a2 => ⟨Or.inl rfl, hX0 M2 _ q1 s1 (Fr_t fM (Fr_w f2 (fun x k => sRW_b))) (be.trans (bq_d n41 es f0)) f0 a1 a2⟩)⟩
    rw [d18, show (2 : Int32) = jI 2 from rfl, ne_eq, jI_eq (by omega) (by omega) (by omega) (by omega)]
    refine ⟨kd_203 hL1, fun z => no1 (by omega), fun z => ⟨kd_203 hL1, ?_⟩⟩
    have k1 : tk T n q1 = 1 := by omega
    rw [d22 k1, show (0 : Int32) = jI 0 from rfl, ne_eq, lc_eq, show (23609 : Int64) = jL (nv 32 0 [25, 1, 23] : Int) from rfl, nv_ir (tk_1 k1) gN_way]
    refine ⟨fun y => ?_, fun y => no1 (fun x => y x.2)⟩
    exact w172_70_s hL1 (RBy_w fM hB) kM' qn1 sM iM a1 zM k1 y hm1 (fun M' s' q' m2 z1 z2 z3 z4 z5 z6 z7 z8 z9 z10 => hX1 M' s' q' m2 z1 z2 (by omega) (Fr_t fM z4) (be.trans z5) z6 z7 z8 z9 z10) (fun M' f pl s' z1 z2 z3 z4 z5 => hX0 M' f pl s' (Fr_t fM z1) (be.trans z2) z3 z4 z5)
  unfold w172
  rw [b18]
  refine ⟨kd_203 hL, fun z => no (fun x => z ?_), fun z => ⟨kd_203 hL, ?_⟩⟩
  · rw [show (2 : Int32) = jI 2 from rfl, jI_eq (by omega) (by omega) (by omega) (by omega)]; omega
  rw [show (2 : Int32) = jI 2 from rfl, ne_eq, jI_eq (by omega) (by omega) (by omega) (by omega)] at z
  have k1 : tk T n q = 1 := by omega
  refine ⟨fun y => ⟨kd_203 hL, ?_⟩, fun y => no (fun x => y ?_)⟩
  · rw [b22 k1, show (0 : Int32) = jI 0 from rfl, lc_eq, show (23609 : Int64) = jL (nv 32 0 [25, 1, 23] : Int) from rfl, nv_ir (tk_1 k1) gN_way] at y
    rw [if_neg (by omega)] at ev
    unfold st0 at ev
    rw [if_pos ⟨k1, y⟩] at ev
    rw [h6]
    refine ⟨fun x => ⟨kd_203 hL, ?_⟩, fun x => ⟨kd_203 hL, ?_⟩⟩
    · rw [show (4 : Int32) = jI 4 from rfl, ne_eq, jI_eq (by omega) (by omega) (by omega) (by omega)] at x
      rw [if_pos (by omega)] at ev
      have pI := PIv_t (T := T) (n := n) (q := q) hI
      rw [ev] at pI
      obtain ⟨g1, g2, g3, m', g4, g5, g6, g7, g8⟩ := bq_g n4 ev hm
      refine w168_s hL hB g2 (b17 (by omega)) (fun M2 f2 c2 => ?_)
      have S2 := RPs_g hI f2 hS
      have S2' : RPs M2 (1, s.2) := by
        refine ⟨?_, S2.2⟩
        rw [S2.1, if_neg (by omega), if_neg (show ¬ 2 ≤ 1 by omega)]
      exact st (s1 := (1, s.2)) (Fr_w f2 (fun x k => sRW_g)) c2 g7 g6 S2' pI rfl (RF0_g f2 hZ) g5 g8
    · rw [show (4 : Int32) = jI 4 from rfl, ne_eq, jI_eq (by omega) (by omega) (by omega) (by omega)] at x
      rw [if_neg (by omega)] at ev
      refine w173_s (c := 5) hL b18 t4.1 b16 (fun M1 f1 a1 a2 => ⟨Or.inl rfl, ?_⟩)
      rw [if_neg (by omega)] at a1
      exact hX0 M1 5 q s (Fr_w f1 (fun x k => sRW_b)) (bq_d n4 ev (by omega)) (by omega) a1 a2
  · rw [b22 k1, show (0 : Int32) = jI 0 from rfl, lc_eq, show (23609 : Int64) = jL (nv 32 0 [25, 1, 23] : Int) from rfl, nv_ir (tk_1 k1) gN_way]; exact x.2
