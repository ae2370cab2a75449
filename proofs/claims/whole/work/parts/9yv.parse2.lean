/-! ===== the class reads a name, a second number, a token ===== -/
theorem w28_p {M : MM} {t : Nat} {a : WY} {p x y : Int} {P : Int32 → MM → Prop} (hL : Lay M) (ht : isT t = true) (hA : TrC M t a) (ga : hW a) (p0 : -2147483648 ≤ p) (p1 : p < 2147483648) (x0 : 0 ≤ x) (x1 : x ≤ 18) (y0 : 0 ≤ y) (y1 : y ≤ 18) (hP : P (bI (atP a p x y)) M) : w28 t (jI p) (jI x) (jI y) M P := by
  have a2 := ga.1
  have no : atP a p x y = false → w28_36 M P := fun e => ⟨Or.inl rfl, by rw [e] at hP; exact hP⟩
  unfold w28
  rw [hA.1, show (0 : Int32) = jI 0 from rfl, jI_lt (by omega) (by omega) (by omega) (by omega), jI_le (by omega) (by omega) (by omega) (by omega)]
  refine ⟨fun z => no (decide_eq_false (by omega)), fun z => ⟨kd_T hL ht, fun w => no (decide_eq_false (by omega)), fun w => ?_⟩⟩
  have q := hA.2 p.toNat (by omega)
  have b := ga.2.1 p.toNat (by omega)
  have ep : p = ((p.toNat : Nat) : Int) := by omega
  have ix : inb M (t + 1) 11 (jI p) := by rw [ep]; exact inxj hL ht (by omega)
  have iy : inb M (t + 2) 11 (jI p) := by rw [ep]; exact inyj hL ht (by omega)
  refine ⟨kd_T hL ht, t + 1, rfx_T hL ht, ix, ?_⟩
  rw [jI_cl (by omega) (by omega), q.1, ne_eq, jI_eq (by omega) (by omega) (by omega) (by omega)]
  refine ⟨fun v => no (decide_eq_false (fun u => v u.2.2.1)), fun v => ⟨kd_T hL ht, t + 2, rfy_T hL ht, iy, ?_⟩⟩
  rw [q.2, ne_eq, jI_eq (by omega) (by omega) (by omega) (by omega)]
  refine ⟨fun u => no (decide_eq_false (fun s => u s.2.2.2)), fun u => ⟨Or.inr rfl, ?_⟩⟩
  rw [show atP a p x y = true from decide_eq_true ⟨by omega, by omega, Classical.not_not.mp v, Classical.not_not.mp u⟩] at hP
  exact hP
theorem sRd_k {w x k : Nat} (hw : w < 4) (z : sRd x k = false) : sTk (7 + 3 * w) x k = false := by
  refine sB_f (fun y => ?_) (fun y => ?_)
  · rw [sRd_t (by omega)] at z; cases z
  · rw [sRd_t (by omega)] at z; cases z
theorem w27_s {M : MM} {s : PS} {kd v : Nat} {R : List Nat} {P : Int32 → MM → Prop} (hL : Lay M) (hS : CPs M s) (hI : PIv s) (h3 : s.1 = 3) (hT : CTo M kd v R) (hX : ∀ M' f s', Fr sRd M M' → (f, s') = st3 s kd v R → CPs M' s' → P (jI (f : Int)) M') : w27 2 M P := by
  unfold st3 at hX
  have k4 := hI.2.1
  have k1 := hI.2.2.1 (by omega)
  have kd4 := hT.2.1
  have x18 := hI.2.2.2.2.1 h3
  have hl := hS.2.2.2.1 (by omega)
  have tT : isT (7 + 3 * (s.2.1 - 1)) = true := isT_rd (by omega)
  have tr := hS.2.2.2.2 (s.2.1 - 1) (by omega)
  have hw := (hI.2.2.2.2.2 (s.2.1 - 1) (by omega)).2.1
  have hx := hS.2.2.1 h3
  unfold w27
  rw [hT.1, show (2 : Int32) = jI 2 from rfl, jI_eq (by omega) (by omega) (by omega) (by omega)]
  refine ⟨kd_2 hL, fun y => ⟨kd_2 hL, ?_⟩, fun y => ?_⟩
  · rw [if_neg (by omega)] at hX
    have g2 := hT.2.2.2 (by omega)
    rw [g2.2, show (0 : Int32) = jI 0 from rfl, show (18 : Int64) = jL 18 from rfl, lc_le, jL_le (by omega) (by omega) (by omega) (by omega), jL_i]
    refine ⟨fun x => ⟨kd_2 hL, kd_2 hL, kd_2 hL, 7 + 3 * (s.2.1 - 1), hl, kd_T hL tT, kd_2 hL, kd_T hL tT, ?_⟩, fun x => ?_⟩
    · rw [if_neg (by omega)] at hX
      rw [tr.1.1, hx, show (1 : Int32) = jI 1 from rfl, jI_sub]
      refine w28_p hL tT tr.1 hw (by omega) (by omega) (by omega) (by omega) (by omega) (by omega) ?_
      cases c : atP (s.2.2.2.1 (s.2.1 - 1)) ((wn (s.2.2.2.1 (s.2.1 - 1)) : Int) - 1) s.2.2.2.2 v with
      | true =>
        rw [c, if_pos rfl] at hX
        exact br_f (by decide) (hX M 6 s Fr_r rfl hS)
      | false =>
        rw [c, if_neg (by decide)] at hX
        refine br_t rfl ⟨kd_2 hL, kd_2 hL, 7 + 3 * (s.2.1 - 1), hl, kd_T hL tT, ?_⟩
        rw [hx]
        have tr' : TrC M (7 + 3 * (s.2.1 - 1)) (wn (s.2.2.2.1 (s.2.1 - 1)), (ptW (s.2.2.2.1 (s.2.1 - 1)) s.2.2.2.2 v).2.1, (ptW (s.2.2.2.1 (s.2.1 - 1)) s.2.2.2.2 v).2.2) := TrC_c tr.1 ⟨rfl, fun i hi => ⟨(if_neg (by omega)).symm, (if_neg (by omega)).symm⟩⟩
        have ex : jI (s.2.2.2.2 : Int) = jI ((ptW (s.2.2.2.1 (s.2.1 - 1)) s.2.2.2.2 v).2.1 (wn (s.2.2.2.1 (s.2.1 - 1)))) := congrArg jI (if_pos rfl).symm
        have ey : jI (v : Int) = jI ((ptW (s.2.2.2.1 (s.2.1 - 1)) s.2.2.2.2 v).2.2 (wn (s.2.2.2.1 (s.2.1 - 1)))) := congrArg jI (if_pos rfl).symm
        rw [ex, ey]
        refine w29_s hL tT tr' x18.1 (fun M1 f1 t1 n1 => ⟨kd_2 (f1.1 hL), ?_⟩)
        refine hX _ 0 _ (Fr_sI (Fr_w f1 (fun x k => sRd_k (by omega))) (sRd_1 (by omega))) rfl ⟨gI_y ⟨rfl, rfl⟩, ?_, fun z => absurd (show 2 = 3 from z) (by omega), fun _ => ?_, fun w hw' => ?_⟩
        · rw [gI_n (by omega)]; exact (Fr_I f1 (sB_f (by omega) (by omega))).trans hS.2.1
        · exact ((f1.2 2 2 (sB_f (by omega) (by omega))).2.2).trans hl
        · have hw2 : w < s.2.1 := hw'
          have q := hS.2.2.2.2 w hw2
          show TrC _ (7 + 3 * w) (upW s.2.2.2.1 (s.2.1 - 1) _ w) ∧ _
          unfold upW
          by_cases e : w = s.2.1 - 1
          · rw [if_pos e, e]
            refine ⟨TrC_fr2 (S := sB 2 3 3 1 0) (Fr_sI Fr_r (sB_t1 (by omega))) (fun x k y1 y2 => sB_f (by omega) (by omega)) t1, ?_⟩
            rw [e] at q
            exact n1.trans q.2
          · rw [if_neg e]
            exact ⟨TrC_fr2 (S := sB 2 3 3 1 0) (Fr_sI Fr_r (sB_t1 (by omega))) (fun x k y1 y2 => sB_f (by omega) (by omega)) (TrC_k f1 (by unfold aprt; omega) q.1), (Fr_L f1 (sB_f (by omega) (by omega))).trans q.2⟩
    · rw [if_pos (by omega)] at hX
      exact hX M 3 s Fr_r rfl hS
  · rw [if_pos (by omega)] at hX
    exact hX M 2 s Fr_r rfl hS
theorem hasN_f {Nm : Nat → List Nat} {k : Nat} {R : List Nat} (h : ∀ u, u < k → Nm u ≠ R) : hasN Nm k R = false := by
  refine Bool.eq_false_iff.mpr (fun e => ?_)
  obtain ⟨w, h1, h2⟩ := List.any_eq_true.mp e
  exact h w (List.mem_range.mp h1) (of_decide_eq_true h2)
theorem hasN_t {Nm : Nat → List Nat} {k w : Nat} {R : List Nat} (h : w < k) (e : Nm w = R) : hasN Nm k R = true := List.any_eq_true.mpr ⟨w, List.mem_range.mpr h, decide_eq_true e⟩
theorem w24_s {M : MM} {s : PS} {kd v : Nat} {R : List Nat} {P : Int32 → MM → Prop} (hL : Lay M) (hS : CPs M s) (hI : PIv s) (h1 : s.1 = 1) (hT : CTo M kd v R) (hX : ∀ M' f s', Fr sRd M M' → (f, s') = st1 s kd v R → CPs M' s' → P (jI (f : Int)) M') : w24 2 M P := by
  unfold st1 at hX
  have k4 := hI.2.2.2.1 h1
  have kd4 := hT.2.1
  have no : ¬ (kd = 1 ∧ R ≠ [25, 1, 23]) → w24_19 M P := fun z => by
    rw [if_neg z] at hX
    exact hX M 2 s Fr_r rfl hS
  unfold w24
  rw [hT.1, show (1 : Int32) = jI 1 from rfl, ne_eq, jI_eq (by omega) (by omega) (by omega) (by omega)]
  refine ⟨kd_2 hL, fun z => no (by omega), fun z => ⟨kd_2 hL, ?_⟩⟩
  have g1 := hT.2.2.1 (by omega)
  rw [g1.2, show (0 : Int32) = jI 0 from rfl, ne_eq, lc_eq, show (7823737 : Int64) = jL (nv 256 96 [25, 1, 23] : Int) from rfl, nv_ic g1.1 gN_way]
  refine ⟨fun y => ⟨s.2.1 + 1, ?_⟩, fun y => no (fun x => y x.2)⟩
  rw [if_pos ⟨by omega, y⟩] at hX
  have lp : ∀ (m w : Nat), w + m = s.2.1 → (∀ u, u < w → s.2.2.1 u ≠ R) → w24_23 (m + 1) 2 (jI (w : Int)) M P := by
    intro m
    induction m with
    | zero =>
      intro w e hA
      obtain rfl : w = s.2.1 := by omega
      have tT : isT (7 + 3 * s.2.1) = true := isT_rd k4
      rw [if_neg (by rw [hasN_f hA]; decide)] at hX
      refine ⟨kd_2 hL, br_t (by rw [hS.2.1, jI_le (by omega) (by omega) (by omega) (by omega)]; omega) ⟨kd_2 hL, kd_2 hL, 3, rf_2_0 hL, by rw [hS.2.1, ← nI_j]; exact in_3 hL k4, kd_2 hL, ?_⟩⟩
      rw [hS.2.1, jI_cn (by omega), rf_3 hL k4]
      have hL1 : Lay (sR M 2 2 (some (7 + 3 * s.2.1))) := lay_sR hL rfl
      refine ⟨kd_2 hL1, kd_2 hL1, 7 + 3 * s.2.1, gR_y ⟨rfl, rfl⟩, kd_T hL1 tT, ?_⟩
      rw [gL_sR, g1.2]
      refine w25_s (f := fun _ => 0) (g := fun _ => 0) hL1 tT (fun M1 f1 t1 n1 => ?_)
      have hL2 := f1.1 hL1
      have e1 : mI M1 2 1 = jI (s.2.1 : Int) := (Fr_I f1 (sB_f (by omega) (by omega))).trans hS.2.1
      refine ⟨kd_2 hL2, kd_2 hL2, kd_2 hL2, ?_⟩
      rw [e1, show (1 : Int32) = jI 1 from rfl, jI_add, c_s1]
      have f0 : Fr sRd M (sR M 2 2 (some (7 + 3 * s.2.1))) := Fr_sR Fr_r (sRd_1 (by omega)) rfl
      refine hX _ 0 _ (Fr_sI (Fr_sI (Fr_t f0 (Fr_w f1 (fun x k => sRd_k k4))) (sRd_1 (by omega))) (sRd_1 (by omega))) rfl ⟨gI_y ⟨rfl, rfl⟩, by rw [gI_n (by omega), gI_y ⟨rfl, rfl⟩], fun z => absurd (show 2 = 3 from z) (by omega), fun _ => ?_, fun u hu => ?_⟩
      · exact ((f1.2 2 2 (sB_f (by omega) (by omega))).2.2).trans (gR_y ⟨rfl, rfl⟩)
      · have hu' : u < s.2.1 + 1 := hu
        show TrC _ (7 + 3 * u) (upW s.2.2.2.1 s.2.1 noW u) ∧ _ = jL (nv 256 96 (upL s.2.2.1 s.2.1 R u) : Int)
        unfold upW upL
        by_cases c : u = s.2.1
        · rw [if_pos c, if_pos c, c]
          exact ⟨TrC_fr2 (S := sB 2 1 3 1 0) (Fr_sI (Fr_sI Fr_r (sB_t1 (by omega))) (sB_t1 (by omega))) (fun x k y1 y2 => sB_f (by omega) (by omega)) t1, n1⟩
        · rw [if_neg c, if_neg c]
          have q := hS.2.2.2.2 u (by omega)
          exact ⟨TrC_fr2 (S := sB 2 1 3 1 0) (Fr_sI (Fr_sI Fr_r (sB_t1 (by omega))) (sB_t1 (by omega))) (fun x k y1 y2 => sB_f (by omega) (by omega)) (TrC_k f1 (by unfold aprt; omega) q.1), (Fr_L f1 (sB_f (by omega) (by omega))).trans q.2⟩
    | succ m ih =>
      intro w e hA
      have q := hS.2.2.2.2 w (by omega)
      have gw := (hI.2.2.2.2.2 w (by omega)).1
      have tT : isT (7 + 3 * w) = true := isT_rd (by omega)
      refine ⟨kd_2 hL, br_f (by rw [hS.2.1, jI_le (by omega) (by omega) (by omega) (by omega)]; omega) ⟨kd_2 hL, 3, rf_2_0 hL, by rw [← nI_j]; exact in_3 hL (by omega), 7 + 3 * w, by rw [jI_cn (by omega)]; exact rf_3 hL (by omega), kd_T hL tT, kd_2 hL, ?_⟩⟩
      rw [q.2, g1.2, show (0 : Int32) = jI 0 from rfl, ne_eq, lc_eq, nv_ic gw g1.1, show (1 : Int32) = jI 1 from rfl, jI_add, c_s1]
      refine ⟨fun x => ih (w + 1) (by omega) (fun u hu => ?_), fun x => ?_⟩
      · by_cases c : u = w
        · rw [c]; exact x
        · exact hA u (by omega)
      · rw [if_pos (hasN_t (w := w) (by omega) (Classical.not_not.mp x))] at hX
        exact hX M 4 s Fr_r rfl hS
  exact lp s.2.1 0 (by omega) (fun u hu => by omega)
theorem w22_s {M : MM} {s : PS} {kd v : Nat} {R : List Nat} {P : Int32 → MM → Prop} (hL : Lay M) (hS : CPs M s) (hI : PIv s) (hT : CTo M kd v R) (hX : ∀ M' f s', Fr sRd M M' → (f, s') = stT s kd v R → CPs M' s' → P (jI (f : Int)) M') : w22 2 M P := by
  have kd4 := hT.2.1
  have a3 := hI.1
  unfold stT at hX
  unfold w22
  rw [hT.1, hS.1, show (0 : Int32) = jI 0 from rfl, show (1 : Int32) = jI 1 from rfl, show (2 : Int32) = jI 2 from rfl, ne_eq, ne_eq, ne_eq, ne_eq, jI_eq (by omega) (by omega) (by omega) (by omega), jI_eq (by omega) (by omega) (by omega) (by omega), jI_eq (by omega) (by omega) (by omega) (by omega), jI_eq (by omega) (by omega) (by omega) (by omega)]
  refine ⟨kd_2 hL, fun z => ⟨kd_2 hL, fun y => ⟨kd_2 hL, fun x => ⟨kd_2 hL, fun u => ⟨kd_2 hL, ?_⟩, fun u => ⟨kd_2 hL, ?_⟩⟩, fun x => ⟨kd_2 hL, ?_⟩⟩, fun y => ⟨kd_2 hL, ?_⟩⟩, fun z => ?_⟩
  · rw [if_neg (by omega), if_neg (by omega), if_neg (by omega), if_neg (by omega)] at hX
    exact w27_s hL hS hI (by omega) hT hX
  · rw [if_neg (by omega), if_neg (by omega), if_neg (by omega), if_pos (by omega)] at hX
    exact w26_s hL hS hI (by omega) hT hX
  · rw [if_neg (by omega), if_neg (by omega), if_pos (by omega)] at hX
    exact w24_s hL hS hI (by omega) hT hX
  · rw [if_neg (by omega), if_pos (by omega)] at hX
    exact w23_s hL hS hI hT hX
  · rw [if_pos (by omega)] at hX
    exact hX M 1 s Fr_r rfl hS
