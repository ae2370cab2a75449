/-! ===== undo, drop, move in the class ===== -/
theorem w158_s {M : MM} {k q B : Nat} {S : Nat → Nat → WY} {O : Nat → Nat} {N : Nat → Int64} {P : MM → Prop} (hL : Lay M) (hC : CA M k q (B + 1) S O N) (hX : ∀ M' q', Fr sCA M M' → mI M' 20 3 = jI (B : Int) → CA M' k q' B (fun j => S (j + 1)) (fun j => O (j + 1)) N → P M') : w158 20 (some 19) M P := by
  obtain ⟨hW, hN, ⟨h1, q1, h2, a1, h3⟩, hH⟩ := hC
  have k4 := hW.2.1
  have H0 := hH 0 (by omega)
  have z0 := h3 0 (by omega)
  have tb := tkS_b (q := q) (j := 0)
  have o4 : O 0 < 4 := by have := H0.1; omega
  have g0 := (H0.2 (O 0) H0.1).1
  have g1 := g0.1
  have main : ∀ v : Int32, v = jI ((tkS q 0 : Nat) : Int) → w158_19 20 (some 19) (some 20) v M P := fun v ev => by
    subst ev
    have x3 : mI (sI M 20 2 (jI ((tkS q 0 : Nat) : Int))) 20 3 - 1 = jI (B : Int) := by
      rw [gI_n (by omega), h2, show (1 : Int32) = jI 1 from rfl, jI_sub]
      exact congrArg jI (by omega)
    refine ⟨20, rfl, kd_20 hL, kd_20 hL, kd_20 hL, kd_20 hL, kd_20 hL, 22, rf_20_1 hL, ?_⟩
    rw [x3]
    obtain ⟨M2, e2⟩ : ∃ M2, M2 = sI (sI M 20 2 (jI ((tkS q 0 : Nat) : Int))) 20 3 (jI (B : Int)) := ⟨_, rfl⟩
    have f2 : Fr (sB 20 2 3 1 0) M M2 := by rw [e2]; exact Fr_sI (Fr_sI Fr_r (sB_t1 (by omega))) (sB_t1 (by omega))
    have y2 : mI M2 20 2 = jI ((tkS q 0 : Nat) : Int) := by rw [e2, gI_n (by omega), gI_y ⟨rfl, rfl⟩]
    have y3 : mI M2 20 3 = jI (B : Int) := by rw [e2, gI_y ⟨rfl, rfl⟩]
    have hL2 := f2.1 hL
    have y4 : mI M2 22 (tkS q 0) = jI (O 0 : Int) := (Fr_I f2 (sB_f (by omega) (by omega))).trans z0.1
    rw [← e2, y2, jI_cn (by omega), y4, jI_cn (by omega)]
    refine ⟨by rw [← nI_j]; exact in_22 hL2 tb, 19, rfl, i19 hL2 o4, ?_⟩
    rw [rf_19 hL2 o4]
    unfold w158_43
    rw [y2, jI_cn (by omega)]
    refine ⟨kd_20 hL2, kd_20 hL2, 21, rf_20_0 hL2, by rw [← nI_j]; exact in_21 hL2 tb, 191 + 3 * O 0, rfl, kd_T hL2 (isT_way o4), ?_⟩
    rw [rf_21 hL2 tb]
    refine w31_s hL2 (isT_kept tb) (isT_way o4) (Or.inl (by omega)) (TrC_fr2 f2 (fun x k y1 y2 => sB_f (by omega) (by omega)) z0.2.1) (show 1 ≤ wn (S (0 + 1) (O 0)) by omega) g0.2.1 (fun M3 f3 t3 n3 => ?_)
    have fA : Fr sCA M M3 := Fr_t (Fr_w f2 (fun x k z => by have := sCA_i z; exact sB_f (by omega) (by omega))) (Fr_w f3 (fun x k z => by have := sCA_i z; exact sB_f (by omega) (by omega)))
    refine hX M3 (tkS q 0) fA ((Fr_I f3 (sB_f (by omega) (by omega))).trans y3) ⟨⟨?_, k4, fun w hw => ?_⟩, fun w hw => ?_, ⟨?_, tb, ?_, by omega, fun j hj => ?_⟩, fun j hj => hH (j + 1) (by omega)⟩
    · exact (Fr_I fA (sCA_f (by omega) (by omega) (by omega))).trans hW.1
    · show gW (S 1 w) ∧ TrC M3 (191 + 3 * w) (S 1 w)
      refine ⟨(H0.2 w hw).1, ?_⟩
      by_cases c : w = O 0
      · subst c; exact t3
      · rw [(H0.2 w hw).2 c]
        exact TrC_k f3 (by unfold aprt; omega) (TrC_fr2 f2 (fun x k y1 y2 => sB_f (by omega) (by omega)) (hW.2.2 w hw).2)
    · by_cases c : w = O 0
      · subst c; exact n3.trans ((Fr_L f2 (sB_f (by omega) (by omega))).trans z0.2.2)
      · exact ((Fr_L f3 (sB_f (by omega) (by omega))).trans (Fr_L f2 (sB_f (by omega) (by omega)))).trans (hN w hw)
    · exact (Fr_I f3 (sB_f (by omega) (by omega))).trans y2
    · exact (Fr_I f3 (sB_f (by omega) (by omega))).trans y3
    · have z := h3 (j + 1) (by omega)
      have e : tkS (tkS q 0) j = tkS q (j + 1) := by unfold tkS; omega
      have tb' := tkS_b (q := q) (j := j + 1)
      rw [e]
      exact ⟨((Fr_I f3 (sB_f (by omega) (by omega))).trans (Fr_I f2 (sB_f (by omega) (by omega)))).trans z.1, TrC_k f3 (by unfold aprt; omega) (TrC_fr2 f2 (fun x k y1 y2 => sB_f (by omega) (by omega)) z.2.1), ((Fr_L f3 (sB_f (by omega) (by omega))).trans (Fr_L f2 (sB_f (by omega) (by omega)))).trans z.2.2⟩
  unfold w158
  rw [h1, show (0 : Int32) = jI 0 from rfl, ne_eq, jI_eq (by omega) (by omega) (by omega) (by omega)]
  refine ⟨kd_20 hL, fun z => ⟨kd_20 hL, main _ ?_⟩, fun z => main _ ?_⟩
  · rw [show (1 : Int32) = jI 1 from rfl, jI_sub]
    exact congrArg jI (by unfold tkS; omega)
  · rw [show (9 : Int32) = jI 9 from rfl]
    exact congrArg jI (by unfold tkS; omega)
theorem w157_q {M : MM} {k q A : Nat} {S : Nat → Nat → WY} {O : Nat → Nat} {N : Nat → Int64} {P : Int32 → MM → Prop} (hL : Lay M) (hC : CA M k q A S O N) (hX0 : A = 0 → ∀ M', Fr sCA M M' → mI M' 0 10 = 5 → CA M' k q A S O N → P (-1) M') (hX1 : ∀ B, A = B + 1 → ∀ M' q', Fr sCA M M' → mI M' 0 10 = 0 → CA M' k q' B (fun j => S (j + 1)) (fun j => O (j + 1)) N → P (jI (B : Int)) M') : w157 0 M P := by
  have h2 := hC.2.2.1.2.2.1
  have a1 := hC.2.2.1.2.2.2.1
  refine ⟨kd_0 hL, 20, rf_0_7 hL, kd_20 hL, ?_⟩
  rw [h2, show (0 : Int32) = jI 0 from rfl, ne_eq, jI_eq (by omega) (by omega) (by omega) (by omega)]
  refine ⟨fun z => ⟨kd_0 hL, kd_0 hL, 20, rf_0_7 hL, kd_20 hL, ?_⟩, fun z => ⟨kd_0 hL, kd_0 hL, hX0 (by omega) _ FrA_0 (gI_y ⟨rfl, rfl⟩) (CA_s hC)⟩⟩
  rw [rf_0_5 hL]
  obtain ⟨B, rfl⟩ : ∃ B, A = B + 1 := ⟨A - 1, by omega⟩
  refine w158_s hL hC (fun M1 q' f1 e1 c1 => ?_)
  have hL1 := f1.1 hL
  refine ⟨kd_0 hL1, 20, rf_0_7 hL1, kd_20 hL1, kd_0 hL1, kd_0 hL1, ?_⟩
  rw [e1]
  exact hX1 B rfl _ q' (Fr_t f1 FrA_0) (gI_y ⟨rfl, rfl⟩) (CA_s c1)
/-- drop -/
def droA (k : Nat) (W : Nat → WY) (l1 l2 : Int32) : Option (Nat × WY) × Int32 × Int32 :=
  if isPb k (cnt W) l1 l2 = true then (if wn (W l1.toNatClampNeg) = 2 then (none, -1, 5) else if cL (W l1.toNatClampNeg) l2.toNatClampNeg = true then (some (l1.toNatClampNeg, lwW (W l1.toNatClampNeg) l2.toNatClampNeg), jI ((wn (W l1.toNatClampNeg) - 1 : Nat) : Int), 0) else (none, -1, 4)) else (none, -1, 2)
theorem sOw_s1 {o : Nat} {x k : Nat} (z : sOw o x k = false) : sTk (191 + 3 * o) x k = false := by
  refine sB_f (fun y => ?_) (fun y => ?_)
  · rw [sOw_1 (by omega)] at z; cases z
  · rw [sOw_1 (by omega)] at z; cases z
theorem sOw_s2 {o : Nat} {x k : Nat} (z : sOw o x k = false) : sTk 185 x k = false := by
  refine sB_f (fun y => ?_) (fun y => ?_)
  · rw [sOw_2 (by omega)] at z; cases z
  · rw [sOw_2 (by omega)] at z; cases z
theorem TrC_0 {M : MM} {t : Nat} {a : WY} {v : Int32} (h0 : 0 < t) (h : TrC M t a) : TrC (sI M 0 10 v) t a := TrC_fr2 (S := sB 0 10 10 1 0) (Fr_sI Fr_r (sB_t1 (by omega))) (fun x k y1 y2 => sB_f (by omega) (by omega)) h
theorem w155_q {M : MM} {k q A : Nat} {S : Nat → Nat → WY} {O : Nat → Nat} {N : Nat → Int64} {l1 l2 : Int32} {P : Int32 → MM → Prop} (hL : Lay M) (hC : CA M k q A S O N) (hX : ∀ M' x r st q', Fr sCA M M' → mI M' 0 10 = st → (x, r, st) = droA k (S 0) l1 l2 → CA M' k q' (acA x A) (acS x S) (acO x O) N → P r M') : w155 0 l1 l2 M P := by
  have hW := hC.1
  have k4 := hW.2.1
  have hg : ∀ w, w < k → gW (S 0 w) := fun w hw => (hW.2.2 w hw).1
  unfold droA at hX
  refine ⟨kd_0 hL, w45_s (CWs_CW hL hW) ?_⟩
  cases c1 : isPb k (cnt (S 0)) l1 l2 with
  | false =>
    rw [c1, if_neg (by decide)] at hX
    exact br_f (fun z => z rfl) ⟨kd_0 hL, kd_0 hL, hX _ _ _ _ q FrA_0 (gI_y ⟨rfl, rfl⟩) rfl (CA_s hC)⟩
  | true =>
    rw [c1, if_pos rfl] at hX
    obtain ⟨o, i, rfl, rfl, ho, hi, e1, e2⟩ := isPb_j k4 hg c1
    rw [e1, e2] at hX
    have ga := hg o ho
    have a1 := ga.1
    have a2 := ga.2.1
    have hT := (hW.2.2 o ho).2
    have tT : isT (191 + 3 * o) = true := isT_way (by omega)
    refine br_t (by decide) ⟨kd_0 hL, 19, rf_0_5 hL, i19 hL (by omega), 191 + 3 * o, by rw [e1]; exact rf_19 hL (by omega), kd_T hL tT, ?_⟩
    rw [hT.1, show (2 : Int32) = jI 2 from rfl, jI_lt (by omega) (by omega) (by omega) (by omega)]
    refine ⟨fun z => ⟨kd_T hL tT, ?_⟩, fun z => ?_⟩
    · rw [if_neg (by omega)] at hX
      rw [show (1 : Int32) = jI 1 from rfl, jI_sub, jI_add]
      refine w128_s hL tT hT ga (by omega) (by omega) (by omega) (by omega) ?_
      have ac := alk_c (a := S 0 o) (i := i) (by omega)
      cases c2 : alk (S 0 o) ((i : Int) - 1) ((i : Int) + 1) with
      | true =>
        rw [c2] at ac
        rw [ac, if_neg (by decide)] at hX
        exact br_f (by decide) ⟨kd_0 hL, kd_0 hL, hX _ _ _ _ q FrA_0 (gI_y ⟨rfl, rfl⟩) rfl (CA_s hC)⟩
      | false =>
        rw [c2] at ac
        rw [ac, if_pos (by decide)] at hX
        refine br_t rfl ⟨kd_0 hL, 20, rf_0_7 hL, kd_20 hL, ?_⟩
        refine w152_s (W' := upW (S 0) o (lwW (S 0 o) i)) hL hC.2.2.1 (by omega) hT ga (hC.2.1 o ho) (fun M1 q1 f1 c1 => ?_)
        have hL1 := f1.1 hL
        refine ⟨kd_0 hL1, 185, rf_0_17 hL1, kd_T hL1 isT_185, w142_s hL1 tT isT_185 (Or.inr (by omega)) (TrC_fr2 f1 (fun x k y1 y2 => sB_f (by omega) (by omega)) hT) a2 hi (fun M2 f2 t2 n2 => ?_)⟩
        have hL2 := f2.1 hL1
        refine ⟨kd_0 hL2, kd_T hL2 tT, ?_⟩
        rw [rf_0_17 hL2]
        refine w31_s hL2 isT_185 tT (Or.inl (by omega)) t2 (show 1 ≤ wn (S 0 o) - 1 by omega) (show wn (S 0 o) - 1 ≤ 8 by omega) (fun M3 f3 t3 n3 => ?_)
        have hL3 := f3.1 hL2
        refine ⟨kd_T hL3 tT, kd_0 hL3, kd_0 hL3, ?_⟩
        rw [t3.1]
        have fo : Fr (sOw o) M1 (sI M3 0 10 0) := Fr_sI (Fr_t (Fr_w f2 (fun x k => sOw_s2)) (Fr_w f3 (fun x k => sOw_s1))) sOw_0
        obtain ⟨r1, r2⟩ := CA_act hC ho f1 c1 fo (TrC_0 (by omega) t3) ((n3.trans n2).trans (Fr_L f1 (sB_f (by omega) (by omega)))) (lw_g ga hi ac)
        exact hX _ _ _ _ q1 r2 (gI_y ⟨rfl, rfl⟩) rfl r1
    · rw [if_pos (by omega)] at hX
      exact ⟨kd_0 hL, kd_0 hL, hX _ _ _ _ q FrA_0 (gI_y ⟨rfl, rfl⟩) rfl (CA_s hC)⟩
/-- move -/
def mvW (a : WY) (i : Nat) (x y : Int) : WY := (wn a, fun t => if t = i then x else wx a t, fun t => if t = i then y else wy a t)
def nrP (a : WY) (i : Nat) (x y : Int) : Bool := atP a ((i : Int) - 1) x y || (atP a i x y || atP a ((i : Int) + 1) x y)
def movA (k : Nat) (W : Nat → WY) (l1 l2 l3 l4 : Int32) : Option (Nat × WY) × Int32 × Int32 :=
  if (frb l3 0 18 && frb l4 0 18) = true then (if isPb k (cnt W) l1 l2 = true then (if nrP (W l1.toNatClampNeg) l2.toNatClampNeg (l3.toNatClampNeg : Int) (l4.toNatClampNeg : Int) = true then (none, -1, 4) else (some (l1.toNatClampNeg, mvW (W l1.toNatClampNeg) l2.toNatClampNeg (l3.toNatClampNeg : Int) (l4.toNatClampNeg : Int)), jI ((((l3.toNatClampNeg : Int) - wx (W l1.toNatClampNeg) l2.toNatClampNeg) * ((l3.toNatClampNeg : Int) - wx (W l1.toNatClampNeg) l2.toNatClampNeg)) + (((l4.toNatClampNeg : Int) - wy (W l1.toNatClampNeg) l2.toNatClampNeg) * ((l4.toNatClampNeg : Int) - wy (W l1.toNatClampNeg) l2.toNatClampNeg))), 0)) else (none, -1, 2)) else (none, -1, 1)
theorem atP_n {a : WY} {p x y : Int} {j : Nat} (h : atP a p x y = false) (e : p = j) (hj : j < wn a) : ¬ (wx a j = x ∧ wy a j = y) := by
  subst e
  intro z
  have := of_decide_eq_false h
  rw [Int.toNat_natCast] at this
  exact this ⟨by omega, by omega, z.1, z.2⟩
theorem mv_g {a : WY} {i x y : Nat} (h : gW a) (hi : i < wn a) (hx : x ≤ 18) (hy : y ≤ 18) (hn : nrP a i x y = false) : gW (mvW a i x y) := by
  have n1 := (Bool.or_eq_false_iff.mp hn).1
  have n2 := (Bool.or_eq_false_iff.mp (Bool.or_eq_false_iff.mp hn).2).2
  refine ⟨h.1, h.2.1, fun t ht => ?_, fun t ht => ?_⟩
  · show 0 ≤ (if t = i then (x : Int) else wx a t) ∧ (if t = i then (x : Int) else wx a t) ≤ 18 ∧ 0 ≤ (if t = i then (y : Int) else wy a t) ∧ (if t = i then (y : Int) else wy a t) ≤ 18
    by_cases c : t = i
    · rw [if_pos c, if_pos c]; omega
    · rw [if_neg c, if_neg c]; exact h.2.2.1 t ht
  · have ht' : t + 1 < wn a := ht
    show ¬ ((if t = i then (x : Int) else wx a t) = (if t + 1 = i then (x : Int) else wx a (t + 1)) ∧ (if t = i then (y : Int) else wy a t) = (if t + 1 = i then (y : Int) else wy a (t + 1)))
    by_cases c : t = i
    · rw [if_pos c, if_pos c, if_neg (by omega), if_neg (by omega)]
      intro z
      exact atP_n (j := t + 1) n2 (by omega) ht' ⟨z.1.symm, z.2.symm⟩
    · by_cases c2 : t + 1 = i
      · rw [if_neg c, if_neg c, if_pos c2, if_pos c2]
        exact atP_n (j := t) n1 (by omega) (by omega)
      · rw [if_neg c, if_neg c, if_neg c2, if_neg c2]
        exact h.2.2.2 t ht
theorem w150_q {M : MM} {k q A : Nat} {S : Nat → Nat → WY} {O : Nat → Nat} {N : Nat → Int64} {l1 l2 l3 l4 : Int32} {P : Int32 → MM → Prop} (hL : Lay M) (hC : CA M k q A S O N) (hX : ∀ M' x r st q', Fr sCA M M' → mI M' 0 10 = st → (x, r, st) = movA k (S 0) l1 l2 l3 l4 → CA M' k q' (acA x A) (acS x S) (acO x O) N → P r M') : w150 0 l1 l2 l3 l4 M P := by
  have hW := hC.1
  have k4 := hW.2.1
  have hg : ∀ w, w < k → gW (S 0 w) := fun w hw => (hW.2.2 w hw).1
  unfold movA at hX
  have one : (frb l3 0 18 && frb l4 0 18) = false → w150_15 0 M P := fun e => by
    rw [e, if_neg (by decide)] at hX
    exact ⟨kd_0 hL, kd_0 hL, hX _ _ _ _ q FrA_0 (gI_y ⟨rfl, rfl⟩) rfl (CA_s hC)⟩
  refine w151_s ?_
  cases d1 : frb l3 0 18 with
  | false => exact br_t rfl (one (by rw [d1, Bool.false_and]))
  | true =>
    refine br_f (by decide) (w151_s ?_)
    cases d2 : frb l4 0 18 with
    | false => exact br_f (fun z => z rfl) (one (by rw [d2, Bool.and_false]))
    | true =>
      rw [d1, d2, if_pos (by decide)] at hX
      refine br_t (by decide) ⟨kd_0 hL, w45_s (CWs_CW hL hW) ?_⟩
      cases c1 : isPb k (cnt (S 0)) l1 l2 with
      | false =>
        rw [c1, if_neg (by decide)] at hX
        exact br_f (fun z => z rfl) ⟨kd_0 hL, kd_0 hL, hX _ _ _ _ q FrA_0 (gI_y ⟨rfl, rfl⟩) rfl (CA_s hC)⟩
      | true =>
        rw [c1, if_pos rfl] at hX
        obtain ⟨o, i, rfl, rfl, ho, hi, e1, e2⟩ := isPb_j k4 hg c1
        obtain ⟨x, rfl, x0, x1⟩ := frb_j (x := 0) (y := 18) rfl rfl (by omega) (by omega) (by omega) d1
        obtain ⟨y, rfl, y0, y1⟩ := frb_j (x := 0) (y := 18) rfl rfl (by omega) (by omega) (by omega) d2
        rw [e1, e2, jI_cn (k := x) (by omega), jI_cn (k := y) (by omega)] at hX
        have ga := hg o ho
        have a1 := ga.1
        have a2 := ga.2.1
        have hT := (hW.2.2 o ho).2
        have tT : isT (191 + 3 * o) = true := isT_way (by omega)
        have four : nrP (S 0 o) i x y = true → w150_84 0 M P := fun e => by
          rw [if_pos e] at hX
          exact ⟨kd_0 hL, kd_0 hL, hX _ _ _ _ q FrA_0 (gI_y ⟨rfl, rfl⟩) rfl (CA_s hC)⟩
        refine br_t (by decide) ⟨kd_0 hL, 19, rf_0_5 hL, i19 hL (by omega), 191 + 3 * o, by rw [e1]; exact rf_19 hL (by omega), kd_T hL tT, ?_⟩
        rw [show (1 : Int32) = jI 1 from rfl, jI_sub, jI_add]
        refine w28_s hL tT hT ga (by omega) (by omega) (by omega) (by omega) (by omega) (by omega) ?_
        cases b1 : atP (S 0 o) ((i : Int) - 1) x y with
        | true => exact br_t (by decide) (four (by unfold nrP; rw [b1]; rfl))
        | false =>
          refine br_f (fun z => z rfl) ⟨kd_T hL tT, w28_s hL tT hT ga (by omega) (by omega) (by omega) (by omega) (by omega) (by omega) ?_⟩
          cases b2 : atP (S 0 o) (i : Int) x y with
          | true => exact br_t (by decide) (four (by unfold nrP; rw [b1, b2]; rfl))
          | false =>
            refine br_f (fun z => z rfl) ⟨kd_T hL tT, w28_s hL tT hT ga (by omega) (by omega) (by omega) (by omega) (by omega) (by omega) ?_⟩
            cases b3 : atP (S 0 o) ((i : Int) + 1) x y with
            | true => exact br_f (by decide) (four (by unfold nrP; rw [b1, b2, b3]; rfl))
            | false =>
              have nn : nrP (S 0 o) i x y = false := by unfold nrP; rw [b1, b2, b3]; rfl
              rw [if_neg (by rw [nn]; decide)] at hX
              refine br_t rfl ⟨kd_0 hL, 20, rf_0_7 hL, kd_20 hL, ?_⟩
              refine w152_s (W' := upW (S 0) o (mvW (S 0 o) i x y)) hL hC.2.2.1 (by omega) hT ga (hC.2.1 o ho) (fun M1 q1 f1 c1 => ?_)
              have hL1 := f1.1 hL
              have hT1 : TrC M1 (191 + 3 * o) (S 0 o) := TrC_fr2 f1 (fun x k y1 y2 => sB_f (by omega) (by omega)) hT
              refine ⟨kd_T hL1 tT, 191 + 3 * o + 1, rfx_T hL1 tT, inxj hL1 tT (by omega), kd_T hL1 tT, 191 + 3 * o + 2, rfy_T hL1 tT, inyj hL1 tT (by omega), kd_T hL1 tT, 191 + 3 * o + 1, rfx_T hL1 tT, inxj hL1 tT (by omega), kd_T hL1 tT, 191 + 3 * o + 2, rfy_T hL1 tT, inyj hL1 tT (by omega), kd_0 hL1, kd_0 hL1, ?_⟩
              have qi := hT1.2 i hi
              rw [e2, qi.1, qi.2, jI_sub, jI_sub, jI_mul, jI_mul, jI_add]
              have fo : Fr (sOw o) M1 (sI (sI (sI M1 (191 + 3 * o + 1) i (jI (x : Int))) (191 + 3 * o + 2) i (jI (y : Int))) 0 10 0) := Fr_sI (Fr_sI (Fr_sI Fr_r (sOw_1 (by omega))) (sOw_1 (by omega))) sOw_0
              have tr : TrC (sI (sI M1 (191 + 3 * o + 1) i (jI (x : Int))) (191 + 3 * o + 2) i (jI (y : Int))) (191 + 3 * o) (mvW (S 0 o) i x y) := by
                refine ⟨by rw [gI_n (by omega), gI_n (by omega)]; exact hT1.1, fun t ht => ?_⟩
                show _ = jI (if t = i then (x : Int) else wx (S 0 o) t) ∧ _ = jI (if t = i then (y : Int) else wy (S 0 o) t)
                by_cases c : t = i
                · rw [if_pos c, if_pos c]
                  exact ⟨by rw [gI_n (by omega), gI_y ⟨rfl, c⟩], by rw [gI_y ⟨rfl, c⟩]⟩
                · rw [if_neg c, if_neg c]
                  have qt := hT1.2 t ht
                  exact ⟨by rw [gI_n (by omega), gI_n (by omega)]; exact qt.1, by rw [gI_n (by omega), gI_n (by omega)]; exact qt.2⟩
              obtain ⟨r1, r2⟩ := CA_act hC ho f1 c1 fo (TrC_0 (by omega) tr) (Fr_L f1 (sB_f (by omega) (by omega))) (mv_g ga hi (by omega) (by omega) nn)
              exact hX _ _ _ _ q1 r2 (gI_y ⟨rfl, rfl⟩) rfl r1
