/-! ===== add in the class ===== -/
def ad1 (i : Nat) (v : Int) (f : Nat → Int) : Nat → Int := fun t => if t < i then f t else if t = i then v else f (t - 1)
def adW (a : WY) (i : Nat) (x y : Int) : WY := (wn a + 1, ad1 i x (wx a), ad1 i y (wy a))
theorem ad1_l {i t : Nat} {v : Int} {f : Nat → Int} (h : t < i) : ad1 i v f t = f t := if_pos h
theorem ad1_e {i t : Nat} {v : Int} {f : Nat → Int} (h : t = i) : ad1 i v f t = v := by unfold ad1; rw [if_neg (by omega), if_pos h]
theorem ad1_g {i t : Nat} {v : Int} {f : Nat → Int} (h : i < t) : ad1 i v f t = f (t - 1) := by unfold ad1; rw [if_neg (by omega), if_neg (by omega)]
theorem ad_g {a : WY} {i x y : Nat} (h : gW a) (hi : i ≤ wn a) (a8 : wn a < 8) (hx : x ≤ 18) (hy : y ≤ 18) (n1 : atP a ((i : Int) - 1) x y = false) (n2 : atP a (i : Int) x y = false) : gW (adW a i x y) := by
  have a2 := h.1
  refine ⟨show 2 ≤ wn a + 1 by omega, show wn a + 1 ≤ 8 by omega, fun t ht => ?_, fun t ht => ?_⟩
  · have ht' : t < wn a + 1 := ht
    show 0 ≤ ad1 i x (wx a) t ∧ ad1 i x (wx a) t ≤ 18 ∧ 0 ≤ ad1 i y (wy a) t ∧ ad1 i y (wy a) t ≤ 18
    rcases Nat.lt_trichotomy t i with c | c | c
    · rw [ad1_l c, ad1_l c]; exact h.2.2.1 t (by omega)
    · rw [ad1_e c, ad1_e c]; omega
    · rw [ad1_g c, ad1_g c]; exact h.2.2.1 (t - 1) (by omega)
  · have ht' : t + 1 < wn a + 1 := ht
    show ¬ (ad1 i x (wx a) t = ad1 i x (wx a) (t + 1) ∧ ad1 i y (wy a) t = ad1 i y (wy a) (t + 1))
    rcases Nat.lt_trichotomy t i with c | c | c
    · rw [ad1_l c, ad1_l c]
      by_cases c2 : t + 1 = i
      · rw [ad1_e c2, ad1_e c2]
        exact atP_n (j := t) n1 (by omega) (by omega)
      · rw [ad1_l (by omega), ad1_l (by omega)]; exact h.2.2.2 t (by omega)
    · rw [ad1_e c, ad1_e c, ad1_g (by omega), ad1_g (by omega), Nat.add_sub_cancel]
      intro z
      exact atP_n (j := t) n2 (by omega) (by omega) ⟨z.1.symm, z.2.symm⟩
    · rw [ad1_g c, ad1_g c, ad1_g (by omega), ad1_g (by omega), Nat.add_sub_cancel]
      have := h.2.2.2 (t - 1) (by omega)
      rw [show t - 1 + 1 = t by omega] at this
      exact this
/-- while points are pushed on: those from k on stand one place on -/
def pshd (M : MM) (t : Nat) (a : WY) (k : Nat) : Prop := mI M t 1 = jI (wn a : Int) ∧ ∀ s, s ≤ wn a → (s < k → mI M (t + 1) s = jI (wx a s) ∧ mI M (t + 2) s = jI (wy a s)) ∧ (k < s → mI M (t + 1) s = jI (wx a (s - 1)) ∧ mI M (t + 2) s = jI (wy a (s - 1)))
theorem w154_s {M : MM} {t i x y : Nat} {a : WY} {P : MM → Prop} (hL : Lay M) (ht : isT t = true) (hA : TrC M t a) (hi : i ≤ wn a) (a8 : wn a < 8) (hX : ∀ M', Fr (sTk t) M M' → TrC M' t (adW a i x y) → mL M' t 0 = mL M t 0 → P M') : w154 t (jI (i : Int)) (jI (x : Int)) (jI (y : Int)) M P := by
  have lp : ∀ (n k : Nat) (M' : MM), k = i + n → k ≤ wn a → Fr (sTk t) M M' → pshd M' t a k → mL M' t 0 = mL M t 0 → w154_28 (n + 1) t (jI (i : Int)) (jI (x : Int)) (jI (y : Int)) (jI (k : Int)) M' P := by
    intro n
    induction n with
    | zero =>
      intro k M' e kn hF hI hN
      have hL' := hF.1 hL
      obtain rfl : k = i := by omega
      have ec : (jI (k : Int)).toNatClampNeg = k := jI_cn (by omega)
      refine br_t (by rw [jI_le (by omega) (by omega) (by omega) (by omega)]; omega) ⟨kd_T hL' ht, t + 1, rfx_T hL' ht, inxj hL' ht (by omega), kd_T hL' ht, t + 2, rfy_T (lay_sI hL') ht, inyj hL' ht (by omega), kd_T hL' ht, kd_T hL' ht, ?_⟩
      rw [ec, gI_n (by omega), gI_n (by omega), hI.1, show (1 : Int32) = jI 1 from rfl, jI_add, c_s1]
      refine hX _ (Fr_sI (Fr_sI (Fr_sI hF (sB_t2 (by omega))) (sB_t2 (by omega))) (sB_t1 (by omega))) ⟨gI_y ⟨rfl, rfl⟩, fun s hs => ?_⟩ hN
      have hs' : s < wn a + 1 := hs
      have q := hI.2 s (by omega)
      show mI _ (t + 1) s = jI (ad1 k x (wx a) s) ∧ mI _ (t + 2) s = jI (ad1 k y (wy a) s)
      rcases Nat.lt_trichotomy s k with c | c | c
      · rw [ad1_l c, ad1_l c]
        exact ⟨by rw [gI_n (by omega), gI_n (by omega), gI_n (by omega)]; exact (q.1 c).1, by rw [gI_n (by omega), gI_n (by omega), gI_n (by omega)]; exact (q.1 c).2⟩
      · rw [ad1_e c, ad1_e c]
        exact ⟨by rw [gI_n (by omega), gI_n (by omega), gI_y ⟨rfl, c⟩], by rw [gI_n (by omega), gI_y ⟨rfl, c⟩]⟩
      · rw [ad1_g c, ad1_g c]
        exact ⟨by rw [gI_n (by omega), gI_n (by omega), gI_n (by omega)]; exact (q.2 c).1, by rw [gI_n (by omega), gI_n (by omega), gI_n (by omega)]; exact (q.2 c).2⟩
    | succ n ih =>
      intro k M' e kn hF hI hN
      have hL' := hF.1 hL
      have ec : (jI (k : Int)).toNatClampNeg = k := jI_cn (by omega)
      have e1 : jI (k : Int) - 1 = jI ((k - 1 : Nat) : Int) := by rw [show (1 : Int32) = jI 1 from rfl, jI_sub]; exact congrArg jI (by omega)
      have e2 : jI (k : Int) + (-1) = jI ((k - 1 : Nat) : Int) := by rw [show (-1 : Int32) = jI (-1) from rfl, jI_add]; exact congrArg jI (by omega)
      have ec1 : (jI ((k - 1 : Nat) : Int)).toNatClampNeg = k - 1 := jI_cn (by omega)
      have q := (hI.2 (k - 1) (by omega)).1 (by omega)
      refine br_f (by rw [jI_le (by omega) (by omega) (by omega) (by omega)]; omega) ?_
      rw [e1, ec, ec1]
      refine ⟨kd_T hL' ht, kd_T hL' ht, t + 1, rfx_T hL' ht, inxj hL' ht (by omega), inxj hL' ht (by omega), kd_T hL' ht, kd_T hL' ht, t + 2, rfy_T (lay_sI hL') ht, inyj hL' ht (by omega), inyj hL' ht (by omega), ?_⟩
      unfold w154_66
      rw [gI_n (by omega), q.1, q.2, e2]
      refine ih (k - 1) _ (by omega) (by omega) (Fr_sI (Fr_sI hF (sB_t2 (by omega))) (sB_t2 (by omega))) ⟨by rw [gI_n (by omega), gI_n (by omega)]; exact hI.1, fun s hs => ⟨fun c => ?_, fun c => ?_⟩⟩ hN
      · have qs := (hI.2 s hs).1 (by omega)
        exact ⟨by rw [gI_n (by omega), gI_n (by omega)]; exact qs.1, by rw [gI_n (by omega), gI_n (by omega)]; exact qs.2⟩
      · by_cases c2 : s = k
        · rw [c2]
          exact ⟨by rw [gI_n (by omega), gI_y ⟨rfl, rfl⟩], by rw [gI_y ⟨rfl, rfl⟩]⟩
        · have qs := (hI.2 s hs).2 (by omega)
          exact ⟨by rw [gI_n (by omega), gI_n (by omega)]; exact qs.1, by rw [gI_n (by omega), gI_n (by omega)]; exact qs.2⟩
  unfold w154
  rw [hA.1]
  refine br_f (by rw [show (0 : Int32) = jI 0 from rfl, jI_lt (by omega) (by omega) (by omega) (by omega)]; omega) ⟨kd_T hL ht, br_f (by rw [jI_lt (by omega) (by omega) (by omega) (by omega)]; omega) ⟨kd_T hL ht, br_t (by rw [show (8 : Int32) = jI 8 from rfl, jI_lt (by omega) (by omega) (by omega) (by omega)]; omega) ⟨kd_T hL ht, wn a - i + 1, ?_⟩⟩⟩
  exact lp (wn a - i) (wn a) M (by omega) (Nat.le_refl _) Fr_r ⟨hA.1, fun s hs => ⟨fun c => hA.2 s c, fun c => by omega⟩⟩ rfl
/-- add -/
def addA (k : Nat) (W : Nat → WY) (l1 l2 l3 l4 : Int32) : Option (Nat × WY) × Int32 × Int32 :=
  if (frb l3 0 18 && frb l4 0 18) = true then (if (isWb k l1 && frb l2 0 (jI (wn (W l1.toNatClampNeg) : Int))) = true then (if wn (W l1.toNatClampNeg) = 8 then (none, -1, 3) else if (atP (W l1.toNatClampNeg) ((l2.toNatClampNeg : Int) - 1) (l3.toNatClampNeg : Int) (l4.toNatClampNeg : Int) || atP (W l1.toNatClampNeg) (l2.toNatClampNeg : Int) (l3.toNatClampNeg : Int) (l4.toNatClampNeg : Int)) = true then (none, -1, 4) else (some (l1.toNatClampNeg, adW (W l1.toNatClampNeg) l2.toNatClampNeg (l3.toNatClampNeg : Int) (l4.toNatClampNeg : Int)), jI ((wn (W l1.toNatClampNeg) + 1 : Nat) : Int), 0)) else (none, -1, 2)) else (none, -1, 1)
theorem w153_q {M : MM} {k q A : Nat} {S : Nat → Nat → WY} {O : Nat → Nat} {N : Nat → Int64} {l1 l2 l3 l4 : Int32} {P : Int32 → MM → Prop} (hL : Lay M) (hC : CA M k q A S O N) (hX : ∀ M' x r st q', Fr sCA M M' → mI M' 0 10 = st → (x, r, st) = addA k (S 0) l1 l2 l3 l4 → CA M' k q' (acA x A) (acS x S) (acO x O) N → P r M') : w153 0 l1 l2 l3 l4 M P := by
  have hW := hC.1
  have k4 := hW.2.1
  have hg : ∀ w, w < k → gW (S 0 w) := fun w hw => (hW.2.2 w hw).1
  unfold addA at hX
  have one : (frb l3 0 18 && frb l4 0 18) = false → w153_15 0 M P := fun e => by
    rw [e, if_neg (by decide)] at hX
    exact ⟨kd_0 hL, kd_0 hL, hX _ _ _ _ q FrA_0 (gI_y ⟨rfl, rfl⟩) rfl (CA_s hC)⟩
  refine w151_s ?_
  cases d1 : frb l3 0 18 with
  | false => exact br_t rfl (one (by rw [d1, Bool.false_and]))
  | true =>
    refine br_f (by decide) (w151_s ?_)
    cases d2 : frb l4 0 18 with
    | false => exact br_f (fun z => z rfl) (one (by rw [d2, Bool.and_false]))
    | true =>
      rw [d1, d2, if_pos (by decide)] at hX
      refine br_t (by decide) ⟨kd_0 hL, w40_s (CWs_CW hL hW) ?_⟩
      have two : (isWb k l1 && frb l2 0 (jI (wn (S 0 l1.toNatClampNeg) : Int))) = false → w153_46 0 M P := fun e => by
        rw [e, if_neg (by decide)] at hX
        exact ⟨kd_0 hL, kd_0 hL, hX _ _ _ _ q FrA_0 (gI_y ⟨rfl, rfl⟩) rfl (CA_s hC)⟩
      cases c1 : isWb k l1 with
      | false => exact br_t rfl (two (by rw [c1, Bool.false_and]))
      | true =>
        obtain ⟨o, ho, rfl⟩ := isWb_j k4 c1
        have e1 : (jI (o : Int)).toNatClampNeg = o := jI_cn (by omega)
        rw [c1, e1] at two
        rw [c1, e1] at hX
        have ga := hg o ho
        have a1 := ga.1
        have a2 := ga.2.1
        have hT := (hW.2.2 o ho).2
        have tT : isT (191 + 3 * o) = true := isT_way (by omega)
        refine br_f (by decide) ⟨fun z => two ?_, fun z => ⟨kd_0 hL, 19, rf_0_5 hL, i19 hL (by omega), 191 + 3 * o, by rw [e1]; exact rf_19 hL (by omega), kd_T hL tT, ?_⟩⟩
        · rw [Bool.true_and]
          exact decide_eq_false (fun y => y.1 z)
        rw [hT.1, e1]
        refine ⟨fun z2 => ?_, fun z2 => two ?_⟩
        · have fr : frb l2 0 (jI (wn (S 0 o) : Int)) = true := decide_eq_true ⟨z, Int32.not_lt.mpr z2⟩
          obtain ⟨i, rfl, i0, i1⟩ := frb_j (x := 0) (y := wn (S 0 o)) rfl rfl (by omega) (by omega) (by omega) fr
          obtain ⟨x, rfl, x0, x1⟩ := frb_j (x := 0) (y := 18) rfl rfl (by omega) (by omega) (by omega) d1
          obtain ⟨y, rfl, y0, y1⟩ := frb_j (x := 0) (y := 18) rfl rfl (by omega) (by omega) (by omega) d2
          rw [fr, if_pos (by decide), jI_cn (k := i) (by omega), jI_cn (k := x) (by omega), jI_cn (k := y) (by omega)] at hX
          refine ⟨kd_0 hL, 19, rf_0_5 hL, i19 hL (by omega), 191 + 3 * o, rf_19 hL (by omega), kd_T hL tT, ?_⟩
          rw [hT.1, show (8 : Int32) = jI 8 from rfl, jI_lt (by omega) (by omega) (by omega) (by omega)]
          refine ⟨fun z3 => ⟨kd_T hL tT, ?_⟩, fun z3 => ?_⟩
          · rw [if_neg (by omega)] at hX
            have four : (atP (S 0 o) ((i : Int) - 1) x y || atP (S 0 o) (i : Int) x y) = true → w153_102 0 M P := fun e => by
              rw [if_pos e] at hX
              exact ⟨kd_0 hL, kd_0 hL, hX _ _ _ _ q FrA_0 (gI_y ⟨rfl, rfl⟩) rfl (CA_s hC)⟩
            rw [show (1 : Int32) = jI 1 from rfl, jI_sub]
            refine w28_s hL tT hT ga (by omega) (by omega) (by omega) (by omega) (by omega) (by omega) ?_
            cases b1 : atP (S 0 o) ((i : Int) - 1) x y with
            | true => exact br_t (by decide) (four (by rw [b1]; rfl))
            | false =>
              refine br_f (fun z => z rfl) ⟨kd_T hL tT, w28_s hL tT hT ga (by omega) (by omega) (by omega) (by omega) (by omega) (by omega) ?_⟩
              cases b2 : atP (S 0 o) (i : Int) x y with
              | true => exact br_f (by decide) (four (by rw [b1, b2]; rfl))
              | false =>
                rw [b1, b2, if_neg (by decide)] at hX
                refine br_t rfl ⟨kd_0 hL, 20, rf_0_7 hL, kd_20 hL, ?_⟩
                refine w152_s (W' := upW (S 0) o (adW (S 0 o) i x y)) hL hC.2.2.1 (by omega) hT ga (hC.2.1 o ho) (fun M1 q1 f1 c1 => ?_)
                have hL1 := f1.1 hL
                have hT1 : TrC M1 (191 + 3 * o) (S 0 o) := TrC_fr2 f1 (fun x k y1 y2 => sB_f (by omega) (by omega)) hT
                refine ⟨kd_T hL1 tT, w154_s hL1 tT hT1 (by omega) (by omega) (fun M2 f2 t2 n2 => ?_)⟩
                have hL2 := f2.1 hL1
                refine ⟨kd_T hL2 tT, kd_0 hL2, kd_0 hL2, ?_⟩
                rw [t2.1]
                have fo : Fr (sOw o) M1 (sI M2 0 10 0) := Fr_sI (Fr_w f2 (fun x k => sOw_s1)) sOw_0
                obtain ⟨r1, r2⟩ := CA_act hC ho f1 c1 fo (TrC_0 (by omega) t2) (n2.trans (Fr_L f1 (sB_f (by omega) (by omega)))) (ad_g ga (by omega) (by omega) (by omega) (by omega) b1 b2)
                exact hX _ _ _ _ q1 r2 (gI_y ⟨rfl, rfl⟩) rfl r1
          · rw [if_pos (by omega)] at hX
            exact ⟨kd_0 hL, kd_0 hL, hX _ _ _ _ q FrA_0 (gI_y ⟨rfl, rfl⟩) rfl (CA_s hC)⟩
        · rw [Bool.true_and]
          exact decide_eq_false (fun y => z2 (Int32.not_lt.mp y.2))
