/-! ===== without: both sides ===== -/
def lw1 (i : Nat) (f : Nat → Int) : Nat → Int := fun x => if x < i then f x else f (x + 1)
def lwW (a : WY) (i : Nat) : WY := (wn a - 1, lw1 i (wx a), lw1 i (wy a))
def cL (a : WY) (i : Nat) : Bool := decide (2 < wn a ∧ ¬ (0 < i ∧ i + 1 < wn a ∧ wx a (i - 1) = wx a (i + 1) ∧ wy a (i - 1) = wy a (i + 1)))
theorem lw_g {a : WY} {i : Nat} (h : gW a) (hi : i < wn a) (hc : cL a i = true) : gW (lwW a i) := by
  have hc' := of_decide_eq_true hc
  have a2 := h.2.1
  have ex : ∀ x f, x < i → lw1 i f x = f x := fun x f z => if_pos z
  have ey : ∀ x f, i ≤ x → lw1 i f x = f (x + 1) := fun x f z => if_neg (by omega)
  refine ⟨?_, ?_, fun x hx => ?_, fun x hx => ?_⟩
  · show 2 ≤ wn a - 1; omega
  · show wn a - 1 ≤ 8; omega
  · have hx' : x < wn a - 1 := hx
    show 0 ≤ lw1 i (wx a) x ∧ lw1 i (wx a) x ≤ 18 ∧ 0 ≤ lw1 i (wy a) x ∧ lw1 i (wy a) x ≤ 18
    by_cases z : x < i
    · rw [ex x _ z, ex x _ z]; exact h.2.2.1 x (by omega)
    · rw [ey x _ (by omega), ey x _ (by omega)]; exact h.2.2.1 (x + 1) (by omega)
  · have hx' : x + 1 < wn a - 1 := hx
    show ¬ (lw1 i (wx a) x = lw1 i (wx a) (x + 1) ∧ lw1 i (wy a) x = lw1 i (wy a) (x + 1))
    by_cases z : x + 1 < i
    · rw [ex x _ (by omega), ex x _ (by omega), ex (x + 1) _ z, ex (x + 1) _ z]; exact h.2.2.2 x (by omega)
    · by_cases y : x < i
      · rw [ex x _ y, ex x _ y, ey (x + 1) _ (by omega), ey (x + 1) _ (by omega)]
        have e : i = x + 1 := by omega
        subst e
        intro q
        exact hc'.2 ⟨by omega, by omega, q.1, q.2⟩
      · rw [ey x _ (by omega), ey x _ (by omega), ey (x + 1) _ (by omega), ey (x + 1) _ (by omega)]; exact h.2.2.2 (x + 1) (by omega)
/-- is a point of a track at a spot -/
def atP (a : WY) (p x y : Int) : Bool := decide (0 ≤ p ∧ p < wn a ∧ wx a p.toNat = x ∧ wy a p.toNat = y)
theorem w28_s {M : MM} {t : Nat} {a : WY} {p x y : Int} {P : Int32 → MM → Prop} (hL : Lay M) (ht : isT t = true) (hA : TrC M t a) (ga : gW a) (p0 : -2147483648 ≤ p) (p1 : p < 2147483648) (x0 : 0 ≤ x) (x1 : x ≤ 18) (y0 : 0 ≤ y) (y1 : y ≤ 18) (hP : P (bI (atP a p x y)) M) : w28 t (jI p) (jI x) (jI y) M P := by
  have a2 := ga.2.1
  have no : atP a p x y = false → w28_36 M P := fun e => ⟨Or.inl rfl, by rw [e] at hP; exact hP⟩
  unfold w28
  rw [hA.1, show (0 : Int32) = jI 0 from rfl, jI_lt (by omega) (by omega) (by omega) (by omega), jI_le (by omega) (by omega) (by omega) (by omega)]
  refine ⟨fun z => no (decide_eq_false (by omega)), fun z => ⟨kd_T hL ht, fun w => no (decide_eq_false (by omega)), fun w => ?_⟩⟩
  have q := hA.2 p.toNat (by omega)
  have b := ga.2.2.1 p.toNat (by omega)
  have ep : p = ((p.toNat : Nat) : Int) := by omega
  have ix : inb M (t + 1) 11 (jI p) := by rw [ep]; exact inxj hL ht (by omega)
  have iy : inb M (t + 2) 11 (jI p) := by rw [ep]; exact inyj hL ht (by omega)
  refine ⟨kd_T hL ht, t + 1, rfx_T hL ht, ix, ?_⟩
  rw [jI_cl (by omega) (by omega), q.1, ne_eq, jI_eq (by omega) (by omega) (by omega) (by omega)]
  refine ⟨fun v => no (decide_eq_false (fun u => v u.2.2.1)), fun v => ⟨kd_T hL ht, t + 2, rfy_T hL ht, iy, ?_⟩⟩
  rw [q.2, ne_eq, jI_eq (by omega) (by omega) (by omega) (by omega)]
  refine ⟨fun u => no (decide_eq_false (fun s => u s.2.2.2)), fun u => ⟨Or.inr rfl, ?_⟩⟩
  rw [show atP a p x y = true from decide_eq_true ⟨by omega, by omega, Classical.not_not.mp v, Classical.not_not.mp u⟩] at hP
  exact hP
def alk (a : WY) (p q : Int) : Bool := decide (0 ≤ q ∧ q < wn a ∧ 0 ≤ p ∧ p < wn a ∧ wx a p.toNat = wx a q.toNat ∧ wy a p.toNat = wy a q.toNat)
theorem w128_s {M : MM} {t : Nat} {a : WY} {p q : Int} {P : Int32 → MM → Prop} (hL : Lay M) (ht : isT t = true) (hA : TrC M t a) (ga : gW a) (p0 : -2147483648 ≤ p) (p1 : p < 2147483648) (q0 : -2147483648 ≤ q) (q1 : q < 2147483648) (hP : P (bI (alk a p q)) M) : w128 t (jI p) (jI q) M P := by
  have a2 := ga.2.1
  have no : alk a p q = false → w128_36 M P := fun e => ⟨Or.inl rfl, by rw [e] at hP; exact hP⟩
  unfold w128
  rw [hA.1, show (0 : Int32) = jI 0 from rfl, jI_lt (by omega) (by omega) (by omega) (by omega), jI_le (by omega) (by omega) (by omega) (by omega)]
  refine ⟨fun z => no (decide_eq_false (by omega)), fun z => ⟨kd_T hL ht, fun w => no (decide_eq_false (by omega)), fun w => ?_⟩⟩
  have qq := hA.2 q.toNat (by omega)
  have b := ga.2.2.1 q.toNat (by omega)
  have eq' : q = ((q.toNat : Nat) : Int) := by omega
  have ix : inb M (t + 1) 11 (jI q) := by rw [eq']; exact inxj hL ht (by omega)
  have iy : inb M (t + 2) 11 (jI q) := by rw [eq']; exact inyj hL ht (by omega)
  refine ⟨kd_T hL ht, t + 1, rfx_T hL ht, ix, kd_T hL ht, t + 2, rfy_T hL ht, iy, kd_T hL ht, ?_⟩
  rw [jI_cl (by omega) (by omega), qq.1, qq.2]
  refine w28_s hL ht hA ga p0 p1 (by omega) (by omega) (by omega) (by omega) ?_
  have e : atP a p (wx a q.toNat) (wy a q.toNat) = alk a p q := by
    unfold atP alk
    rw [decide_eq_decide]
    exact ⟨fun s => ⟨by omega, by omega, s.1, s.2.1, s.2.2.1, s.2.2.2⟩, fun s => ⟨s.2.2.1, s.2.2.2.1, s.2.2.2.2.1, s.2.2.2.2.2⟩⟩
  rw [e]
  cases c : alk a p q with
  | false => exact br_t rfl (no c)
  | true => rw [c] at hP; exact br_f (by decide) ⟨Or.inr rfl, hP⟩
theorem alk_c {a : WY} {i : Nat} (h2 : 2 < wn a) : cL a i = !(alk a ((i : Int) - 1) ((i : Int) + 1)) := by
  unfold cL alk
  by_cases c : 0 < i ∧ i + 1 < wn a ∧ wx a (i - 1) = wx a (i + 1) ∧ wy a (i - 1) = wy a (i + 1)
  · have e1 : ((i : Int) - 1).toNat = i - 1 := by omega
    have e2 : ((i : Int) + 1).toNat = i + 1 := by omega
    rw [decide_eq_false (fun z => z.2 c), e1, e2, decide_eq_true ⟨by omega, by omega, by omega, by omega, c.2.2.1, c.2.2.2⟩]; rfl
  · rw [decide_eq_true ⟨h2, c⟩, decide_eq_false]
    · rfl
    · rintro ⟨z1, z2, z3, z4, z5, z6⟩
      have e1 : ((i : Int) - 1).toNat = i - 1 := by omega
      have e2 : ((i : Int) + 1).toNat = i + 1 := by omega
      rw [e1, e2] at z5 z6
      exact c ⟨by omega, by omega, z5, z6⟩
theorem w142_s {M : MM} {t u i : Nat} {b : WY} {P : MM → Prop} (hL : Lay M) (ht : isT t = true) (hu : isT u = true) (ha : aprt t u) (hB : TrC M t b) (b8 : wn b ≤ 8) (hi : i < wn b) (hX : ∀ M', Fr (sTk u) M M' → TrC M' u (lwW b i) → mL M' u 0 = mL M t 0 → P M') : w142 u (some t) (jI (i : Int)) M P := by
  refine ⟨t, rfl, kd_T hL ht, kd_T hL hu, w25_s (f := lw1 i (wx b)) (g := lw1 i (wy b)) hL hu (fun M1 h1 t1 n1 => ⟨wn b + 1, ?_⟩)⟩
  have lp : ∀ (q j : Nat) (M' : MM), j + q = wn b → Fr (sTk u) M M' → TrC M' u ((if j ≤ i then j else j - 1), lw1 i (wx b), lw1 i (wy b)) → mL M' u 0 = mL M t 0 → w142_10 (q + 1) u (some t) (jI (i : Int)) (jI (j : Int)) M' P := by
    intro q
    induction q with
    | zero =>
      intro j M' hj hF hT hn
      have hL' := hF.1 hL
      refine ⟨t, rfl, kd_T hL' ht, br_t (by rw [(TrC_k hF ha hB).1, jI_le (by omega) (by omega) (by omega) (by omega)]; omega) (hX M' hF ?_ hn)⟩
      rw [if_neg (by omega), show j = wn b by omega] at hT
      exact hT
    | succ q ih =>
      intro j M' hj hF hT hn
      have hL' := hF.1 hL
      have hB' := TrC_k hF ha hB
      have e1 : jI (j : Int) + 1 = jI ((j + 1 : Nat) : Int) := by rw [show (1 : Int32) = jI 1 from rfl, jI_add, c_s1]
      refine ⟨t, rfl, kd_T hL' ht, br_f (by rw [hB'.1, jI_le (by omega) (by omega) (by omega) (by omega)]; omega) ?_⟩
      unfold w142_39
      rw [e1, jI_eq (by omega) (by omega) (by omega) (by omega)]
      refine ⟨fun z => ih (j + 1) M' (by omega) hF ?_ hn, fun z => ⟨kd_T hL' ht, t + 1, rfx_T hL' ht, inxj hL' ht (by omega), kd_T hL' ht, t + 2, rfy_T hL' ht, inyj hL' ht (by omega), kd_T hL' hu, ?_⟩⟩
      · rw [if_pos (by omega)] at hT
        rw [if_neg (by omega)]
        exact hT
      · have qb := hB'.2 j (by omega)
        rw [jI_cn (by omega), qb.1, qb.2]
        by_cases c : j ≤ i
        · rw [if_pos c] at hT
          have := w29_s (P := fun M4 => w142_10 (q + 1) u (some t) (jI (i : Int)) (jI ((j + 1 : Nat) : Int)) M4 P) hL' hu hT (by omega) (fun M2 h2 t2 n2 => ih (j + 1) M2 (by omega) (Fr_t hF h2) (by rw [if_pos (by omega)]; exact t2) (n2.trans hn))
          rw [show lw1 i (wx b) j = wx b j from if_pos (by omega), show lw1 i (wy b) j = wy b j from if_pos (by omega)] at this
          exact this
        · rw [if_neg c] at hT
          have := w29_s (P := fun M4 => w142_10 (q + 1) u (some t) (jI (i : Int)) (jI ((j + 1 : Nat) : Int)) M4 P) hL' hu hT (by omega) (fun M2 h2 t2 n2 => ih (j + 1) M2 (by omega) (Fr_t hF h2) (by rw [if_neg (by omega), show j + 1 - 1 = j - 1 + 1 by omega]; exact t2) (n2.trans hn))
          rw [show lw1 i (wx b) (j - 1) = wx b (j - 1 + 1) from if_neg (by omega), show lw1 i (wy b) (j - 1) = wy b (j - 1 + 1) from if_neg (by omega), show j - 1 + 1 = j by omega] at this
          exact this
  exact lp (wn b) 0 M1 (by omega) h1 (by rw [if_pos (by omega)]; exact t1) n1
noncomputable def wiA (k : Nat) (W : Nat → WY) (F : Int × Int) (l1 l2 l3 : Int32) : Int32 × Int32 × Int × Int :=
  if (isPb k (cnt W) l1 l2 && isWb k l3) = true then (if l1 = l3 then (0, 4, F) else if cL (W l1.toNatClampNeg) l2.toNatClampNeg = true then (1, 0, ft (shF 0 (lwW (W l1.toNatClampNeg) l2.toNatClampNeg) (W l3.toNatClampNeg)).1 (shF 0 (lwW (W l1.toNatClampNeg) l2.toNatClampNeg) (W l3.toNatClampNeg)).2, fb (shF 0 (lwW (W l1.toNatClampNeg) l2.toNatClampNeg) (W l3.toNatClampNeg)).1 (shF 0 (lwW (W l1.toNatClampNeg) l2.toNatClampNeg) (W l3.toNatClampNeg)).2) else (0, 5, F)) else (0, 2, F)
theorem w141_q {M : MM} {k : Nat} {W : Nat → WY} {F : Int × Int} {l1 l2 l3 : Int32} {P : Int32 → MM → Prop} (hL : Lay M) (hW : CWs M k W) (hF : CFr M F) (hX : ∀ M' r st F', Fr sCF M M' → mI M' 0 10 = st → CFr M' F' → (r, st, F') = wiA k W F l1 l2 l3 → P r M') : w141 0 l1 l2 l3 M P := by
  have hC := CWs_CW hL hW
  have k4 := hW.2.1
  have hg : ∀ w, w < k → gW (W w) := fun w hw => (hW.2.2 w hw).1
  unfold wiA at hX
  have no : (isPb k (cnt W) l1 l2 && isWb k l3) = false → w141_17 0 M P := fun e => by
    rw [e, if_neg (by decide)] at hX
    exact ⟨kd_0 hL, kd_0 hL, Or.inl rfl, hX _ _ _ F (Fr_s0F Fr_r) (gI_y ⟨rfl, rfl⟩) hF rfl⟩
  refine ⟨kd_0 hL, w45_s hC ?_⟩
  cases c1 : isPb k (cnt W) l1 l2 with
  | false => exact br_t rfl (no (by rw [c1, Bool.false_and]))
  | true =>
    refine br_f (by decide) ⟨kd_0 hL, w40_s hC ?_⟩
    cases c2 : isWb k l3 with
    | false => exact br_f (fun z => z rfl) (no (by rw [c2, Bool.and_false]))
    | true =>
      rw [c1, c2, if_pos (by decide)] at hX
      refine br_t (by decide) ⟨fun ne => ?_, fun ne => ?_⟩
      · rw [if_neg ne] at hX
        obtain ⟨w, i, rfl, rfl, hw, hi, e1, e2⟩ := isPb_j k4 hg c1
        obtain ⟨o, ho, rfl⟩ := isWb_j k4 c2
        have e3 : (jI (o : Int)).toNatClampNeg = o := jI_cn (by omega)
        rw [e1, e2, e3] at hX
        have ga := hg w hw
        have gb := hg o ho
        have a2 := ga.2.1
        have tw' : isT (191 + 3 * w) = true := isT_way (by omega)
        have hA := (hW.2.2 w hw).2
        have five : cL (W w) i = false → w141_65 0 M P := fun e => by
          rw [e, if_neg (by decide)] at hX
          exact ⟨kd_0 hL, kd_0 hL, Or.inl rfl, hX _ _ _ F (Fr_s0F Fr_r) (gI_y ⟨rfl, rfl⟩) hF rfl⟩
        refine ⟨kd_0 hL, 19, rf_0_5 hL, i19 hL (by omega), _, by rw [e1]; exact rf_19 hL (by omega), kd_T hL tw', ?_⟩
        rw [hA.1, show (2 : Int32) = jI 2 from rfl, jI_le (by omega) (by omega) (by omega) (by omega)]
        refine ⟨fun z => five (decide_eq_false (by omega)), fun z => ⟨kd_T hL tw', ?_⟩⟩
        rw [show (1 : Int32) = jI 1 from rfl, jI_sub, jI_add]
        have ac := alk_c (a := W w) (i := i) (by omega)
        refine w128_s hL tw' hA ga (by omega) (by omega) (by omega) (by omega) ?_
        cases c3 : alk (W w) ((i : Int) - 1) ((i : Int) + 1) with
        | true => rw [c3] at ac; exact br_f (by decide) (five ac)
        | false =>
          rw [c3] at ac
          have cT : cL (W w) i = true := ac
          rw [cT, if_pos rfl] at hX
          refine br_t rfl ⟨kd_0 hL, 185, rf_0_17 hL, kd_T hL isT_185, w142_s hL tw' isT_185 (Or.inr (by omega)) hA a2 hi (fun M2 h2 t2 _ => ?_)⟩
          have hL2 := h2.1 hL
          have hF2 : Fr sPi M M2 := Fr_w h2 (fun x k => sTk_P)
          have hW2 := CWs_P hF2 hW
          refine ⟨kd_0 hL2, kd_0 hL2, kd_0 hL2, 19, rf_0_5 hL2, i19 hL2 (by omega), kd_0 hL2, 58, rf_0_15 hL2, kd_58 hL2, ?_⟩
          rw [e3, rf_19 hL2 (by omega), rf_0_17 hL2, rf_0_12 hL2]
          refine w106_s hL2 isT_185 (isT_way (by omega)) t2 (hW2.2.2 o ho).2 (lw_g ga hi cT) gb (Or.inl rfl) (fun M3 n d h3 hs f0 f1 => ?_)
          have hL3 := h3.1 hL2
          have nf := isSh_F hs
          rw [← nf.1, ← nf.2] at hX
          refine ⟨kd_0 hL3, kd_0 hL3, ?_⟩
          rw [rf_0_12 hL3]
          exact w55_s hL3 (Or.inl rfl) f0 f1 (gE_F hs.1) (fun M4 h4 s4 t0 t1 => ⟨Or.inr rfl, hX _ _ _ (_, _) (Fr_t (Fr_w hF2 (fun x k z => sPi_Q (sCF_Q z))) (Fr_t (Fr_w h3 (fun x k h => sFi_F h)) h4)) s4 ⟨t0, t1⟩ rfl⟩)
      · rw [if_pos (Classical.not_not.mp ne)] at hX
        exact ⟨kd_0 hL, kd_0 hL, Or.inl rfl, hX _ _ _ F (Fr_s0F Fr_r) (gI_y ⟨rfl, rfl⟩) hF rfl⟩
/-! the reference -/
theorem w275_s {M : MM} {k w i : Nat} {W : Nat → WY} {P : Int32 → MM → Prop} (hL : Lay M) (hW : RWs M k W) (hw : w < k) (hi : i < wn (W w)) (hP : P (bI (cL (W w) i)) M) : w275 203 (jI (w : Int)) (jI (i : Int)) M P := by
  have ga := (hW.2.2 w hw).1
  have a2 := ga.2.1
  have no : cL (W w) i = false → w275_64 M P := fun e => ⟨Or.inl rfl, by rw [e] at hP; exact hP⟩
  have yes : cL (W w) i = true → w275_60 M P := fun e => ⟨Or.inr rfl, by rw [e] at hP; exact hP⟩
  refine ⟨kd_203 hL, w180_q hL hW hw ?_⟩
  rw [show (2 : Int32) = jI 2 from rfl, show (0 : Int32) = jI 0 from rfl, show (1 : Int32) = jI 1 from rfl, jI_sub, jI_le (by omega) (by omega) (by omega) (by omega), jI_eq (by omega) (by omega) (by omega) (by omega), jI_eq (by omega) (by omega) (by omega) (by omega)]
  refine ⟨fun z => no (decide_eq_false (by omega)), fun z => ⟨fun y => yes (decide_eq_true (by omega)), fun y => ⟨fun x => yes (decide_eq_true (by omega)), fun x => ⟨kd_203 hL, ?_⟩⟩⟩⟩
  rw [jI_sub, jI_add, show (i : Int) - 1 = ((i - 1 : Nat) : Int) by omega, c_s1]
  have b0 := ga.2.2.1 (i - 1) (by omega)
  have b1 := ga.2.2.1 (i + 1) (by omega)
  refine w184_q hL hW hw (by omega) ⟨kd_203 hL, w184_q hL hW hw (by omega) ?_⟩
  rw [ne_eq, jI_eq (by omega) (by omega) (by omega) (by omega)]
  refine ⟨fun v => yes (decide_eq_true ⟨by omega, fun u => v u.2.2.1⟩), fun v => ⟨kd_203 hL, w185_q hL hW hw (by omega) ⟨kd_203 hL, w185_q hL hW hw (by omega) ?_⟩⟩⟩
  rw [jI_eq (by omega) (by omega) (by omega) (by omega)]
  exact ⟨fun u => no (decide_eq_false (fun s => s.2 ⟨by omega, by omega, Classical.not_not.mp v, u⟩)), fun u => yes (decide_eq_true ⟨by omega, fun s => u s.2.2.2⟩)⟩
theorem w274_q {M : MM} {k : Nat} {W : Nat → WY} {F : Int × Int} {l1 l2 l3 : Int32} {P : Int32 → MM → Prop} (hL : Lay M) (hW : RWs M k W) (hF : RFr M F) (hX : ∀ M' r st F', Fr sRF M M' → mI M' 203 9 = st → RFr M' F' → (r, st, F') = wiA k W F l1 l2 l3 → P r M') : w274 203 l1 l2 l3 M P := by
  have hC := RWs_RW hL hW
  have k4 := hW.2.1
  have hg : ∀ w, w < k → gW (W w) := fun w hw => (hW.2.2 w hw).1
  unfold wiA at hX
  have no : (isPb k (cnt W) l1 l2 && isWb k l3) = false → w274_17 203 M P := fun e => by
    rw [e, if_neg (by decide)] at hX
    exact ⟨kd_203 hL, kd_203 hL, Or.inl rfl, hX _ _ _ F (Fr_s9F Fr_r) (gI_y ⟨rfl, rfl⟩) hF rfl⟩
  refine ⟨kd_203 hL, w183_s hC ?_⟩
  cases c1 : isPb k (cnt W) l1 l2 with
  | false => exact br_t rfl (no (by rw [c1, Bool.false_and]))
  | true =>
    refine br_f (by decide) ⟨kd_203 hL, w182_s hC ?_⟩
    cases c2 : isWb k l3 with
    | false => exact br_f (fun z => z rfl) (no (by rw [c2, Bool.and_false]))
    | true =>
      rw [c1, c2, if_pos (by decide)] at hX
      refine br_t (by decide) ⟨fun ne => ?_, fun ne => ?_⟩
      · rw [if_neg ne] at hX
        obtain ⟨w, i, rfl, rfl, hw, hi, e1, e2⟩ := isPb_j k4 hg c1
        obtain ⟨o, ho, rfl⟩ := isWb_j k4 c2
        have e3 : (jI (o : Int)).toNatClampNeg = o := jI_cn (by omega)
        rw [e1, e2, e3] at hX
        have ga := hg w hw
        have gb := hg o ho
        have a1 := ga.1
        have a2 := ga.2.1
        refine ⟨kd_203 hL, w275_s hL hW hw hi ?_⟩
        cases cT : cL (W w) i with
        | false =>
          rw [cT, if_neg (by decide)] at hX
          exact br_f (fun z => z rfl) ⟨kd_203 hL, kd_203 hL, Or.inl rfl, hX _ _ _ F (Fr_s9F Fr_r) (gI_y ⟨rfl, rfl⟩) hF rfl⟩
        | true =>
          rw [cT, if_pos rfl] at hX
          refine br_t (by decide) ⟨kd_203 hL, w211_s hL hW hw ho (fun M1 h1 hR1 => ⟨wn (W w) - i, ?_⟩)⟩
          have hL1 := h1.1 hL
          have hF1 : Fr sPw M M1 := Fr_w h1 (fun x k z => sB_w (by omega) (by omega) x k z)
          have lp : ∀ (q j : Nat) (M' : MM), j + q + 1 = wn (W w) → i ≤ j → Fr sRA M1 M' → mI M' 203 27 = jI (wn (W w) : Int) → (∀ x, x < wn (W w) → mI M' 210 x = jI (if x < j then lw1 i (wx (W w)) x else wx (W w) x) ∧ mI M' 211 x = jI (if x < j then lw1 i (wy (W w)) x else wy (W w) x)) → w274_58 (q + 1) 203 (jI (j : Int)) M' P := by
            intro q
            induction q with
            | zero =>
              intro j M' hj ij h' h27 hp
              have hL' := h'.1 hL1
              refine ⟨kd_203 hL', br_t (by rw [h27, show (1 : Int32) = jI 1 from rfl, jI_add, jI_le (by omega) (by omega) (by omega) (by omega)]; omega) ⟨kd_203 hL', kd_203 hL', ?_⟩⟩
              rw [h27, show jI (wn (W w) : Int) - 1 = jI ((wn (W w) - 1 : Nat) : Int) by rw [show (1 : Int32) = jI 1 from rfl, jI_sub]; congr 1; omega]
              have h2 : Fr sRA M1 (sI M' 203 27 (jI ((wn (W w) - 1 : Nat) : Int))) := Fr_sI h' (sB_t1 (by omega))
              have hL2 := h2.1 hL1
              have rA : RA1 (sI M' 203 27 (jI ((wn (W w) - 1 : Nat) : Int))) (lwW (W w) i) := ⟨gI_y ⟨rfl, rfl⟩, fun x hx => by
                have hx' : x < wn (W w) - 1 := hx
                have q := hp x (by omega)
                rw [if_pos (by omega), if_pos (by omega)] at q
                rw [gI_n (by omega), gI_n (by omega)]
                exact q⟩
              have rB : RB1 (sI M' 203 27 (jI ((wn (W w) - 1 : Nat) : Int))) (W o) := ⟨(Fr_I h2 (sB_f (by omega) (by omega))).trans hR1.2.1, fun x hx => ⟨(Fr_I h2 (sB_f (by omega) (by omega))).trans (hR1.2.2.2 x hx).1, (Fr_I h2 (sB_f (by omega) (by omega))).trans (hR1.2.2.2 x hx).2⟩⟩
              generalize sI M' 203 27 (jI ((wn (W w) - 1 : Nat) : Int)) = M2 at *
              refine ⟨kd_203 hL2, w245_s hL2 (RAB_i rA rB) (lw_g ga hi cT) gb (Or.inl rfl) (fun M3 n d h3 hs f0 f1 _ => ?_)⟩
              have hL3 := h3.1 hL2
              have hF3 : Fr sPw M M3 := Fr_t hF1 (Fr_t (Fr_w h2 (fun x k z => sB_w (by omega) (by omega) x k z)) (Fr_w h3 (fun x k z => sB_w (by omega) (by omega) x k z)))
              have hF3' : Fr sRF M M3 := Fr_w hF3 (fun x k z => sPw_Q (sRF_Q z))
              have nf := isSh_F hs
              rw [← nf.1, ← nf.2] at hX
              refine ⟨kd_203 hL3, kd_203 hL3, kd_203 hL3, kd_203 hL3, ?_⟩
              rw [f0, f1]
              refine w195_s hL3 (gE_F hs.1) ⟨kd_203 hL3, Or.inr rfl, ?_⟩
              refine hX _ _ _ (_, _) (Fr_s9F (Fr_sL (Fr_sL hF3' (sRF_1 (by omega))) (sRF_1 (by omega)))) (gI_y ⟨rfl, rfl⟩) ⟨?_, ?_⟩ rfl
              · rw [gL_sI, gL_n (by omega), gL_y ⟨rfl, rfl⟩]
              · rw [gL_sI, gL_y ⟨rfl, rfl⟩]
            | succ q ih =>
              intro j M' hj ij h' h27 hp
              have hL' := h'.1 hL1
              have ej : jI (j : Int) + 1 = jI ((j + 1 : Nat) : Int) := by rw [show (1 : Int32) = jI 1 from rfl, jI_add, c_s1]
              unfold w274_58 w274_101
              rw [ej, h27, jI_cn (by omega), jI_cn (by omega)]
              refine ⟨kd_203 hL', br_f (by rw [jI_le (by omega) (by omega) (by omega) (by omega)]; omega) ⟨kd_203 hL', kd_203 hL', 210, rf_203_23 hL', i210 hL' (by omega), i210 hL' (by omega), kd_203 hL', kd_203 hL', 211, rf_203_24 (lay_sI hL'), i211 hL' (by omega), i211 hL' (by omega), ?_⟩⟩
              have q1 := hp (j + 1) (by omega)
              rw [if_neg (by omega), if_neg (by omega)] at q1
              refine ih (j + 1) _ (by omega) (by omega) (Fr_sI (Fr_sI h' (sB_t2 (by omega))) (sB_t2 (by omega))) (by rw [gI_n (by omega), gI_n (by omega)]; exact h27) (fun x hx => ?_)
              by_cases e : x = j
              · subst e
                rw [gI_n (by omega), gI_y ⟨rfl, rfl⟩, gI_y ⟨rfl, rfl⟩, gI_n (by omega), q1.1, q1.2, if_pos (by omega), if_pos (by omega), show lw1 i (wx (W w)) x = wx (W w) (x + 1) from if_neg (by omega), show lw1 i (wy (W w)) x = wy (W w) (x + 1) from if_neg (by omega)]
                exact ⟨rfl, rfl⟩
              · have q2 := hp x hx
                rw [gI_n (by omega), gI_n (by omega), gI_n (by omega), gI_n (by omega)]
                by_cases c : x < j
                · rw [if_pos c, if_pos c] at q2
                  rw [if_pos (by omega), if_pos (by omega)]; exact q2
                · rw [if_neg c, if_neg c] at q2
                  rw [if_neg (by omega), if_neg (by omega)]; exact q2
          have := lp (wn (W w) - 1 - i) i M1 (by omega) (Nat.le_refl _) Fr_r hR1.1 (fun x hx => by
            by_cases c : x < i
            · rw [if_pos c, if_pos c, show lw1 i (wx (W w)) x = wx (W w) x from if_pos c, show lw1 i (wy (W w)) x = wy (W w) x from if_pos c]; exact hR1.2.2.1 x hx
            · rw [if_neg c, if_neg c]; exact hR1.2.2.1 x hx)
          rw [show wn (W w) - 1 - i + 1 = wn (W w) - i by omega] at this
          exact this
      · rw [if_pos (Classical.not_not.mp ne)] at hX
        exact ⟨kd_203 hL, kd_203 hL, Or.inl rfl, hX _ _ _ F (Fr_s9F Fr_r) (gI_y ⟨rfl, rfl⟩) hF rfl⟩
