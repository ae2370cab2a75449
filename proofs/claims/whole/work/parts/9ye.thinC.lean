/-! thinned: the class -/
def ew1 (f : Nat → Int) (i k : Nat) : Nat → Int := fun x => if x = 0 then f i else f k
def ewW (a : WY) (i k : Nat) : WY := (2, ew1 (wx a) i k, ew1 (wy a) i k)
def smP (a : WY) (i k : Nat) : Bool := decide (wx a i = wx a k ∧ wy a i = wy a k)
def spB (a : WY) (n d : Int) (i k : Nat) : Bool := !(smP a i k) && srv 2 (wn (pc a i k)) (geo (ewW a i k) (pc a i k) n d)
theorem ew_g {a : WY} {i k : Nat} (h : gW a) (hi : i < wn a) (hk : k < wn a) (hs : smP a i k = false) : gW (ewW a i k) := by
  have p := h.2.2.1 i hi
  have q := h.2.2.1 k hk
  refine ⟨Nat.le_refl _, by show 2 ≤ 8; omega, fun x hx => ?_, fun x hx => ?_⟩
  · show 0 ≤ ew1 (wx a) i k x ∧ ew1 (wx a) i k x ≤ 18 ∧ 0 ≤ ew1 (wy a) i k x ∧ ew1 (wy a) i k x ≤ 18
    unfold ew1
    by_cases c : x = 0
    · rw [if_pos c, if_pos c]; exact p
    · rw [if_neg c, if_neg c]; exact q
  · have hx' : x + 1 < 2 := hx
    have e : x = 0 := by omega
    subst e
    exact of_decide_eq_false hs
theorem sp_1 {a : WY} {n d : Int} {i : Nat} (h : gW a) (hi : i + 1 < wn a) (n0 : 0 ≤ n) (d0 : 0 < d) : spB a n d i (i + 1) = true := by
  have s : smP a i (i + 1) = false := decide_eq_false (h.2.2.2 i hi)
  have ga := ew_g h (show i < wn a by omega) hi s
  have gb := pc_g h (show i < i + 1 by omega) hi
  have e2 : wn (pc a i (i + 1)) = 2 := by show i + 1 + 1 - i = 2; omega
  have z : ∀ x, x < 2 → qd (ewW a i (i + 1)) x (pc a i (i + 1)) x = 0 := fun x hx => by
    have c : x = 0 ∨ x = 1 := by omega
    rcases c with rfl | rfl
    · show (wx a i - wx a (i + 0)) * (wx a i - wx a (i + 0)) + (wy a i - wy a (i + 0)) * (wy a i - wy a (i + 0)) = 0
      rw [Nat.add_zero, Int.sub_self, Int.sub_self]; rfl
    · show (wx a (i + 1) - wx a (i + 1)) * (wx a (i + 1) - wx a (i + 1)) + (wy a (i + 1) - wy a (i + 1)) * (wy a (i + 1) - wy a (i + 1)) = 0
      rw [Int.sub_self, Int.sub_self]; rfl
  unfold spB
  rw [s]
  show srv (wn (ewW a i (i + 1))) (wn (pc a i (i + 1))) _ = true
  refine srv_hop (Hp := fun x y => x = y) ga.1 gb.1 (geo_ok ga gb d0) (fun x y hx hy e => ?_) rfl
  have hx' : x < 2 := hx
  have e' : x = y := e
  subst e'
  refine ⟨decide_eq_true ?_, ?_⟩
  · rw [z x hx']; omega
  · by_cases c : x = 1
    · left; subst c; exact ⟨rfl, by rw [e2]⟩
    · right; left
      refine ⟨?_, ?_, rfl⟩
      · show x + 1 < 2; omega
      · rw [e2]; omega
theorem isT_188 : isT 188 = true := by decide
theorem w132_s {M : MM} {a : WY} {i k : Nat} {P : MM → Prop} (hL : Lay M) (hB : TrC M 185 (pc a i k)) (ik : i < k) (k8 : k < 8) (hX : ∀ M', Fr (sTk 188) M M' → TrC M' 188 (ewW a i k) → P M') : w132 188 (some 185) M P := by
  have hn : wn (pc a i k) = k + 1 - i := rfl
  refine ⟨185, rfl, kd_T hL isT_185, kd_T hL isT_188, w25_s (f := ew1 (wx a) i k) (g := ew1 (wy a) i k) hL isT_188 (fun M1 h1 t1 _ => ?_)⟩
  have hL1 := h1.1 hL
  have ap : aprt 185 188 := Or.inl (by omega)
  have hB1 := TrC_k h1 ap hB
  have q0 := hB1.2 0 (by rw [hn]; omega)
  refine ⟨kd_T hL1 isT_185, br_f ?_ ⟨kd_T hL1 isT_185, 186, rfx_T hL1 isT_185, inxj (k := 0) hL1 isT_185 (by omega), kd_T hL1 isT_185, 187, rfy_T hL1 isT_185, inyj (k := 0) hL1 isT_185 (by omega), kd_T hL1 isT_188, ?_⟩⟩
  · rw [hB1.1, hn, show (0 : Int32) = jI 0 from rfl, jI_le (by omega) (by omega) (by omega) (by omega)]; omega
  rw [show (0 : Int32).toNatClampNeg = 0 from rfl, q0.1, q0.2]
  refine w29_s (c := 0) (f := ew1 (wx a) i k) (g := ew1 (wy a) i k) hL1 isT_188 t1 (by omega) (fun M2 h2 t2 _ => ?_)
  have hL2 := h2.1 hL1
  have hB2 := TrC_k h2 ap hB1
  have q1 := hB2.2 (k - i) (by rw [hn]; omega)
  have e1 : mI M2 185 1 - 1 = jI ((k - i : Nat) : Int) := by rw [hB2.1, hn, show (1 : Int32) = jI 1 from rfl, jI_sub]; congr 1; omega
  have xk : wx (pc a i k) (k - i) = wx a k := by show wx a (i + (k - i)) = wx a k; rw [show i + (k - i) = k by omega]
  have yk : wy (pc a i k) (k - i) = wy a k := by show wy a (i + (k - i)) = wy a k; rw [show i + (k - i) = k by omega]
  rw [e1]
  refine ⟨kd_T hL2 isT_185, kd_T hL2 isT_185, 186, rfx_T hL2 isT_185, inxj hL2 isT_185 (by omega), kd_T hL2 isT_185, kd_T hL2 isT_185, 187, rfy_T hL2 isT_185, inyj hL2 isT_185 (by omega), kd_T hL2 isT_188, ?_⟩
  rw [jI_cn (by omega), q1.1, q1.2, xk, yk]
  exact w29_s (c := 1) (f := ew1 (wx a) i k) (g := ew1 (wy a) i k) hL2 isT_188 t2 (by omega) (fun M3 h3 t3 _ => hX M3 (Fr_t h1 (Fr_t h2 h3)) t3)
def spF (a : WY) (n d : Int) (p : Nat) : Bool := pcV a p && spB a n d (p / 8) (p % 8)
/-- which steps have been found, up to a number -/
def stI (a : WY) (n d : Int) (cur : Nat) (x : Int64) : Prop := ∀ p, p < 64 → bt x p = (decide (p < cur) && spF a n d p)
theorem stI_k {a : WY} {n d : Int} {c c' : Nat} {x : Int64} (h : stI a n d c x) (cc : c ≤ c') (hv : ∀ e, c ≤ e → e < c' → pcV a e = false) : stI a n d c' x := fun p hp => by
  rw [h p hp]
  by_cases z : p < c
  · rw [decide_eq_true z, decide_eq_true (show p < c' by omega)]
  · rw [decide_eq_false z, Bool.false_and]
    by_cases y : p < c'
    · have : spF a n d p = false := by unfold spF; rw [hv p (by omega) y, Bool.false_and]
      rw [this, Bool.and_false]
    · rw [decide_eq_false y, Bool.false_and]
theorem sTk_Q {u x k : Nat} (hu : u = 185 ∨ u = 188) (h : sCQ x k = false) : sTk u x k = false := by
  refine sB_f (fun z => ?_) (fun z => ?_)
  · rw [show sCQ x k = sB 0 10 10 55 190 x k from rfl, sB_t2 (by omega)] at h; cases h
  · rw [show sCQ x k = sB 0 10 10 55 190 x k from rfl, sB_t2 (by omega)] at h; cases h
theorem w131_s {M0 : MM} {t : Nat} {a : WY} {n d : Int} {P : Int64 → MM → Prop} (hL0 : Lay M0) (ht : isT t = true) (t1 : 190 < t) (hA0 : TrC M0 t a) (ga : gW a) (n0 : 0 ≤ n) (n1 : n ≤ 100000) (d0 : 1 ≤ d) (d1 : d ≤ 1000) (hX : ∀ M' x, Fr sCQ M0 M' → stI a n d 64 x → P x M') : w131 0 (some t) (jI n) (jI d) M0 P := by
  have a1 := ga.1
  have a2 := ga.2.1
  have tr : ∀ M, Fr sCQ M0 M → TrC M t a := fun M h => TrC_fr2 h (fun x k _ _ => sB_f (by have := isT_lt ht; omega) (by omega)) hA0
  have inner : ∀ (K : Nat → Option Nat → Int32 → Int32 → Int64 → Int32 → MM → Prop) (i : Nat), i < wn a → (∀ M' x, Fr sCQ M0 M' → stI a n d (8 * i + wn a) x → K 0 (some t) (jI n) (jI d) x (jI ((i + 1 : Nat) : Int)) M') → ∀ (q k : Nat) (x : Int64) (M : MM), k + q = wn a → i < k → Fr sCQ M0 M → stI a n d (8 * i + k) x → w131_21 K (q + 1) 0 (some t) (jI n) (jI d) x (jI (i : Int)) (jI (k : Int)) M P := by
    intro K i hi hK q
    induction q with
    | zero =>
      intro k x M hk ik h hs
      have hL := h.1 hL0
      refine ⟨t, rfl, kd_T hL ht, br_t (by rw [(tr M h).1, jI_le (by omega) (by omega) (by omega) (by omega)]; omega) ?_⟩
      rw [show jI (i : Int) + 1 = jI ((i + 1 : Nat) : Int) by rw [show (1 : Int32) = jI 1 from rfl, jI_add, c_s1]]
      rw [show k = wn a by omega] at hs
      exact hK M x h hs
    | succ q ih =>
      intro k x M hk ik h hs
      have hL := h.1 hL0
      have hk' : k < wn a := by omega
      have ek : jI (k : Int) + 1 = jI ((k + 1 : Nat) : Int) := by rw [show (1 : Int32) = jI 1 from rfl, jI_add, c_s1]
      have ee : jI (i : Int) * 8 + jI (k : Int) = jI ((8 * i + k : Nat) : Int) := by rw [show (8 : Int32) = jI 8 from rfl, jI_mul, jI_add]; congr 1; omega
      have hv : pcV a (8 * i + k) = true := pcV_t (by omega) ik hk'
      have e8 : (8 * i + k) / 8 = i := by omega
      have e9 : (8 * i + k) % 8 = k := by omega
      have skip : spB a n d i k = false → stI a n d (8 * i + (k + 1)) x := fun c p hp => by
        rw [hs p hp]
        by_cases z : p = 8 * i + k
        · subst z
          have : spF a n d (8 * i + k) = false := by unfold spF; rw [e8, e9, c, Bool.and_false]
          rw [this, Bool.and_false, Bool.and_false]
        · by_cases y : p < 8 * i + k
          · rw [decide_eq_true y, decide_eq_true (show p < 8 * i + (k + 1) by omega)]
          · rw [decide_eq_false y, decide_eq_false (show ¬ p < 8 * i + (k + 1) by omega)]
      have take : spB a n d i k = true → stI a n d (8 * i + (k + 1)) (x ||| lN (2 ^ (8 * i + k))) := fun c p hp => by
        rw [bt_or, hs p hp, bt_pow (by omega)]
        by_cases z : p = 8 * i + k
        · subst z
          have : spF a n d (8 * i + k) = true := by unfold spF; rw [e8, e9, c, hv]; rfl
          rw [this, decide_eq_true (show 8 * i + k < 8 * i + (k + 1) by omega), decide_eq_true (rfl : 8 * i + k = 8 * i + k), Bool.or_true]; rfl
        · rw [decide_eq_false z, Bool.or_false]
          by_cases y : p < 8 * i + k
          · rw [decide_eq_true y, decide_eq_true (show p < 8 * i + (k + 1) by omega)]
          · rw [decide_eq_false y, decide_eq_false (show ¬ p < 8 * i + (k + 1) by omega)]
      refine ⟨t, rfl, kd_T hL ht, br_f (by rw [(tr M h).1, jI_le (by omega) (by omega) (by omega) (by omega)]; omega) ⟨kd_0 hL, 185, rf_0_17 hL, kd_T hL isT_185, w32_s hL ht isT_185 (Or.inr (by omega)) (tr M h) a2 (by omega) hk' (fun M1 h1 t1' _ => ?_)⟩⟩
      have hF1 : Fr sCQ M0 M1 := Fr_t h (Fr_w h1 (fun x k => sTk_Q (Or.inl rfl)))
      have hL1 := hF1.1 hL0
      refine ⟨kd_0 hL1, kd_0 hL1, 188, rf_0_18 hL1, kd_T hL1 isT_188, ?_⟩
      rw [rf_0_17 hL1]
      refine w132_s hL1 t1' ik (by omega) (fun M2 h2 t2 => ?_)
      have hF2 : Fr sCQ M0 M2 := Fr_t hF1 (Fr_w h2 (fun x k => sTk_Q (Or.inr rfl)))
      have hL2 := hF2.1 hL0
      refine ⟨kd_T hL2 ht, w128_s hL2 ht (tr M2 hF2) ga (by omega) (by omega) (by omega) (by omega) ?_⟩
      have ea : alk a (i : Int) (k : Int) = smP a i k := by
        unfold alk smP
        rw [decide_eq_decide, Int.toNat_natCast, Int.toNat_natCast]
        exact ⟨fun z => z.2.2.2.2, fun z => ⟨by omega, by omega, by omega, by omega, z.1, z.2⟩⟩
      rw [ea]
      unfold w131_100
      rw [ek, ee, shl_1 (show 8 * i + k < 64 by omega)]
      cases cs : smP a i k with
      | true => exact br_t (by decide) (ih (k + 1) x M2 (by omega) (by omega) hF2 (skip (by unfold spB; rw [cs]; rfl)))
      | false =>
        refine br_f (fun z => z rfl) ⟨kd_0 hL2, kd_0 hL2, kd_0 hL2, 58, rf_0_15 hL2, kd_58 hL2, ?_⟩
        rw [rf_0_17 hL2, rf_0_18 hL2]
        have t3 : TrC M2 185 (pc a i k) := TrC_k h2 (Or.inl (by omega)) t1'
        refine w95_s hL2 isT_188 isT_185 (by omega) (by omega) t2 t3 (ew_g ga (by omega) hk' cs) (pc_g ga ik hk') (Or.inl rfl) n0 n1 d0 d1 (fun M3 e h3 he => ?_)
        have hF3 := Fr_t hF2 h3
        have es : spB a n d i k = e := by
          unfold spB
          rw [cs, Eno_0 he]
          rfl
        cases e with
        | false => exact br_t rfl (ih (k + 1) x M3 (by omega) (by omega) hF3 (skip es))
        | true => exact br_f (by decide) (ih (k + 1) _ M3 (by omega) (by omega) hF3 (take es))
  have outer : ∀ (q i : Nat) (x : Int64) (M : MM), i + q = wn a → Fr sCQ M0 M → stI a n d (8 * i) x → w131_6 (q + 1) 0 (some t) (jI n) (jI d) x (jI (i : Int)) M P := by
    intro q
    induction q with
    | zero =>
      intro i x M hi h hs
      have hL := h.1 hL0
      refine ⟨t, rfl, kd_T hL ht, br_t (by rw [(tr M h).1, jI_le (by omega) (by omega) (by omega) (by omega)]; omega) (hX M x h (stI_k hs (by omega) (fun e x1 x2 => decide_eq_false (by omega))))⟩
    | succ q ih =>
      intro i x M hi h hs
      have hL := h.1 hL0
      refine ⟨t, rfl, kd_T hL ht, br_f (by rw [(tr M h).1, jI_le (by omega) (by omega) (by omega) (by omega)]; omega) ⟨wn a - (i + 1) + 1, ?_⟩⟩
      rw [show jI (i : Int) + 1 = jI ((i + 1 : Nat) : Int) by rw [show (1 : Int32) = jI 1 from rfl, jI_add, c_s1]]
      exact inner _ i (by omega) (fun M' x' h' hs' => ih (i + 1) x' M' (by omega) h' (stI_k hs' (by omega) (fun e x1 x2 => decide_eq_false (by omega)))) (wn a - (i + 1)) (i + 1) x M (by omega) (by omega) h (stI_k hs (by omega) (fun e x1 x2 => decide_eq_false (by omega)))
  exact ⟨wn a + 1, outer (wn a) 0 0 M0 (by omega) Fr_r (fun p hp => by rw [bt_0, decide_eq_false (by omega), Bool.false_and])⟩
theorem w134_s {M : MM} {a : WY} {n d : Int} {x : Int32} {st : Int64} {P : Int32 → MM → Prop} (ga : gW a) (hs : stI a n d 64 st) (hP : P (bI (chW (spB a n d) x (wn a - 1)).isSome) M) : w134 x (jI ((wn a - 1 : Nat) : Int)) st M P := by
  have a1 := ga.1
  have a2 := ga.2.1
  have lp : ∀ (q t f : Nat), t + q = wn a - 1 → chW (spB a n d) x t = some f → w134_6 (q + 1) x (jI ((wn a - 1 : Nat) : Int)) st (jI (f : Int)) (jI ((t + 1 : Nat) : Int)) M P := by
    intro q
    induction q with
    | zero =>
      intro t f ht hf
      refine br_t (by rw [jI_lt (by omega) (by omega) (by omega) (by omega)]; omega) ?_
      rw [show t = wn a - 1 by omega] at hf
      rw [hf] at hP
      exact hP
    | succ q ih =>
      intro t f ht hf
      have fl := chW_l hf
      have cs := chW_s hf
      refine br_f (by rw [jI_lt (by omega) (by omega) (by omega) (by omega)]; omega) ?_
      have ee : jI (f : Int) * 8 + jI ((t + 1 : Nat) : Int) = jI ((8 * f + (t + 1) : Nat) : Int) := by rw [show (8 : Int32) = jI 8 from rfl, jI_mul, jI_add]; congr 1; omega
      have e1 : jI ((t + 1 : Nat) : Int) + 1 = jI ((t + 1 + 1 : Nat) : Int) := by rw [show (1 : Int32) = jI 1 from rfl, jI_add, c_s1]
      have bb : bt st (8 * f + (t + 1)) = spB a n d f (t + 1) := by
        rw [hs _ (by omega), decide_eq_true (show 8 * f + (t + 1) < 64 by omega), Bool.true_and]
        unfold spF
        rw [pcV_t (by omega) (by omega) (by omega), show (8 * f + (t + 1)) / 8 = f by omega, show (8 * f + (t + 1)) % 8 = t + 1 by omega]; rfl
      unfold w134_44
      rw [ee, e1]
      refine ⟨fun z => ?_, fun z => ?_⟩
      · have nb : sbt x (t + 1) = false := decide_eq_false (fun y => y z)
        rw [if_neg (by rw [nb]; decide)] at cs
        exact ih (t + 1) f (by omega) cs
      · have yb : sbt x (t + 1) = true := decide_eq_true z
        rw [if_pos yb] at cs
        have tz : ((st.toUInt64 >>> ((jI ((8 * f + (t + 1) : Nat) : Int)).toInt64.toUInt64 &&& Int64.toUInt64 63)).toInt64 &&& (1 : Int64)) = 0 ↔ spB a n d f (t + 1) = false := by
          rw [tst_1, bt_shr (show 8 * f + (t + 1) < 64 by omega), Nat.add_zero, bb]
        refine ⟨fun y => ?_, fun y => ?_⟩
        · have c : spB a n d f (t + 1) = true := by
            cases c : spB a n d f (t + 1) with
            | true => rfl
            | false => exact absurd ((lc_eq _ _).mpr (tz.mpr c)) y
          rw [if_pos c] at cs
          exact ih (t + 1) (t + 1) (by omega) cs
        · have c := tz.mp ((lc_eq _ _).mp (Classical.not_not.mp y))
          rw [if_neg (by rw [c]; decide)] at cs
          rw [chW_k cs (show t + 1 ≤ wn a - 1 by omega)] at hP
          exact hP
  exact ⟨wn a - 1 + 1, lp (wn a - 1) 0 0 (by omega) rfl⟩
