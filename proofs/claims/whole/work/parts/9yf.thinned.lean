/-! thinned: the questions -/
def thiA (k : Nat) (W : Nat → WY) (l1 l2 l3 l4 : Int32) : Int32 × Int32 :=
  if (lsb l2 l3 && frb l4 0 1) = true then (if isWb k l1 = true then ((if l4 = 0 then bcF (jI (thO (spB (W l1.toNatClampNeg) l2.toInt l3.toInt) (wn (W l1.toNatClampNeg)) : Int)) else jI (thO (spB (W l1.toNatClampNeg) l2.toInt l3.toInt) (wn (W l1.toNatClampNeg)) : Int)), 0) else (-1, 2)) else (-1, 1)
theorem thV_l {sp : Nat → Nat → Bool} {n m : Nat} (h2 : 2 ≤ n) (h8 : n ≤ 8) (h : thV sp n m = true) : 1 + 2 ^ (n - 1) ≤ m := by
  obtain ⟨_, _, _, e4, _, _, _⟩ := th_b n (by omega) h2
  rcases Nat.lt_or_ge m (1 + 2 ^ (n - 1)) with z | z
  · exfalso
    exact e4 m z (of_decide_eq_true (Bool.and_eq_true_iff.mp h).1)
  · exact z
theorem w130_81_s {M : MM} {a : WY} {n d : Int} {l4 : Int32} {st : Int64} {P : Int32 → MM → Prop} (hL : Lay M) (ga : gW a) (n0 : 0 ≤ n) (d0 : 0 < d) (hs : stI a n d 64 st) (hP : P (if l4 = 0 then bcF (jI (thO (spB a n d) (wn a) : Int)) else jI (thO (spB a n d) (wn a) : Int)) (sI M 0 10 0)) : ∃ N, w130_81 N 0 l4 (jI ((wn a - 1 : Nat) : Int)) st (enE (wn a)) 0 (enE (wn a)) M P := by
  have a1 := ga.1
  have a2 := ga.2.1
  obtain ⟨e1, e2, e3, e4, e5, e6, e7⟩ := th_b (wn a) (by omega) a1
  obtain ⟨m0, hm0⟩ := th_so (sp := spB a n d) a1 a2 (fun i hi => sp_1 ga hi n0 d0)
  have ho : thO (spB a n d) (wn a) = m0 := by unfold thO; rw [hm0]; rfl
  have ple : 1 + 2 ^ (wn a - 1) ≤ 2 ^ wn a := by
    have q := thV_l a1 a2 (agv_l hm0).2
    have := (agv_l hm0).1
    omega
  have lp : ∀ (q s : Nat) (l9 : Int32), s + q = 2 ^ wn a → 1 + 2 ^ (wn a - 1) ≤ s → ((agv (thV (spB a n d) (wn a)) thC s = none ∧ l9 = 0) ∨ ∃ m, agv (thV (spB a n d) (wn a)) thC s = some m ∧ l9 = jI (m : Int)) → w130_81 (q + 1) 0 l4 (jI ((wn a - 1 : Nat) : Int)) st (enE (wn a)) l9 (jI (s : Int)) M P := by
    intro q
    induction q with
    | zero =>
      intro s l9 hsq es hb
      have : s = 2 ^ wn a := by omega
      subst this
      refine br_t (by rw [e2]; exact Int32.le_refl _) ?_
      rw [hm0] at hb
      rcases hb with ⟨z, _⟩ | ⟨m, z, rfl⟩
      · cases z
      · cases z
        rw [ho] at hP
        refine ⟨fun z => ⟨0, rfl, kd_0 hL, kd_0 hL, ?_⟩, fun z => w133_s ⟨0, rfl, kd_0 hL, kd_0 hL, ?_⟩⟩
        · rw [if_neg z] at hP; exact hP
        · rw [if_pos (Classical.not_not.mp z)] at hP; exact hP
    | succ q ih =>
      intro s l9 hsq es hb
      have es1 : jI (s : Int) + 1 = jI ((s + 1 : Nat) : Int) := by rw [show (1 : Int32) = jI 1 from rfl, jI_add, c_s1]
      have go : ∀ l9', ((agv (thV (spB a n d) (wn a)) thC (s + 1) = none ∧ l9' = 0) ∨ ∃ m, agv (thV (spB a n d) (wn a)) thC (s + 1) = some m ∧ l9' = jI (m : Int)) → w130_146 (fun z0 z1 z2 z3 z4 z5 z6 z7 => w130_81 (q + 1) z0 z1 z2 z3 z4 z5 z6 z7 P) 0 l4 (jI ((wn a - 1 : Nat) : Int)) st (enE (wn a)) l9' (jI (s : Int)) M P := fun l9' h => by
        unfold w130_146
        rw [es1]
        exact ih (s + 1) l9' (by omega) (by omega) h
      have ev : thV (spB a n d) (wn a) s = (decide ((jI (s : Int) &&& enE (wn a)) = enE (wn a)) && (chW (spB a n d) (jI (s : Int)) (wn a - 1)).isSome) := rfl
      refine br_f (by rw [e2, jI_le (by omega) (by omega) (by omega) (by omega)]; omega) ?_
      -- taken if it is a chain
      have t108 : (thV (spB a n d) (wn a) s = true → agv (thV (spB a n d) (wn a)) thC (s + 1) = some s) → w130_108 (fun z0 z1 z2 z3 z4 z5 z6 z7 => w130_81 (q + 1) z0 z1 z2 z3 z4 z5 z6 z7 P) 0 l4 (jI ((wn a - 1 : Nat) : Int)) st (enE (wn a)) l9 (jI (s : Int)) M P := fun ht => by
        have keep : thV (spB a n d) (wn a) s = false → w130_146 (fun z0 z1 z2 z3 z4 z5 z6 z7 => w130_81 (q + 1) z0 z1 z2 z3 z4 z5 z6 z7 P) 0 l4 (jI ((wn a - 1 : Nat) : Int)) st (enE (wn a)) l9 (jI (s : Int)) M P := fun c => go l9 (by rw [agv_n c]; exact hb)
        refine br_f (by decide) ⟨fun z => keep (by rw [ev, decide_eq_false z, Bool.false_and]), fun z => w134_s ga hs ?_⟩
        rw [decide_eq_true (Classical.not_not.mp z), Bool.true_and] at ev
        cases c : (chW (spB a n d) (jI (s : Int)) (wn a - 1)).isSome with
        | false => exact br_t rfl (keep (ev.trans c))
        | true => exact br_f (by decide) (go (jI (s : Int)) (Or.inr ⟨s, ht (ev.trans c), rfl⟩))
      rcases hb with ⟨z1, rfl⟩ | ⟨m, z1, rfl⟩
      · exact br_t rfl (t108 (fun v => agv_0 v z1))
      · have ml := agv_l z1
        have mv := thV_l a1 a2 ml.2
        have pp : 0 < 2 ^ (wn a - 1) := Nat.pow_pos (by omega)
        refine br_f (by rw [show (0 : Int32) = jI 0 from rfl, jI_eq (by omega) (by omega) (by omega) (by omega)]; omega) (w133_s (w133_s ⟨fun z => ?_, fun z => t108 (fun v => ?_)⟩))
        · refine br_t rfl (go _ (Or.inr ⟨m, ?_, rfl⟩))
          by_cases v : thV (spB a n d) (wn a) s = true
          · rw [agv_1 v z1, if_neg (show ¬ thC s m = true from fun y => absurd (of_decide_eq_true y) (Int32.not_lt.mpr z))]
          · rw [agv_n (by simpa using v)]; exact z1
        · rw [agv_1 v z1, if_pos (show thC s m = true from decide_eq_true (Int32.not_le.mp z))]
  refine ⟨2 ^ wn a - (1 + 2 ^ (wn a - 1)) + 1, ?_⟩
  have := lp (2 ^ wn a - (1 + 2 ^ (wn a - 1))) (1 + 2 ^ (wn a - 1)) 0 (by omega) (Nat.le_refl _) (Or.inl ⟨?_, rfl⟩)
  · rw [← e1] at this; exact this
  · rw [agv_k (v := thV (spB a n d) (wn a)) (x := 0) (Nat.zero_le _) (fun e _ x2 => by
      unfold thV; rw [decide_eq_false (e4 e x2), Bool.false_and])]
    rfl
theorem w130_q {M : MM} {k : Nat} {W : Nat → WY} {l1 l2 l3 l4 : Int32} {P : Int32 → MM → Prop} (hL : Lay M) (hW : CWs M k W) (hX : ∀ M' r st, Fr sCQ M M' → mI M' 0 10 = st → (r, st) = thiA k W l1 l2 l3 l4 → P r M') : w130 0 l1 l2 l3 l4 M P := by
  have hC := CWs_CW hL hW
  have k4 := hW.2.1
  unfold thiA at hX
  have one : (lsb l2 l3 && frb l4 0 1) = false → w130_19 0 M P := fun e => by
    rw [e, if_neg (by decide)] at hX
    exact ⟨kd_0 hL, kd_0 hL, hX _ _ _ (Fr_s0 Fr_r) (gI_y ⟨rfl, rfl⟩) rfl⟩
  refine w74_s ?_
  cases hl : lsb l2 l3 with
  | false => exact br_t rfl (one (by rw [hl, Bool.false_and]))
  | true =>
    refine br_f (by decide) ⟨fun z => one (by rw [show frb l4 0 1 = false from decide_eq_false (fun y => y.1 z), Bool.and_false]), fun z => ⟨fun y => ?_, fun y => one (by rw [show frb l4 0 1 = false from decide_eq_false (fun x => y (nlt_le.mp x.2)), Bool.and_false])⟩⟩
    have hf : frb l4 0 1 = true := decide_eq_true ⟨z, nlt_le.mpr y⟩
    rw [hl, hf, if_pos (by decide)] at hX
    refine ⟨kd_0 hL, w40_s hC ?_⟩
    cases c1 : isWb k l1 with
    | false =>
      rw [c1, if_neg (by decide)] at hX
      exact br_f (fun z => z rfl) ⟨kd_0 hL, kd_0 hL, hX _ _ _ (Fr_s0 Fr_r) (gI_y ⟨rfl, rfl⟩) rfl⟩
    | true =>
      rw [c1, if_pos rfl] at hX
      obtain ⟨w, hw, rfl⟩ := isWb_j k4 c1
      obtain ⟨n, d, rfl, rfl, n0, n1, d0, d1⟩ := lsb_j hl
      rw [jI_cn (by omega), jI_toInt (by omega) (by omega), jI_toInt (by omega) (by omega)] at hX
      have ga := (hW.2.2 w hw).1
      have hA := (hW.2.2 w hw).2
      have a1 := ga.1
      have tw' : isT (191 + 3 * w) = true := isT_way (by omega)
      refine br_t (by decide) ⟨kd_0 hL, 19, rf_0_5 hL, i19 hL (by omega), _, by rw [jI_cn (by omega)]; exact rf_19 hL (by omega), kd_T hL tw', kd_0 hL, 19, rf_0_5 hL, i19 hL (by omega), kd_0 hL, ?_⟩
      rw [jI_cn (by omega), rf_19 hL (by omega), hA.1, show jI (wn (W w) : Int) - 1 = jI ((wn (W w) - 1 : Nat) : Int) by rw [show (1 : Int32) = jI 1 from rfl, jI_sub]; congr 1; omega]
      refine w131_s hL tw' (by omega) hA ga n0 n1 d0 d1 (fun M2 st h2 hs => ?_)
      exact w130_81_s (h2.1 hL) ga n0 (by omega) hs (hX _ _ _ (Fr_s0 h2) (gI_y ⟨rfl, rfl⟩) rfl)
/-! the reference -/
def sSp (x k : Nat) : Bool := sHg x k || Nat.beq x 234
theorem sSp_f {x k : Nat} (h1 : ¬ (x = 203 ∧ (k = 27 ∨ k = 28 ∨ (31 ≤ k ∧ k ≤ 33)))) (h2 : ¬ (210 ≤ x ∧ x ≤ 225)) (h3 : x ≠ 234) : sSp x k = false := by
  unfold sSp
  rw [Bool.or_eq_false_iff]
  exact ⟨sHg_f h1 h2, Bool.eq_false_iff.mpr fun h => h3 (Nat.eq_of_beq_eq_true h)⟩
theorem sSp_1 {x k : Nat} (h : sSp x k = false) : sHg x k = false := (Bool.or_eq_false_iff.mp h).1
theorem sSp_234 {k : Nat} : sSp 234 k = true := by unfold sSp; rw [Nat.beq_refl, Bool.or_true]
theorem sSp_t {x k : Nat} (h : (x = 203 ∧ (k = 27 ∨ k = 28)) ∨ (210 ≤ x ∧ x ≤ 213)) : sSp x k = true := by
  unfold sSp sHg
  have : sRL x k = true := by
    rcases h with ⟨rfl, h⟩ | h
    · exact sB_t1 (by omega)
    · exact sB_t2 h
  rw [this]; rfl
theorem sSp_Q {x k : Nat} (h : sRQ x k = false) : sSp x k = false := by
  unfold sSp
  rw [sHg_Q h, Bool.false_or]
  refine Bool.eq_false_iff.mpr fun z => ?_
  rw [Nat.eq_of_beq_eq_true z, sRQ_2 (by omega)] at h; cases h
theorem REd_p {M M' : MM} {n d : Int} (hF : Fr sSp M M') (h : REd M n d) : REd M' n d := ⟨(Fr_L hF (sSp_f (by omega) (by omega) (by omega))).trans h.1, (Fr_L hF (sSp_f (by omega) (by omega) (by omega))).trans h.2⟩
theorem RWs_s {M M' : MM} {k : Nat} {W : Nat → WY} (hF : Fr sSp M M') (h : RWs M k W) : RWs M' k W := RWs_fr hF (sSp_f (by omega) (by omega) (by omega)) (fun q => sSp_f (by omega) (by omega) (by omega)) h
theorem i234 {M : MM} (h : Lay M) {k : Nat} (q : k < 64) : inb M 234 14 (jI (k : Int)) := by rw [← nI_j]; exact in_234 h q
def spI (a : WY) (n d : Int) (cur : Nat) (M : MM) : Prop := ∀ p, p < cur → pcV a p = true → mI M 234 p = bI (spB a n d (p / 8) (p % 8))
theorem spI_k {a : WY} {n d : Int} {c c' : Nat} {M : MM} (h : spI a n d c M) (hv : ∀ e, c ≤ e → e < c' → pcV a e = false) : spI a n d c' M := fun p hp hp2 => by
  rcases Nat.lt_or_ge p c with z | z
  · exact h p z hp2
  · rw [hv p z hp] at hp2; cases hp2
theorem w265_s {M0 : MM} {kk w : Nat} {W : Nat → WY} {n d : Int} {P : MM → Prop} (hL0 : Lay M0) (hW0 : RWs M0 kk W) (hD0 : REd M0 n d) (hE : gE n d) (hw : w < kk) (hX : ∀ M', Fr sSp M0 M' → spI (W w) n d 64 M' → P M') : w265 203 (jI (w : Int)) M0 P := by
  have ga := (hW0.2.2 w hw).1
  have a1 := ga.1
  have a2 := ga.2.1
  have inner : ∀ (K : Nat → Int32 → Int32 → MM → Prop) (i : Nat), i < wn (W w) → (∀ M', Fr sSp M0 M' → spI (W w) n d (8 * i + wn (W w)) M' → K 203 (jI (w : Int)) (jI ((i + 1 : Nat) : Int)) M') → ∀ (q k : Nat) (M : MM), k + q = wn (W w) → i < k → Fr sSp M0 M → spI (W w) n d (8 * i + k) M → w265_15 K (q + 1) 203 (jI (w : Int)) (jI (i : Int)) (jI (k : Int)) M P := by
    intro K i hi hK q
    induction q with
    | zero =>
      intro k M hk ik h hs
      have hL := h.1 hL0
      refine ⟨kd_203 hL, w180_q hL (RWs_s h hW0) hw (br_t (by rw [jI_le (by omega) (by omega) (by omega) (by omega)]; omega) ?_)⟩
      rw [show jI (i : Int) + 1 = jI ((i + 1 : Nat) : Int) by rw [show (1 : Int32) = jI 1 from rfl, jI_add, c_s1]]
      rw [show k = wn (W w) by omega] at hs
      exact hK M h hs
    | succ q ih =>
      intro k M hk ik h hs
      have hL := h.1 hL0
      have hk' : k < wn (W w) := by omega
      have ek : jI (k : Int) + 1 = jI ((k + 1 : Nat) : Int) := by rw [show (1 : Int32) = jI 1 from rfl, jI_add, c_s1]
      have ee : (8 : Int32) * jI (i : Int) + jI (k : Int) = jI ((8 * i + k : Nat) : Int) := by rw [show (8 : Int32) = jI 8 from rfl, jI_mul, jI_add]; congr 1
      have e8 : (8 * i + k) / 8 = i := by omega
      have e9 : (8 * i + k) % 8 = k := by omega
      have fin : ∀ M', Fr sSp M0 M' → (∀ p, p ≠ 8 * i + k → mI M' 234 p = mI M 234 p) → mI M' 234 (8 * i + k) = bI (spB (W w) n d i k) → w265_145 K (fun z0 z1 z2 z3 z4 => w265_15 K (q + 1) z0 z1 z2 z3 z4 P) 203 (jI (w : Int)) (jI (i : Int)) (jI (k : Int)) M' P := fun M' h' hp hc => by
        unfold w265_145
        rw [ek]
        refine ih (k + 1) M' (by omega) (by omega) h' (fun p pl pv => ?_)
        by_cases e : p = 8 * i + k
        · subst e; rw [e8, e9]; exact hc
        · rw [hp p e]; exact hs p (by omega) pv
      have h0 : Fr sSp M0 (sI M 234 (8 * i + k) ((0 : Int32) &&& 1)) := Fr_sI h sSp_234
      have z0 : mI (sI M 234 (8 * i + k) ((0 : Int32) &&& 1)) 234 (8 * i + k) = 0 := by rw [gI_y ⟨rfl, rfl⟩]; decide
      have p0 : ∀ p, p ≠ 8 * i + k → mI (sI M 234 (8 * i + k) ((0 : Int32) &&& 1)) 234 p = mI M 234 p := fun p hp => gI_n (by omega)
      unfold w265_15
      rw [ee]
      refine ⟨kd_203 hL, w180_q hL (RWs_s h hW0) hw (br_f (by rw [jI_le (by omega) (by omega) (by omega) (by omega)]; omega) ⟨kd_203 hL, 234, rf_203_67 hL, i234 hL (by omega), kd_203 hL, ?_⟩)⟩
      rw [jI_cn (by omega)]
      have hL1 := h0.1 hL0
      have hW1 := RWs_s h0 hW0
      generalize sI M 234 (8 * i + k) ((0 : Int32) &&& 1) = M1 at *
      have bi := ga.2.2.1 i hi
      have bk := ga.2.2.1 k hk'
      have go : smP (W w) i k = false → w265_69 K (fun z0 z1 z2 z3 z4 => w265_15 K (q + 1) z0 z1 z2 z3 z4 P) 203 (jI (w : Int)) (jI (i : Int)) (jI (k : Int)) M1 P := fun cs => by
        have h2 : Fr sSp M0 (sI M1 203 27 2) := Fr_sI h0 (sSp_t (by omega))
        have hL2 := h2.1 hL0
        refine ⟨kd_203 hL1, kd_203 hL2, kd_203 hL2, w184_q hL2 (RWs_s h2 hW0) hw hi ⟨210, rf_203_23 hL2, i210 (k := 0) hL2 (by omega), ?_⟩⟩
        rw [show (0 : Int32).toNatClampNeg = 0 from rfl, show (1 : Int32).toNatClampNeg = 1 from rfl]
        have h3 : Fr sSp M0 (sI (sI M1 203 27 2) 210 0 (jI (wx (W w) i))) := Fr_sI h2 (sSp_t (by omega))
        have hL3 := h3.1 hL0
        refine ⟨kd_203 hL3, kd_203 hL3, w185_q hL3 (RWs_s h3 hW0) hw hi ⟨211, rf_203_24 hL3, i211 (k := 0) hL3 (by omega), ?_⟩⟩
        have h4 : Fr sSp M0 (sI (sI (sI M1 203 27 2) 210 0 (jI (wx (W w) i))) 211 0 (jI (wy (W w) i))) := Fr_sI h3 (sSp_t (by omega))
        have hL4 := h4.1 hL0
        refine ⟨kd_203 hL4, kd_203 hL4, w184_q hL4 (RWs_s h4 hW0) hw hk' ⟨210, rf_203_23 hL4, i210 (k := 1) hL4 (by omega), ?_⟩⟩
        have h5 : Fr sSp M0 (sI (sI (sI (sI M1 203 27 2) 210 0 (jI (wx (W w) i))) 211 0 (jI (wy (W w) i))) 210 1 (jI (wx (W w) k))) := Fr_sI h4 (sSp_t (by omega))
        have hL5 := h5.1 hL0
        refine ⟨kd_203 hL5, kd_203 hL5, w185_q hL5 (RWs_s h5 hW0) hw hk' ⟨211, rf_203_24 hL5, i211 (k := 1) hL5 (by omega), ?_⟩⟩
        have h6 : Fr sSp M0 (sI (sI (sI (sI (sI M1 203 27 2) 210 0 (jI (wx (W w) i))) 211 0 (jI (wy (W w) i))) 210 1 (jI (wx (W w) k))) 211 1 (jI (wy (W w) k))) := Fr_sI h5 (sSp_t (by omega))
        have hL6 := h6.1 hL0
        have rA : RA1 (sI (sI (sI (sI (sI M1 203 27 2) 210 0 (jI (wx (W w) i))) 211 0 (jI (wy (W w) i))) 210 1 (jI (wx (W w) k))) 211 1 (jI (wy (W w) k))) (ewW (W w) i k) := by
          refine ⟨by rw [gI_n (by omega), gI_n (by omega), gI_n (by omega), gI_n (by omega), gI_y ⟨rfl, rfl⟩]; rfl, fun x hx => ?_⟩
          have hx' : x < 2 := hx
          have c : x = 0 ∨ x = 1 := by omega
          rcases c with rfl | rfl
          · refine ⟨?_, ?_⟩
            · rw [gI_n (by omega), gI_n (by omega), gI_n (by omega), gI_y ⟨rfl, rfl⟩]; rfl
            · rw [gI_n (by omega), gI_n (by omega), gI_y ⟨rfl, rfl⟩]; rfl
          · refine ⟨?_, ?_⟩
            · rw [gI_n (by omega), gI_y ⟨rfl, rfl⟩]; rfl
            · rw [gI_y ⟨rfl, rfl⟩]; rfl
        have p6 : ∀ p, mI (sI (sI (sI (sI (sI M1 203 27 2) 210 0 (jI (wx (W w) i))) 211 0 (jI (wy (W w) i))) 210 1 (jI (wx (W w) k))) 211 1 (jI (wy (W w) k))) 234 p = mI M1 234 p := fun p => by rw [gI_n (by omega), gI_n (by omega), gI_n (by omega), gI_n (by omega), gI_n (by omega)]
        refine ⟨kd_203 hL6, ?_⟩
        generalize sI (sI (sI (sI (sI M1 203 27 2) 210 0 (jI (wx (W w) i))) 211 0 (jI (wy (W w) i))) 210 1 (jI (wx (W w) k))) 211 1 (jI (wy (W w) k)) = M6 at *
        refine w213_s hL6 (RWs_s h6 hW0) hw (by omega) hk' (fun M7 h7 rB => ?_)
        have hF7 : Fr sSp M0 M7 := Fr_t h6 (Fr_w h7 (fun x k z => sB_w (by omega) (by omega) x k (sHg_1 (sSp_1 z))))
        have hL7 := hF7.1 hL0
        have rA7 : RA1 M7 (ewW (W w) i k) := RA1_fr h7 (sB_f (by omega) (by omega)) (fun x k _ _ => sB_f (by omega) (by omega)) rA
        refine ⟨kd_203 hL7, kd_203 hL7, w239_e hL7 (RAB_i rA7 rB) (REd_p hF7 hD0) (ew_g ga hi hk' cs) (pc_g ga ik hk') hE (Or.inl rfl) (fun M8 e h8 he => ?_)⟩
        have hF8 : Fr sSp M0 M8 := Fr_t hF7 (Fr_w h8 (fun x k z => sHg_2 (sSp_1 z)))
        have hL8 := hF8.1 hL0
        refine ⟨234, rf_203_67 hL7, ?_⟩
        rw [ee, jI_cn (by omega)]
        refine ⟨i234 hL8 (by omega), fin _ (Fr_sI hF8 sSp_234) (fun p hp => ?_) ?_⟩
        · rw [gI_n (by omega), Fr_I h8 (sB_f (by omega) (by omega)), Fr_I h7 (sB_f (by omega) (by omega)), p6, p0 p hp]
        · rw [gI_y ⟨rfl, rfl⟩]
          have es : spB (W w) n d i k = e := by
            unfold spB
            rw [cs, Eno_0 he]
            rfl
          rw [es]
          cases e <;> decide
      refine w184_q hL1 hW1 hw hi ⟨kd_203 hL1, w184_q hL1 hW1 hw hk' ?_⟩
      rw [ne_eq, jI_eq (by omega) (by omega) (by omega) (by omega)]
      refine ⟨fun z => go (decide_eq_false (fun y => z y.1)), fun z => ⟨kd_203 hL1, w185_q hL1 hW1 hw hi ⟨kd_203 hL1, w185_q hL1 hW1 hw hk' ?_⟩⟩⟩
      rw [ne_eq, jI_eq (by omega) (by omega) (by omega) (by omega)]
      refine ⟨fun y => go (decide_eq_false (fun x => y x.2)), fun y => fin M1 h0 p0 ?_⟩
      have cs : smP (W w) i k = true := decide_eq_true ⟨Classical.not_not.mp z, Classical.not_not.mp y⟩
      rw [z0]
      unfold spB
      rw [cs]; rfl
  have outer : ∀ (q i : Nat) (M : MM), i + q = wn (W w) → Fr sSp M0 M → spI (W w) n d (8 * i) M → w265_2 (q + 1) 203 (jI (w : Int)) (jI (i : Int)) M P := by
    intro q
    induction q with
    | zero =>
      intro i M hi h hs
      have hL := h.1 hL0
      exact ⟨kd_203 hL, w180_q hL (RWs_s h hW0) hw (br_t (by rw [jI_le (by omega) (by omega) (by omega) (by omega)]; omega) (hX M h (spI_k hs (fun e x1 x2 => decide_eq_false (by omega)))))⟩
    | succ q ih =>
      intro i M hi h hs
      have hL := h.1 hL0
      refine ⟨kd_203 hL, w180_q hL (RWs_s h hW0) hw (br_f (by rw [jI_le (by omega) (by omega) (by omega) (by omega)]; omega) ⟨wn (W w) - (i + 1) + 1, ?_⟩)⟩
      rw [show jI (i : Int) + 1 = jI ((i + 1 : Nat) : Int) by rw [show (1 : Int32) = jI 1 from rfl, jI_add, c_s1]]
      exact inner _ i (by omega) (fun M' h' hs' => ih (i + 1) M' (by omega) h' (spI_k hs' (fun e x1 x2 => decide_eq_false (by omega)))) (wn (W w) - (i + 1)) (i + 1) M (by omega) (by omega) h (spI_k hs (fun e x1 x2 => decide_eq_false (by omega)))
  exact ⟨wn (W w) + 1, outer (wn (W w)) 0 M0 (by omega) Fr_r (fun p hp => absurd hp (by omega))⟩
theorem w266_s {M : MM} {kk w : Nat} {W : Nat → WY} {n d : Int} {x : Int32} {P : Int32 → MM → Prop} (hL : Lay M) (hW : RWs M kk W) (hw : w < kk) (hs : spI (W w) n d 64 M) (hP : P (bI (chW (spB (W w) n d) x (wn (W w) - 1)).isSome) M) : w266 203 (jI (w : Int)) x M P := by
  have ga := (hW.2.2 w hw).1
  have a1 := ga.1
  have a2 := ga.2.1
  have lp : ∀ (q t f : Nat), t + q = wn (W w) - 1 → chW (spB (W w) n d) x t = some f → w266_5 (q + 1) 203 (jI (w : Int)) x (jI (f : Int)) (jI ((t + 1 : Nat) : Int)) M P := by
    intro q
    induction q with
    | zero =>
      intro t f ht hf
      refine ⟨kd_203 hL, w180_q hL hW hw (br_t (by rw [jI_le (by omega) (by omega) (by omega) (by omega)]; omega) ?_)⟩
      rw [show t = wn (W w) - 1 by omega] at hf
      rw [hf] at hP
      exact hP
    | succ q ih =>
      intro t f ht hf
      have fl := chW_l hf
      have cs := chW_s hf
      have ee : (8 : Int32) * jI (f : Int) + jI ((t + 1 : Nat) : Int) = jI ((8 * f + (t + 1) : Nat) : Int) := by rw [show (8 : Int32) = jI 8 from rfl, jI_mul, jI_add]; congr 1
      have e1 : jI ((t + 1 : Nat) : Int) + 1 = jI ((t + 1 + 1 : Nat) : Int) := by rw [show (1 : Int32) = jI 1 from rfl, jI_add, c_s1]
      have bb := hs (8 * f + (t + 1)) (by omega) (pcV_t (by omega) (by omega) (by omega))
      rw [show (8 * f + (t + 1)) / 8 = f by omega, show (8 * f + (t + 1)) % 8 = t + 1 by omega] at bb
      refine ⟨kd_203 hL, w180_q hL hW hw (br_f (by rw [jI_le (by omega) (by omega) (by omega) (by omega)]; omega) ?_)⟩
      unfold w266_47
      rw [ee, e1, jI_cn (by omega)]
      refine ⟨fun z => ⟨kd_203 hL, 234, rf_203_67 hL, i234 hL (by omega), ?_⟩, fun z => ?_⟩
      · rw [if_pos (show sbt x (t + 1) = true from decide_eq_true z)] at cs
        rw [bb]
        cases c : spB (W w) n d f (t + 1) with
        | true =>
          rw [if_pos c] at cs
          exact br_t (by decide) (ih (t + 1) (t + 1) (by omega) cs)
        | false =>
          rw [if_neg (by rw [c]; decide)] at cs
          rw [chW_k cs (show t + 1 ≤ wn (W w) - 1 by omega)] at hP
          exact br_f (fun z => z rfl) hP
      · rw [if_neg (by rw [show sbt x (t + 1) = false from decide_eq_false z]; decide)] at cs
        exact ih (t + 1) f (by omega) cs
  exact ⟨wn (W w) - 1 + 1, lp (wn (W w) - 1) 0 0 (by omega) rfl⟩
theorem w264_q {M : MM} {k : Nat} {W : Nat → WY} {l1 l2 l3 l4 : Int32} {P : Int32 → MM → Prop} (hL : Lay M) (hW : RWs M k W) (hX : ∀ M' r st, Fr sRQ M M' → mI M' 203 9 = st → (r, st) = thiA k W l1 l2 l3 l4 → P r M') : w264 203 l1 l2 l3 l4 M P := by
  have hC := RWs_RW hL hW
  have k4 := hW.2.1
  unfold thiA at hX
  have one : (lsb l2 l3 && frb l4 0 1) = false → w264_18 203 M P := fun e => by
    rw [e, if_neg (by decide)] at hX
    exact ⟨kd_203 hL, kd_203 hL, hX _ _ _ (Fr_s9 Fr_r) (gI_y ⟨rfl, rfl⟩) rfl⟩
  refine w209_s ?_
  cases hl : lsb l2 l3 with
  | false => exact br_t rfl (one (by rw [hl, Bool.false_and]))
  | true =>
    refine br_f (by decide) (w166_s ?_)
    cases hf : frb l4 0 1 with
    | false => exact br_f (fun z => z rfl) (one (by rw [hf, Bool.and_false]))
    | true =>
      rw [hl, hf, if_pos (by decide)] at hX
      refine br_t (by decide) ⟨kd_203 hL, w182_s hC ?_⟩
      cases c1 : isWb k l1 with
      | false =>
        rw [c1, if_neg (by decide)] at hX
        exact br_f (fun z => z rfl) ⟨kd_203 hL, kd_203 hL, hX _ _ _ (Fr_s9 Fr_r) (gI_y ⟨rfl, rfl⟩) rfl⟩
      | true =>
        rw [c1, if_pos rfl] at hX
        obtain ⟨w, hw, rfl⟩ := isWb_j k4 c1
        obtain ⟨n, d, rfl, rfl, n0, n1, d0, d1⟩ := lsb_j hl
        rw [jI_cn (by omega), jI_toInt (by omega) (by omega), jI_toInt (by omega) (by omega)] at hX
        have ga := (hW.2.2 w hw).1
        have a1 := ga.1
        have a2 := ga.2.1
        refine br_t (by decide) ⟨kd_203 hL, w215_s hL ⟨n0, n1⟩ ⟨by omega, d1⟩ ?_⟩
        have hF1 : Fr sRQ M (sL (sL M 203 29 (jL n)) 203 30 (jL d)) := Fr_sL (Fr_sL Fr_r (sRQ_1 (by omega))) (sRQ_1 (by omega))
        have hD1 : REd (sL (sL M 203 29 (jL n)) 203 30 (jL d)) n d := ⟨by rw [gL_n (by omega), gL_y ⟨rfl, rfl⟩], gL_y ⟨rfl, rfl⟩⟩
        have hL1 := hF1.1 hL
        have hW1 := RWs_Q hF1 hW
        generalize sL (sL M 203 29 (jL n)) 203 30 (jL d) = M1 at *
        refine ⟨kd_203 hL1, w265_s hL1 hW1 hD1 (gE_l n0 n1 d0 d1) hw (fun M2 h2 hs => ?_)⟩
        have hL2 := h2.1 hL1
        have hW2 := RWs_s h2 hW1
        have hF2 : Fr sRQ M M2 := Fr_t hF1 (Fr_w h2 (fun x k => sSp_Q))
        refine ⟨kd_203 hL2, w180_q hL2 hW2 hw ⟨2 ^ wn (W w) + 1, ?_⟩⟩
        rw [show jI (wn (W w) : Int) - 1 = jI ((wn (W w) - 1 : Nat) : Int) by rw [show (1 : Int32) = jI 1 from rfl, jI_sub]; congr 1; omega]
        obtain ⟨e1, e2, e3, e4, e5, e6, e7⟩ := th_b (wn (W w)) (by omega) a1
        obtain ⟨m0, hm0⟩ := th_so (sp := spB (W w) n d) a1 a2 (fun i hi => sp_1 ga hi n0 (by omega))
        have ho : thO (spB (W w) n d) (wn (W w)) = m0 := by unfold thO; rw [hm0]; rfl
        rw [ho] at hX
        have lp : ∀ (q s : Nat) (l6 : Int32), s + q = 2 ^ wn (W w) → ((agv (thV (spB (W w) n d) (wn (W w))) thC s = none ∧ l6 = -1) ∨ ∃ m, agv (thV (spB (W w) n d) (wn (W w))) thC s = some m ∧ l6 = jI (m : Int)) → w264_68 (q + 1) 203 (jI (w : Int)) l4 (enE (wn (W w))) l6 (jI (s : Int)) M2 P := by
          intro q
          induction q with
          | zero =>
            intro s l6 hsq hb
            have : s = 2 ^ wn (W w) := by omega
            subst this
            refine ⟨kd_203 hL2, w180_q hL2 hW2 hw (br_t (by rw [e3]; exact Int32.le_refl _) ?_)⟩
            rw [hm0] at hb
            rcases hb with ⟨z, _⟩ | ⟨m, z, rfl⟩
            · cases z
            · cases z
              refine ⟨fun z => ⟨203, rfl, kd_203 hL2, kd_203 hL2, ?_⟩, fun z => w133_s ⟨203, rfl, kd_203 hL2, kd_203 hL2, ?_⟩⟩
              · rw [if_neg z] at hX; exact hX _ _ _ (Fr_s9 hF2) (gI_y ⟨rfl, rfl⟩) rfl
              · rw [if_pos (Classical.not_not.mp z)] at hX; exact hX _ _ _ (Fr_s9 hF2) (gI_y ⟨rfl, rfl⟩) rfl
          | succ q ih =>
            intro s l6 hsq hb
            have es1 : jI (s : Int) + 1 = jI ((s + 1 : Nat) : Int) := by rw [show (1 : Int32) = jI 1 from rfl, jI_add, c_s1]
            have ev : thV (spB (W w) n d) (wn (W w)) s = (decide ((jI (s : Int) &&& enE (wn (W w))) = enE (wn (W w))) && (chW (spB (W w) n d) (jI (s : Int)) (wn (W w) - 1)).isSome) := rfl
            refine ⟨kd_203 hL2, w180_q hL2 hW2 hw (br_f (by rw [e3, jI_le (by omega) (by omega) (by omega) (by omega)]; omega) ?_)⟩
            unfold w264_122 w264_126
            rw [es1]
            have keep : thV (spB (W w) n d) (wn (W w)) s = false → w264_68 (q + 1) 203 (jI (w : Int)) l4 (enE (wn (W w))) l6 (jI ((s + 1 : Nat) : Int)) M2 P := fun c => ih (s + 1) l6 (by omega) (by rw [agv_n c]; exact hb)
            refine ⟨fun z => keep (by rw [ev, decide_eq_false z, Bool.false_and]), fun z => ⟨kd_203 hL2, w266_s hL2 hW2 hw hs ?_⟩⟩
            rw [decide_eq_true (Classical.not_not.mp z), Bool.true_and] at ev
            cases c : (chW (spB (W w) n d) (jI (s : Int)) (wn (W w) - 1)).isSome with
            | false => exact br_f (fun y => y rfl) (keep (ev.trans c))
            | true =>
              have v := ev.trans c
              refine br_t (by decide) ?_
              rcases hb with ⟨z1, rfl⟩ | ⟨m, z1, rfl⟩
              · exact br_t rfl (ih (s + 1) _ (by omega) (Or.inr ⟨s, agv_0 v z1, rfl⟩))
              · have ml := agv_l z1
                refine br_f (by rw [show (-1 : Int32) = jI (-1) from rfl, jI_eq (by omega) (by omega) (by omega) (by omega)]; omega) (w133_s (w133_s ⟨fun y => ih (s + 1) _ (by omega) (Or.inr ⟨m, ?_, rfl⟩), fun y => ih (s + 1) _ (by omega) (Or.inr ⟨s, ?_, rfl⟩)⟩))
                · rw [agv_1 v z1, if_neg (show ¬ thC s m = true from fun x => absurd (of_decide_eq_true x) (Int32.not_lt.mpr y))]
                · rw [agv_1 v z1, if_pos (show thC s m = true from decide_eq_true (Int32.not_le.mp y))]
        exact lp (2 ^ wn (W w)) 0 (-1) (by omega) (Or.inl ⟨rfl, rfl⟩)
