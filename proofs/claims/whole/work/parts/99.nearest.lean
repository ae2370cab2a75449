/-! ===== the first of the least; nearest: both sides ===== -/
def agm (c : Nat → Nat → Bool) : Nat → Nat
  | 0 => 0
  | k + 1 => if c k (agm c k) = true then k else agm c k
theorem agm_lt (c : Nat → Nat → Bool) : ∀ k, agm c (k + 1) < k + 1
  | 0 => by
    show (if c 0 (agm c 0) = true then 0 else agm c 0) < 1
    rw [show agm c 0 = 0 from rfl, ite_self]; omega
  | k + 1 => by
    have := agm_lt c k
    show (if c (k + 1) (agm c (k + 1)) = true then k + 1 else agm c (k + 1)) < k + 2
    split <;> omega
theorem agm_l {c : Nat → Nat → Bool} {k : Nat} (h : 0 < k) : agm c k < k := by
  obtain ⟨m, rfl⟩ : ∃ m, k = m + 1 := ⟨k - 1, by omega⟩
  exact agm_lt c m
theorem agm_1 (c : Nat → Nat → Bool) : agm c 1 = 0 := by
  have : agm c 1 < 1 := agm_lt c 0
  omega
theorem agm_s (c : Nat → Nat → Bool) (k : Nat) : agm c (k + 1) = if c k (agm c k) = true then k else agm c k := rfl
theorem agm_e {c c' : Nat → Nat → Bool} : ∀ (n : Nat), (∀ i j, i < n → j < n → c i j = c' i j) → agm c n = agm c' n
  | 0, _ => rfl
  | n + 1, h => by
    have q := agm_e (c := c) (c' := c') n (fun i j hi hj => h i j (by omega) (by omega))
    rcases Nat.eq_zero_or_pos n with z | z
    · subst z; rw [agm_1, agm_1]
    · have l := agm_l (c := c) z
      rw [agm_s, agm_s, ← q, h n (agm c n) (by omega) (by omega)]
/-- like fractions are compared alike -/
theorem fcmp {a b c d a' b' c' d' : Int} (hb : 0 < b) (hd : 0 < d) (hb' : 0 < b') (hd' : 0 < d') (e : a * b' = a' * b) (e' : c * d' = c' * d) : a * d < c * b ↔ a' * d' < c' * b' := by
  have p1 : 0 < b' * d' := Int.mul_pos hb' hd'
  have p2 : 0 < b * d := Int.mul_pos hb hd
  have x1 : a * d * (b' * d') = a' * d' * (b * d) := by
    calc a * d * (b' * d') = a * b' * (d * d') := by grind
      _ = a' * b * (d * d') := by rw [e]
      _ = a' * d' * (b * d) := by grind
  have x2 : c * b * (b' * d') = c' * b' * (b * d) := by
    calc c * b * (b' * d') = c * d' * (b * b') := by grind
      _ = c' * d * (b * b') := by rw [e']
      _ = c' * b' * (b * d) := by grind
  constructor
  · intro h
    have := Int.mul_lt_mul_of_pos_right h p1
    rw [x1, x2] at this
    exact Int.lt_of_mul_lt_mul_right this (Int.le_of_lt p2)
  · intro h
    have := Int.mul_lt_mul_of_pos_right h p2
    rw [← x1, ← x2] at this
    exact Int.lt_of_mul_lt_mul_right this (Int.le_of_lt p1)
def nC (a : WY) (i : Nat) (b : WY) (e m : Nat) : Bool := decide (naA a i b e * naB a i b m < naA a i b m * naB a i b e)
def rnC (a : WY) (i : Nat) (b : WY) (e m : Nat) : Bool := decide (rnA a i b e * rnB a i b m < rnA a i b m * rnB a i b e)
def nM (a : WY) (i : Nat) (b : WY) : Nat := agm (nC a i b) (wn b - 1)
theorem nC_r {a b : WY} {i e m : Nat} (ga : gW a) (gb : gW b) (hi : i < wn a) (he : e + 1 < wn b) (hm : m + 1 < wn b) : nC a i b e m = rnC a i b e m := by
  have h1 := n_b ga gb hi he
  have h2 := n_b ga gb hi hm
  have h3 := rn_b ga gb hi he
  have h4 := rn_b ga gb hi hm
  unfold nC rnC
  rw [decide_eq_decide]
  exact fcmp h1.2.2.1 h2.2.2.1 h3.2.2.1 h4.2.2.1 (n_x gb he) (n_x gb hm)
theorem nM_r {a b : WY} {i : Nat} (ga : gW a) (gb : gW b) (hi : i < wn a) {n : Nat} (hn : n < wn b) : agm (nC a i b) n = agm (rnC a i b) n :=
  agm_e n (fun e m he hm => nC_r ga gb hi (by omega) (by omega))
theorem nM_l {a b : WY} {i : Nat} (gb : gW b) : nM a i b + 1 < wn b := by
  have := gb.1
  have := agm_l (c := nC a i b) (k := wn b - 1) (by omega)
  unfold nM; omega
/-- products that are compared -/
theorem mul_bb {x y B C : Int} (h1 : 0 ≤ x) (h2 : x ≤ B) (h3 : 0 ≤ y) (h4 : y ≤ C) : 0 ≤ x * y ∧ x * y ≤ B * C :=
  ⟨Int.mul_nonneg h1 h3, Int.mul_le_mul h2 h4 h3 (by omega)⟩
def sNr : Nat → Nat → Bool := sB 184 0 10 55 55
theorem w59_s {M : MM} {k w i o : Nat} {W : Nat → WY} {P : Int32 → MM → Prop} (hL : Lay M) (hW : CWs M k W) (hw : w < k) (ho : o < k) (hi : i < wn (W w)) (hP : ∀ M', Fr sNr M M' → mL M' 55 0 = jL (naA (W w) i (W o) (nM (W w) i (W o))) → mL M' 55 1 = jL (naB (W w) i (W o) (nM (W w) i (W o))) → P (jI (nM (W w) i (W o) : Int)) M') : w59 0 (some (191 + 3 * w)) (jI (i : Int)) (some (191 + 3 * o)) M P := by
  have k4 := hW.2.1
  have gw := (hW.2.2 w hw).1
  have go := (hW.2.2 o ho).1
  have o1 := go.1
  have o2 := go.2.1
  have tw : isT (191 + 3 * w) = true := isT_way (by omega)
  have to : isT (191 + 3 * o) = true := isT_way (by omega)
  have tA : ∀ M', Fr sNr M M' → TrC M' (191 + 3 * w) (W w) := fun M' h => TrC_fr2 h (fun x q h1 h2 => sB_f (by omega) (by omega)) (hW.2.2 w hw).2
  have tB : ∀ M', Fr sNr M M' → TrC M' (191 + 3 * o) (W o) := fun M' h => TrC_fr2 h (fun x q h1 h2 => sB_f (by omega) (by omega)) (hW.2.2 o ho).2
  have put : ∀ (kk : Nat → Option Nat → Int32 → Option Nat → Int32 → Int32 → MM → Prop) (e : Nat) (M2 : MM), e + 1 < wn (W o) → Fr sNr M M2 → sdG M2 184 (eL (W o) e) (eF (W o) e (W w) i) (eS (W o) e (W w) i) → (∀ M3, Fr sNr M M3 → mL M3 55 0 = jL (naA (W w) i (W o) e) → mL M3 55 1 = jL (naB (W w) i (W o) e) → kk 0 (some (191 + 3 * w)) (jI (i : Int)) (some (191 + 3 * o)) (jI (e : Int)) (jI ((e + 1 : Nat) : Int)) M3) → w59_49 kk 0 (some (191 + 3 * w)) (jI (i : Int)) (some (191 + 3 * o)) (jI (e : Int)) M2 P := by
    intro kk e M2 he h2 hG hK
    have hL2 := h2.1 hL
    have hB := sdB_of go gw he hi
    refine ⟨kd_0 hL2, kd_0 hL2, 184, rf_0_16 hL2, kd_184 hL2, w50_s (kd_184 hL2) hG hB ⟨kd_0 hL2, 184, rf_0_16 hL2, kd_184 hL2, w53_s (kd_184 hL2) hG hB ⟨55, rf_0_12 hL2, kd_55 hL2, kd_55 hL2, kd_55 hL2, ?_⟩⟩⟩
    unfold w59_74
    rw [show (1 : Int32) = jI 1 from rfl, jI_add, c_s1]
    refine hK _ (Fr_sL (Fr_sL h2 (sB_t2 (by omega))) (sB_t2 (by omega))) ?_ ?_
    · rw [gL_n (by omega), gL_y ⟨rfl, rfl⟩]; rfl
    · rw [gL_y ⟨rfl, rfl⟩]; rfl
  have lp : ∀ (q e : Nat) (l4 : Int32) (M1 : MM), e + q + 1 = wn (W o) → Fr sNr M M1 → (e = 0 ∧ l4 = -1 ∨ 0 < e ∧ l4 = jI (agm (nC (W w) i (W o)) e : Int) ∧ mL M1 55 0 = jL (naA (W w) i (W o) (agm (nC (W w) i (W o)) e)) ∧ mL M1 55 1 = jL (naB (W w) i (W o) (agm (nC (W w) i (W o)) e))) → w59_6 (q + 1) 0 (some (191 + 3 * w)) (jI (i : Int)) (some (191 + 3 * o)) l4 (jI (e : Int)) M1 P := by
    intro q
    induction q with
    | zero =>
      intro e l4 M1 he h1 hI
      refine ⟨_, rfl, kd_T (h1.1 hL) to, br_t ?_ ?_⟩
      · rw [(tB M1 h1).1, show (1 : Int32) = jI 1 from rfl, jI_add, jI_le (by omega) (by omega) (by omega) (by omega)]; omega
      · rcases hI with z | ⟨_, rfl, z1, z2⟩
        · omega
        · have ee : agm (nC (W w) i (W o)) e = nM (W w) i (W o) := by unfold nM; rw [show wn (W o) - 1 = e by omega]
          rw [ee] at z1 z2 ⊢
          exact hP M1 h1 z1 z2
    | succ q ih =>
      intro e l4 M1 he h1 hI
      have hL1 := h1.1 hL
      have he' : e + 1 < wn (W o) := by omega
      have ee : jI (e : Int) + 1 = jI ((e + 1 : Nat) : Int) := by rw [show (1 : Int32) = jI 1 from rfl, jI_add, c_s1]
      refine ⟨_, rfl, kd_T hL1 to, br_f ?_ ⟨kd_0 hL1, 184, rf_0_16 hL1, kd_184 hL1, ?_⟩⟩
      · rw [(tB M1 h1).1, ee, jI_le (by omega) (by omega) (by omega) (by omega)]; omega
      refine w49_s hL1 (kd_184 hL1) to tw (tB M1 h1) (tA M1 h1) go gw he' hi ?_
      have hB := sdB_of go gw he' hi
      have hG := sdG_st M1 184 (eL (W o) e) (eF (W o) e (W w) i) (eS (W o) e (W w) i)
      have h2 : Fr sNr M (stM M1 184 (eL (W o) e) (eF (W o) e (W w) i) (eS (W o) e (W w) i)) := Fr_st h1 (fun k _ => sB_t1 (by omega))
      have g5 : ∀ x, mL (stM M1 184 (eL (W o) e) (eF (W o) e (W w) i) (eS (W o) e (W w) i)) 55 x = mL M1 55 x := fun x => by unfold stM; rw [gL_n (by omega), gL_n (by omega), gL_n (by omega), gL_n (by omega), gL_n (by omega)]
      have hL2 := h2.1 hL
      generalize stM M1 184 (eL (W o) e) (eF (W o) e (W w) i) (eS (W o) e (W w) i) = M2 at *
      rcases hI with ⟨rfl, rfl⟩ | ⟨e0, rfl, z1, z2⟩
      · refine br_t rfl (put _ 0 M2 he' h2 hG (fun M3 h3 f0 f1 => ih 1 _ M3 (by omega) h3 (Or.inr ⟨by omega, ?_, ?_, ?_⟩)))
        · rw [agm_1]
        · rw [agm_1]; exact f0
        · rw [agm_1]; exact f1
      · have ml := agm_l (c := nC (W w) i (W o)) e0
        have es := agm_s (nC (W w) i (W o)) e
        generalize agm (nC (W w) i (W o)) e = m at *
        have b1 := n_b gw go hi he'
        have b2 := n_b gw go hi (show m + 1 < wn (W o) by omega)
        have p1 := mul_bb b1.1 b1.2.1 (Int.le_of_lt b2.2.2.1) b2.2.2.2
        have p2 := mul_bb b2.1 b2.2.1 (Int.le_of_lt b1.2.2.1) b1.2.2.2
        refine br_f ?_ ⟨kd_0 hL2, kd_0 hL2, 184, rf_0_16 hL2, kd_184 hL2, kd_184 hL2, w50_s (kd_184 hL2) hG hB ⟨55, rf_0_12 hL2, kd_55 hL2, kd_55 hL2, kd_184 hL2, w53_s (kd_184 hL2) hG hB ?_⟩⟩
        · rw [show (-1 : Int32) = jI (-1) from rfl, jI_eq (by omega) (by omega) (by omega) (by omega)]; omega
        rw [g5, g5, z1, z2]
        show (jI 0 ≤ lg_cmp (jL (naA (W w) i (W o) e) * jL (naB (W w) i (W o) m)) (jL (naA (W w) i (W o) m) * jL (naB (W w) i (W o) e)) → _) ∧ (¬ (jI 0 ≤ lg_cmp (jL (naA (W w) i (W o) e) * jL (naB (W w) i (W o) m)) (jL (naA (W w) i (W o) m) * jL (naB (W w) i (W o) e))) → _)
        rw [jL_mul, jL_mul, lc_ge, jL_le (by omega) (by omega) (by omega) (by omega)]
        refine ⟨fun y => ⟨Or.inl rfl, br_t rfl ?_⟩, fun y => ⟨Or.inr rfl, br_f (by decide) (put _ e M2 he' h2 hG (fun M3 h3 f0 f1 => ih (e + 1) _ M3 (by omega) h3 (Or.inr ⟨by omega, ?_, ?_, ?_⟩)))⟩⟩
        · unfold w59_74
          rw [ee]
          have c : nC (W w) i (W o) e m = false := decide_eq_false (by omega)
          rw [c, if_neg (by decide)] at es
          refine ih (e + 1) _ M2 (by omega) h2 (Or.inr ⟨by omega, ?_, ?_, ?_⟩)
          · rw [es]
          · rw [es, g5]; exact z1
          · rw [es, g5]; exact z2
        all_goals
          have c : nC (W w) i (W o) e m = true := decide_eq_true (by omega)
          rw [c, if_pos rfl] at es
          rw [es]
        · exact f0
        · exact f1
  exact ⟨wn (W o) - 1 + 1, lp (wn (W o) - 1) 0 (-1) M (by omega) Fr_r (Or.inl ⟨rfl, rfl⟩)⟩
def nesA (k : Nat) (W : Nat → WY) (F : Int × Int) (l1 l2 l3 : Int32) : Int32 × Int32 × Int × Int :=
  if (isPb k (cnt W) l1 l2 && isWb k l3) = true then (if l1 = l3 then (-1, 4, F) else (jI (nM (W l1.toNatClampNeg) l2.toNatClampNeg (W l3.toNatClampNeg) : Int), 0, ft (naA (W l1.toNatClampNeg) l2.toNatClampNeg (W l3.toNatClampNeg) (nM (W l1.toNatClampNeg) l2.toNatClampNeg (W l3.toNatClampNeg))) (naB (W l1.toNatClampNeg) l2.toNatClampNeg (W l3.toNatClampNeg) (nM (W l1.toNatClampNeg) l2.toNatClampNeg (W l3.toNatClampNeg))), fb (naA (W l1.toNatClampNeg) l2.toNatClampNeg (W l3.toNatClampNeg) (nM (W l1.toNatClampNeg) l2.toNatClampNeg (W l3.toNatClampNeg))) (naB (W l1.toNatClampNeg) l2.toNatClampNeg (W l3.toNatClampNeg) (nM (W l1.toNatClampNeg) l2.toNatClampNeg (W l3.toNatClampNeg))))) else (-1, 2, F)
theorem sNr_F {x k : Nat} (h : sCF x k = false) : sNr x k = false := by
  refine sB_f (fun z => ?_) (fun z => ?_)
  · rw [show sCF x k = sB 0 10 10 54 190 x k from rfl, sB_t2 (by omega)] at h; cases h
  · rw [show sCF x k = sB 0 10 10 54 190 x k from rfl, sB_t2 (by omega)] at h; cases h
theorem w58_q {M : MM} {k : Nat} {W : Nat → WY} {F : Int × Int} {l1 l2 l3 : Int32} {P : Int32 → MM → Prop} (hL : Lay M) (hW : CWs M k W) (hF : CFr M F) (hX : ∀ M' r st F', Fr sCF M M' → mI M' 0 10 = st → CFr M' F' → (r, st, F') = nesA k W F l1 l2 l3 → P r M') : w58 0 l1 l2 l3 M P := by
  have hC := CWs_CW hL hW
  have k4 := hW.2.1
  have hg : ∀ w, w < k → gW (W w) := fun w hw => (hW.2.2 w hw).1
  unfold nesA at hX
  have no : (isPb k (cnt W) l1 l2 && isWb k l3) = false → w58_17 0 M P := fun e => by
    rw [e, if_neg (by decide)] at hX
    exact ⟨kd_0 hL, kd_0 hL, hX _ _ _ F (Fr_s0F Fr_r) (gI_y ⟨rfl, rfl⟩) hF rfl⟩
  refine ⟨kd_0 hL, w45_s hC ?_⟩
  cases c1 : isPb k (cnt W) l1 l2 with
  | false => exact br_t rfl (no (by rw [c1, Bool.false_and]))
  | true =>
    refine br_f (by decide) ⟨kd_0 hL, w40_s hC ?_⟩
    cases c2 : isWb k l3 with
    | false => exact br_f (fun z => z rfl) (no (by rw [c2, Bool.and_false]))
    | true =>
      rw [c1, c2, if_pos (by decide)] at hX
      refine br_t (by decide) ⟨fun ne => ?_, fun ne => ?_⟩
      · rw [if_neg ne] at hX
        obtain ⟨w, i, rfl, rfl, hw, hi, e1, e2⟩ := isPb_j k4 hg c1
        obtain ⟨o, ho, rfl⟩ := isWb_j k4 c2
        have e3 : (jI (o : Int)).toNatClampNeg = o := jI_cn (by omega)
        rw [e1, e2, e3] at hX
        refine ⟨kd_0 hL, 19, rf_0_5 hL, i19 hL (by omega), kd_0 hL, 19, rf_0_5 hL, i19 hL (by omega), kd_0 hL, ?_⟩
        rw [e1, e3, rf_19 hL (by omega), rf_19 hL (by omega)]
        refine w59_s hL hW hw ho hi (fun M1 h1 f0 f1 => ?_)
        have hL1 := h1.1 hL
        refine ⟨kd_0 hL1, kd_0 hL1, ?_⟩
        rw [rf_0_12 hL1]
        have gn := (n_g (hg w hw) (hg o ho) hi (nM_l (a := W w) (i := i) (hg o ho))).1
        exact w55_s hL1 (Or.inl rfl) f0 f1 gn (fun M3 h3 s3 t0 t1 => hX _ _ _ (_, _) (Fr_t (Fr_w h1 (fun x k h => sNr_F h)) h3) s3 ⟨t0, t1⟩ rfl)
      · rw [if_pos (Classical.not_not.mp ne)] at hX
        exact ⟨kd_0 hL, kd_0 hL, hX _ _ _ F (Fr_s0F Fr_r) (gI_y ⟨rfl, rfl⟩) hF rfl⟩
/-! the reference -/
theorem w199_s {M : MM} {a b c d : Int} {P : Int32 → MM → Prop} (h1 : -9223372036854775808 ≤ a * d ∧ a * d < 9223372036854775808) (h2 : -9223372036854775808 ≤ c * b ∧ c * b < 9223372036854775808) (hP : ∀ r : Int, -1 ≤ r → r ≤ 1 → (r < 0 ↔ a * d < c * b) → (0 < r ↔ c * b < a * d) → P (jI r) M) : w199 (jL a) (jL b) (jL c) (jL d) M P := by
  refine w200_s ?_
  rw [jL_mul, jL_mul, jL_toInt h1.1 h1.2, jL_toInt h2.1 h2.2]
  have := sgn_c (a * d - c * b)
  exact hP _ (by omega) (by omega) (by omega) (by omega)
theorem w198_s {M : MM} {k w i o : Nat} {W : Nat → WY} {P : Int32 → MM → Prop} (hL : Lay M) (hW : RWs M k W) (hw : w < k) (ho : o < k) (hi : i < wn (W w)) (hP : ∀ M', Fr sRQ M M' → mL M' 203 55 = jL (rnA (W w) i (W o) (nM (W w) i (W o))) → mL M' 203 56 = jL (rnB (W w) i (W o) (nM (W w) i (W o))) → P (jI (nM (W w) i (W o) : Int)) M') : w198 203 (jI (w : Int)) (jI (i : Int)) (jI (o : Int)) M P := by
  have k4 := hW.2.1
  have gw := (hW.2.2 w hw).1
  have go := (hW.2.2 o ho).1
  have o1 := go.1
  have o2 := go.2.1
  have put : ∀ (kk : Nat → Int32 → Int32 → Int32 → Int32 → Int32 → MM → Prop) (e : Nat) (M2 : MM), e + 1 < wn (W o) → Fr sRQ M M2 → mL M2 203 50 = jL (rnA (W w) i (W o) e) → mL M2 203 51 = jL (rnB (W w) i (W o) e) → (∀ M3, Fr sRQ M M3 → mL M3 203 55 = jL (rnA (W w) i (W o) e) → mL M3 203 56 = jL (rnB (W w) i (W o) e) → kk 203 (jI (w : Int)) (jI (i : Int)) (jI (o : Int)) (jI (e : Int)) (jI ((e + 1 : Nat) : Int)) M3) → w198_58 kk 203 (jI (w : Int)) (jI (i : Int)) (jI (o : Int)) (jI (e : Int)) M2 P := by
    intro kk e M2 he h2 f0 f1 hK
    have hL2 := h2.1 hL
    refine ⟨kd_203 hL2, kd_203 hL2, kd_203 hL2, kd_203 hL2, ?_⟩
    unfold w198_78
    rw [show (1 : Int32) = jI 1 from rfl, jI_add, c_s1, gL_n (by omega), f0, f1]
    refine hK _ (Fr_sL (Fr_sL h2 (sRQ_1 (by omega))) (sRQ_1 (by omega))) ?_ ?_
    · rw [gL_n (by omega), gL_y ⟨rfl, rfl⟩]
    · rw [gL_y ⟨rfl, rfl⟩]
  have lp : ∀ (q e : Nat) (l4 : Int32) (M1 : MM), e + q + 1 = wn (W o) → Fr sRQ M M1 → (e = 0 ∧ l4 = -1 ∨ 0 < e ∧ l4 = jI (agm (nC (W w) i (W o)) e : Int) ∧ mL M1 203 55 = jL (rnA (W w) i (W o) (agm (nC (W w) i (W o)) e)) ∧ mL M1 203 56 = jL (rnB (W w) i (W o) (agm (nC (W w) i (W o)) e))) → w198_6 (q + 1) 203 (jI (w : Int)) (jI (i : Int)) (jI (o : Int)) l4 (jI (e : Int)) M1 P := by
    intro q
    induction q with
    | zero =>
      intro e l4 M1 he h1 hI
      refine ⟨kd_203 (h1.1 hL), w180_q (h1.1 hL) (RWs_Q h1 hW) ho (br_t ?_ ?_)⟩
      · rw [show (1 : Int32) = jI 1 from rfl, jI_add, jI_le (by omega) (by omega) (by omega) (by omega)]; omega
      · rcases hI with z | ⟨_, rfl, z1, z2⟩
        · omega
        · have ee : agm (nC (W w) i (W o)) e = nM (W w) i (W o) := by unfold nM; rw [show wn (W o) - 1 = e by omega]
          rw [ee] at z1 z2 ⊢
          exact hP M1 h1 z1 z2
    | succ q ih =>
      intro e l4 M1 he h1 hI
      have hL1 := h1.1 hL
      have he' : e + 1 < wn (W o) := by omega
      have ee : jI (e : Int) + 1 = jI ((e + 1 : Nat) : Int) := by rw [show (1 : Int32) = jI 1 from rfl, jI_add, c_s1]
      refine ⟨kd_203 hL1, w180_q hL1 (RWs_Q h1 hW) ho (br_f ?_ ⟨kd_203 hL1, w191_s hL1 (RWs_Q h1 hW) hw hi ho he' (fun M2 h12 f0 f1 => ?_)⟩)⟩
      · rw [ee, jI_le (by omega) (by omega) (by omega) (by omega)]; omega
      have h2 : Fr sRQ M M2 := Fr_t h1 (Fr_w h12 (fun x k h => sLN_Q h))
      have hL2 := h2.1 hL
      rcases hI with ⟨rfl, rfl⟩ | ⟨e0, rfl, z1, z2⟩
      · refine br_t rfl (put _ 0 M2 he' h2 f0 f1 (fun M3 h3 f0 f1 => ih 1 _ M3 (by omega) h3 (Or.inr ⟨by omega, ?_, ?_, ?_⟩)))
        · rw [agm_1]
        · rw [agm_1]; exact f0
        · rw [agm_1]; exact f1
      · have ml := agm_l (c := nC (W w) i (W o)) e0
        have es := agm_s (nC (W w) i (W o)) e
        generalize agm (nC (W w) i (W o)) e = m at *
        have b1 := rn_b gw go hi he'
        have b2 := rn_b gw go hi (show m + 1 < wn (W o) by omega)
        have p1 := mul_bb b1.1 b1.2.1 (Int.le_of_lt b2.2.2.1) b2.2.2.2
        have p2 := mul_bb b2.1 b2.2.1 (Int.le_of_lt b1.2.2.1) b1.2.2.2
        have y1 : mL M2 203 55 = mL M1 203 55 := Fr_L h12 (sLN_f (by omega))
        have y2 : mL M2 203 56 = mL M1 203 56 := Fr_L h12 (sLN_f (by omega))
        have cr := nC_r gw go hi he' (show m + 1 < wn (W o) by omega)
        refine br_f ?_ ⟨kd_203 hL2, kd_203 hL2, kd_203 hL2, kd_203 hL2, ?_⟩
        · rw [show (-1 : Int32) = jI (-1) from rfl, jI_eq (by omega) (by omega) (by omega) (by omega)]; omega
        rw [f0, f1, y1, y2, z1, z2]
        refine w199_s (by omega) (by omega) (fun r r1 r2 r3 r4 => ?_)
        rw [show (jI r < (0 : Int32)) = (jI r < jI 0) from rfl, jI_lt (by omega) (by omega) (by omega) (by omega), r3]
        refine ⟨fun y => put _ e M2 he' h2 f0 f1 (fun M3 h3 f0 f1 => ih (e + 1) _ M3 (by omega) h3 (Or.inr ⟨by omega, ?_, ?_, ?_⟩)), fun y => ?_⟩
        all_goals try (
          have c : nC (W w) i (W o) e m = true := by rw [cr]; exact decide_eq_true y
          rw [c, if_pos rfl] at es
          rw [es])
        · exact f0
        · exact f1
        · unfold w198_78
          rw [ee]
          have c : nC (W w) i (W o) e m = false := by rw [cr]; exact decide_eq_false y
          rw [c, if_neg (by decide)] at es
          refine ih (e + 1) _ M2 (by omega) h2 (Or.inr ⟨by omega, ?_, ?_, ?_⟩)
          · rw [es]
          · rw [es, y1]; exact z1
          · rw [es, y2]; exact z2
  exact ⟨wn (W o) - 1 + 1, lp (wn (W o) - 1) 0 (-1) M (by omega) Fr_r (Or.inl ⟨rfl, rfl⟩)⟩
theorem w197_q {M : MM} {k : Nat} {W : Nat → WY} {F : Int × Int} {l1 l2 l3 : Int32} {P : Int32 → MM → Prop} (hL : Lay M) (hW : RWs M k W) (hF : RFr M F) (hX : ∀ M' r st F', Fr sRF M M' → mI M' 203 9 = st → RFr M' F' → (r, st, F') = nesA k W F l1 l2 l3 → P r M') : w197 203 l1 l2 l3 M P := by
  have hC := RWs_RW hL hW
  have k4 := hW.2.1
  have hg : ∀ w, w < k → gW (W w) := fun w hw => (hW.2.2 w hw).1
  unfold nesA at hX
  have no : (isPb k (cnt W) l1 l2 && isWb k l3) = false → w197_17 203 M P := fun e => by
    rw [e, if_neg (by decide)] at hX
    exact ⟨kd_203 hL, kd_203 hL, hX _ _ _ F (Fr_s9F Fr_r) (gI_y ⟨rfl, rfl⟩) hF rfl⟩
  refine ⟨kd_203 hL, w183_s hC ?_⟩
  cases c1 : isPb k (cnt W) l1 l2 with
  | false => exact br_t rfl (no (by rw [c1, Bool.false_and]))
  | true =>
    refine br_f (by decide) ⟨kd_203 hL, w182_s hC ?_⟩
    cases c2 : isWb k l3 with
    | false => exact br_f (fun z => z rfl) (no (by rw [c2, Bool.and_false]))
    | true =>
      rw [c1, c2, if_pos (by decide)] at hX
      refine br_t (by decide) ⟨fun ne => ?_, fun ne => ?_⟩
      · rw [if_neg ne] at hX
        obtain ⟨w, i, rfl, rfl, hw, hi, e1, e2⟩ := isPb_j k4 hg c1
        obtain ⟨o, ho, rfl⟩ := isWb_j k4 c2
        have e3 : (jI (o : Int)).toNatClampNeg = o := jI_cn (by omega)
        rw [e1, e2, e3] at hX
        refine ⟨kd_203 hL, w198_s hL hW hw ho hi (fun M1 h1 f0 f1 => ?_)⟩
        have hL1 := h1.1 hL
        refine ⟨kd_203 hL1, kd_203 hL1, kd_203 hL1, ?_⟩
        rw [f0, f1]
        have nl := nM_l (a := W w) (i := i) (hg o ho)
        refine w195_s hL1 (n_g (hg w hw) (hg o ho) hi nl).2 ⟨kd_203 hL1, kd_203 hL1, ?_⟩
        have nf := n_f (hg w hw) (hg o ho) hi nl
        rw [nf.1, nf.2]
        refine hX _ _ _ (_, _) (Fr_s9F (Fr_sL (Fr_sL (Fr_w h1 (fun x k h => sRF_Q h)) (sRF_1 (by omega))) (sRF_1 (by omega)))) (gI_y ⟨rfl, rfl⟩) ⟨?_, ?_⟩ rfl
        · rw [gL_sI, gL_n (by omega), gL_y ⟨rfl, rfl⟩]
        · rw [gL_sI, gL_y ⟨rfl, rfl⟩]
      · rw [if_pos (Classical.not_not.mp ne)] at hX
        exact ⟨kd_203 hL, kd_203 hL, hX _ _ _ F (Fr_s9F Fr_r) (gI_y ⟨rfl, rfl⟩) hF rfl⟩
