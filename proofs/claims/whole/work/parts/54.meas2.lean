/-! ===== the class's cells: REACHED ===== -/
theorem lf_free {an bn : Nat} {G : GG} {F A : Bool → Nat → Nat → Nat → Prop} (ok : okG an bn G F A) {i j k : Nat} (hi : i < an) (hj : j + 1 < bn) (h : lf G i j = some k) : k ≤ i ∧ gF G true k j = true := by
  rw [lf_lo] at h
  obtain ⟨m, h1, h2, h3, h4, _⟩ := lo_inv (ok.1 j hj) (fun h => (ok.2.2.1 0 j (by omega) hj (rimL_n h j (Nat.le_refl _))).1) i hi k h
  exact ⟨h2, (h4 k k h1 (Nat.le_refl _) h2).1⟩
theorem lw_free {an bn : Nat} {G : GG} {F A : Bool → Nat → Nat → Nat → Prop} (ok : okG an bn G F A) {i j k : Nat} (hi : i + 1 < an) (hj : j < bn) (h : lw G i j = some k) : k ≤ j ∧ gF G false i k = true := by
  rw [lw_lo] at h
  obtain ⟨m, h1, h2, h3, h4, _⟩ := lo_inv (ok.2.1 i hi) (fun h => (ok.2.2.2.1 i 0 hi (by omega) (rimB_n h i (Nat.le_refl _))).1) j hj k h
  exact ⟨h2, (h4 k k h1 (Nat.le_refl _) h2).1⟩
theorem w84_t {M : MM} {o a1 a2 self : Nat} {ob : Nat → Nat} {L n d f' s' : Int} {f s : Nat → Int} {fre : Bool} {ahd : Option Nat} {P : MM → Prop} (ho : kd M o 7) (h1 : kd M a1 7) (h2 : kd M a2 7) (hs : o = ob self) (hE : gE n d) (eo : sdE M o L f' s' n d) (Bo : sdB L f' s') (hfre : fre = frB L n d f' s') (hah : mR M a1 10 = ahd.map ob)
    (hb : ∀ k, ahd = some k → kd M (ob k) 7 ∧ sdE M (ob k) L (f k) (s k) n d ∧ sdB L (f k) (s k) ∧ frB L n d (f k) (s k) = true)
    (hP : ∀ M2, M2 = cfM M o ob (cf fre (mR M a2 10).isSome ahd self (fun k => k1B L n d (f k) (s k) f' s') (fun k => k2B L n d (f k) (s k) f' s')) → P M2) : w84 o (some a2) (some a1) M P :=
  w84_s ho h1 h2 hs hE eo Bo hfre hah hb (hP _ rfl)
def nn (_ _ : Nat) : Option Nat := none
theorem ST_e {M0 M : MM} {a b : WY} {n d : Int} {lfv lwv : Nat → Nat → Option Nat} (hL0 : Lay M0) (hld : Laid M0 a b) (h : ST M0 a b n d lfv lwv M) : Lay M ∧ mI M 59 1 = jI ((wn a : Int) - 1) ∧ mI M 59 2 = jI ((wn b : Int) - 1) :=
  ⟨h.1.1 hL0, (Fr_I h.1 (sMea_f (by omega))).trans hld.1, (Fr_I h.1 (sMea_f (by omega))).trans hld.2.1⟩
theorem w80_57_s {M0 : MM} {a b : WY} {n d : Int} {P : MM → Prop} (hL0 : Lay M0) (hld : Laid M0 a b) (ga : gW a) (gb : gW b) (hX : ∀ M', ST M0 a b n d nn (fun i' j => if j = 0 ∧ rimB (geo a b n d) i' = true then some 0 else none) M' → w80_102 59 M' P) :
    ∀ (q i : Nat) (M : MM), i + q + 1 = wn a → (∀ k, k < i → gN (geo a b n d) k 0 = true) → ST M0 a b n d nn (fun i' j => if j = 0 ∧ i' < i then some 0 else none) M → w80_57 (q + 1) 59 (jI (i : Int)) M P := by
  have a1 := ga.1
  have a2 := ga.2.1
  have b1 := gb.1
  intro q
  induction q with
  | zero =>
    intro i M hi hN hS
    obtain ⟨hL, h1, h2⟩ := ST_e hL0 hld hS
    refine ⟨kd_59 hL, ?_⟩
    rw [h1, jI_le (by omega) (by omega) (by omega) (by omega)]
    refine br_t (by omega) (hX M (ST_c hS (fun _ _ _ _ => rfl) (fun i' j x y => ?_)))
    have : rimB (geo a b n d) i' = true := rimB_i (fun k hk => hN k (by omega))
    simp only [this, and_true, show i' < i by omega]
  | succ q ih =>
    intro i M hi hN hS
    obtain ⟨hL, h1, h2⟩ := ST_e hL0 hld hS
    refine ⟨kd_59 hL, ?_⟩
    rw [h1, jI_le (by omega) (by omega) (by omega) (by omega)]
    have hk : kd M (oL i 0) 7 := kd_S hL (by omega)
    refine br_f (by omega) ⟨kd_59 hL, w82_s (j := 0) hL (by omega) ⟨oL i 0, rfl, hk, ?_⟩⟩
    have hs := hS.2.2 i 0 (by omega) (by omega)
    have e7 : mI M (oL i 0) 7 = bI (gN (geo a b n d) i 0) := by
      rw [hs.1.2.2.2.1]
      show bI (decide (qd b 0 a i * d ≤ n)) = bI (decide (qd a i b 0 * d ≤ n))
      rw [qd_sym]
    rw [e7]
    cases hc : gN (geo a b n d) i 0 with
    | false =>
      refine br_t rfl (hX M (ST_c hS (fun _ _ _ _ => rfl) (fun i' j x y => ?_)))
      by_cases e : i' < i
      · have : rimB (geo a b n d) i' = true := rimB_i (fun k hk => hN k (by omega))
        simp only [this, e, and_true]
      · have : ¬ rimB (geo a b n d) i' = true := fun z => by
          have := rimB_n z i (by omega)
          rw [hc] at this; cases this
        rw [if_neg (fun z => e z.2), if_neg (fun z => this z.2)]
    | true =>
      refine br_f (by decide) ⟨kd_59 hL, w82_s (j := 0) hL (by omega) ⟨kd_59 hL, w82_s (j := 0) hL (by omega) ⟨oL i 0, rfl, hk, ?_⟩⟩⟩
      simp only [jI_lit, jL_lit, jI_add, jI_sub, jI_mul, jI_neg, jL_add, jL_sub, jL_mul, jL_neg, jL_i, c_s1]
      refine ih (i + 1) _ (by omega) (fun k hk => ?_) (ST_c (ST_W (r := some 0) ga gb (by omega) (by omega) hS (by simp)) (fun _ _ _ _ => rfl) (fun i' j x y => ?_))
      · by_cases e : k < i
        · exact hN k e
        · have : k = i := by omega
          subst this; exact hc
      · unfold uP
        by_cases e : i' = i ∧ j = 0
        · rw [if_pos e, if_pos (by omega)]
        · rw [if_neg e]
          dsimp only
          by_cases e2 : j = 0 ∧ i' < i
          · rw [if_pos e2, if_pos (by omega)]
          · rw [if_neg e2, if_neg (by omega)]
theorem w80_105_s {M0 : MM} {a b : WY} {n d : Int} {P : MM → Prop} {lwv : Nat → Nat → Option Nat} (hL0 : Lay M0) (hld : Laid M0 a b) (ga : gW a) (gb : gW b) (hX : ∀ M', ST M0 a b n d (fun i j' => if i = 0 ∧ rimL (geo a b n d) j' = true then some 0 else none) lwv M' → w80_150 59 M' P) :
    ∀ (q j : Nat) (M : MM), j + q + 1 = wn b → (∀ k, k < j → gN (geo a b n d) 0 k = true) → ST M0 a b n d (fun i j' => if i = 0 ∧ j' < j then some 0 else none) lwv M → w80_105 (q + 1) 59 (jI (j : Int)) M P := by
  have a1 := ga.1
  have b1 := gb.1
  have b2 := gb.2.1
  intro q
  induction q with
  | zero =>
    intro i M hi hN hS
    obtain ⟨hL, h1, h2⟩ := ST_e hL0 hld hS
    refine ⟨kd_59 hL, ?_⟩
    rw [h2, jI_le (by omega) (by omega) (by omega) (by omega)]
    refine br_t (by omega) (hX M (ST_c hS (fun i' j x y => ?_) (fun _ _ _ _ => rfl)))
    have : rimL (geo a b n d) j = true := rimL_i (fun k hk => hN k (by omega))
    simp only [this, and_true, show j < i by omega]
  | succ q ih =>
    intro i M hi hN hS
    obtain ⟨hL, h1, h2⟩ := ST_e hL0 hld hS
    refine ⟨kd_59 hL, ?_⟩
    rw [h2, jI_le (by omega) (by omega) (by omega) (by omega)]
    have hk : kd M (oF 0 i) 7 := kd_S hL (by omega)
    refine br_f (by omega) ⟨kd_59 hL, w83_s (i := 0) hL (by omega) ⟨oF 0 i, rfl, hk, ?_⟩⟩
    have hs := hS.2.1 0 i (by omega) (by omega)
    have e7 : mI M (oF 0 i) 7 = bI (gN (geo a b n d) 0 i) := hs.1.2.2.2.1
    rw [e7]
    cases hc : gN (geo a b n d) 0 i with
    | false =>
      refine br_t rfl (hX M (ST_c hS (fun i' j x y => ?_) (fun _ _ _ _ => rfl)))
      by_cases e : j < i
      · have : rimL (geo a b n d) j = true := rimL_i (fun k hk => hN k (by omega))
        simp only [this, e, and_true]
      · have : ¬ rimL (geo a b n d) j = true := fun z => by
          have := rimL_n z i (by omega)
          rw [hc] at this; cases this
        rw [if_neg (fun z => e z.2), if_neg (fun z => this z.2)]
    | true =>
      refine br_f (by decide) ⟨kd_59 hL, w83_s (i := 0) hL (by omega) ⟨kd_59 hL, w83_s (i := 0) hL (by omega) ⟨oF 0 i, rfl, hk, ?_⟩⟩⟩
      simp only [jI_lit, jL_lit, jI_add, jI_sub, jI_mul, jI_neg, jL_add, jL_sub, jL_mul, jL_neg, jL_i, c_s1]
      refine ih (i + 1) _ (by omega) (fun k hk => ?_) (ST_c (ST_F (r := some 0) ga gb (by omega) (by omega) hS (by simp)) (fun i' j x y => ?_) (fun _ _ _ _ => rfl))
      · by_cases e : k < i
        · exact hN k e
        · have : k = i := by omega
          subst this; exact hc
      · unfold uP
        by_cases e : i' = 0 ∧ j = i
        · rw [if_pos e, if_pos (by omega)]
        · rw [if_neg e]
          dsimp only
          by_cases e2 : i' = 0 ∧ j < i
          · rw [if_pos e2, if_pos (by omega)]
          · rw [if_neg e2, if_neg (by omega)]
/-- LOWs as they stand ahead of CELL i, j -/
def lfS (G : GG) (i j : Nat) : Nat → Nat → Option Nat := fun i' j' => if i' ≤ i ∨ (i' = i + 1 ∧ j' < j) then lf G i' j' else none
def lwS (G : GG) (i j : Nat) : Nat → Nat → Option Nat := fun i' j' => if i' < i ∨ (i' = i ∧ j' ≤ j) ∨ j' = 0 then lw G i' j' else none
theorem w80_165_s {M0 : MM} {a b : WY} {n d : Int} {i : Nat} {k153 : Nat → Int32 → MM → Prop} {P : MM → Prop} (hL0 : Lay M0) (hld : Laid M0 a b) (ga : gW a) (gb : gW b) (hE : gE n d) (hi : i + 1 < wn a) (hX : ∀ M', ST M0 a b n d (lfS (geo a b n d) (i + 1) 0) (lwS (geo a b n d) (i + 1) 0) M' → k153 59 (jI ((i + 1 : Nat) : Int)) M') :
    ∀ (q j : Nat) (M : MM), j + q + 1 = wn b → ST M0 a b n d (lfS (geo a b n d) i j) (lwS (geo a b n d) i j) M → w80_165 k153 (q + 1) 59 (jI (i : Int)) (jI (j : Int)) M P := by
  have a2 := ga.2.1
  have b1 := gb.1
  have b2 := gb.2.1
  have ok := geo_ok (n := n) ga gb hE.2.2.1
  intro q
  induction q with
  | zero =>
    intro j M hj hS
    obtain ⟨hL, h1, h2⟩ := ST_e hL0 hld hS
    refine ⟨kd_59 hL, ?_⟩
    rw [h2, jI_le (by omega) (by omega) (by omega) (by omega)]
    refine br_t (by omega) ?_
    simp only [jI_lit, jL_lit, jI_add, jI_sub, jI_mul, jI_neg, jL_add, jL_sub, jL_mul, jL_neg, jL_i, c_s1]
    refine hX M (ST_c hS (fun i' j' x y => ?_) (fun i' j' x y => ?_))
    · unfold lfS
      by_cases e : i' ≤ i + 1
      · rw [if_pos (by omega), if_pos (by omega)]
      · rw [if_neg (by omega), if_neg (by omega)]
    · unfold lwS
      by_cases e : i' < i + 1 ∨ j' = 0
      · rw [if_pos (by omega), if_pos (by omega)]
      · rw [if_neg (by omega), if_neg (by omega)]
  | succ q ih =>
    intro j M hj hS
    obtain ⟨hL, h1, h2⟩ := ST_e hL0 hld hS
    refine ⟨kd_59 hL, ?_⟩
    rw [h2, jI_le (by omega) (by omega) (by omega) (by omega)]
    refine br_f (by omega) ⟨kd_59 hL, ?_⟩
    simp only [jI_lit, jL_lit, jI_add, jI_sub, jI_mul, jI_neg, jL_add, jL_sub, jL_mul, jL_neg, jL_i, c_s1]
    have hj1 : j + 1 < wn b := by omega
    have kdF : ∀ k, k < wn a → kd M (oF k j) 7 := fun k hk => kd_S hL (by omega)
    have kdL : ∀ k, k < wn b → kd M (oL i k) 7 := fun k hk => kd_S hL (by omega)
    refine w83_s hL (by omega) ⟨kd_59 hL, w82_s hL (by omega) ⟨kd_59 hL, w83_s hL (by omega) ⟨oF (i + 1) j, rfl, kdF (i + 1) hi, ?_⟩⟩⟩
    have sF := hS.2.1 (i + 1) j hi hj1
    have sF0 := hS.2.1 i j (by omega) hj1
    have sL0 := hS.2.2 i j hi (by omega)
    have eF0 : lfS (geo a b n d) i j i j = lf (geo a b n d) i j := if_pos (by omega)
    have eL0 : lwS (geo a b n d) i j i j = lw (geo a b n d) i j := if_pos (by omega)
    have eF1 : lfS (geo a b n d) i j (i + 1) j = none := if_neg (by omega)
    rw [eF0] at sF0
    rw [eL0] at sL0
    refine w84_t (self := i + 1) (ob := fun k => oF k j) (f := fun k => eF b j a k) (s := fun k => eS b j a k) (fre := gF (geo a b n d) true (i + 1) j) (kdF (i + 1) hi) (kdF i (by omega)) (kdL j (by omega)) rfl hE sF.1 (sdB_of gb ga hj1 hi) rfl sF0.2 ?_ ?_
    · intro k hk
      have z := lf_free ok (by omega) hj1 hk
      exact ⟨kdF k (by omega), (hS.2.1 k j (by omega) hj1).1, sdB_of gb ga hj1 (by omega), z.2⟩
    · intro M2 hM2
      have e : cf (gF (geo a b n d) true (i + 1) j) (mR M (oL i j) 10).isSome (lf (geo a b n d) i j) (i + 1) (fun k => g1 (geo a b n d) true j k (i + 1)) (fun k => g2 (geo a b n d) true j k (i + 1)) = lf (geo a b n d) (i + 1) j := by
        rw [sL0.2, Option.isSome_map]; exact (lf_s _ _ _).symm
      have hM3 : M2 = cfM M (oF (i + 1) j) (fun k => oF k j) (lf (geo a b n d) (i + 1) j) := hM2.trans (congrArg (cfM M (oF (i + 1) j) (fun k => oF k j)) e)
      have hS2 : ST M0 a b n d (uP (lfS (geo a b n d) i j) (i + 1) j (lf (geo a b n d) (i + 1) j)) (lwS (geo a b n d) i j) M2 := by
        rw [hM3]; exact ST_F ga gb hi hj1 hS eF1
      obtain ⟨hL2, h12, h22⟩ := ST_e hL0 hld hS2
      have kdL2 : ∀ k, k < wn b → kd M2 (oL i k) 7 := fun k hk => kd_S hL2 (by omega)
      refine ⟨kd_59 hL2, w82_s hL2 (by omega) ⟨kd_59 hL2, w83_s hL2 (by omega) ⟨kd_59 hL2, w82_s hL2 (by omega) ⟨oL i (j + 1), rfl, kdL2 (j + 1) hj1, ?_⟩⟩⟩⟩
      have tF0 := hS2.2.1 i j (by omega) hj1
      have tL := hS2.2.2 i (j + 1) hi hj1
      have tL0 := hS2.2.2 i j hi (by omega)
      have eF2 : uP (lfS (geo a b n d) i j) (i + 1) j (lf (geo a b n d) (i + 1) j) i j = lf (geo a b n d) i j := by
        unfold uP; rw [if_neg (by omega)]; exact eF0
      rw [eF2] at tF0
      rw [eL0] at tL0
      have eL1 : lwS (geo a b n d) i j i (j + 1) = none := if_neg (by omega)
      refine w84_t (self := j + 1) (ob := fun k => oL i k) (f := fun k => eF a i b k) (s := fun k => eS a i b k) (fre := gF (geo a b n d) false i (j + 1)) (kdL2 (j + 1) hj1) (kdL2 j (by omega)) (kd_S hL2 (by omega)) rfl hE tL.1 (sdB_of ga gb hi hj1) rfl tL0.2 ?_ ?_
      · intro k hk
        have z := lw_free ok hi (by omega) hk
        exact ⟨kdL2 k (by omega), (hS2.2.2 i k hi (by omega)).1, sdB_of ga gb hi (by omega), z.2⟩
      · intro M3 hM4
        have e2 : cf (gF (geo a b n d) false i (j + 1)) (mR M2 (oF i j) 10).isSome (lw (geo a b n d) i j) (j + 1) (fun k => g1 (geo a b n d) false i k (j + 1)) (fun k => g2 (geo a b n d) false i k (j + 1)) = lw (geo a b n d) i (j + 1) := by
          rw [tF0.2, Option.isSome_map]; exact (lw_s _ _ _).symm
        have hM5 : M3 = cfM M2 (oL i (j + 1)) (fun k => oL i k) (lw (geo a b n d) i (j + 1)) := hM4.trans (congrArg (cfM M2 (oL i (j + 1)) (fun k => oL i k)) e2)
        have hS3 : ST M0 a b n d (uP (lfS (geo a b n d) i j) (i + 1) j (lf (geo a b n d) (i + 1) j)) (uP (lwS (geo a b n d) i j) i (j + 1) (lw (geo a b n d) i (j + 1))) M3 := by
          rw [hM5]; exact ST_W ga gb hi hj1 hS2 eL1
        refine ih (j + 1) _ (by omega) (ST_c hS3 (fun i' j' x y => ?_) (fun i' j' x y => ?_))
        · unfold uP lfS
          by_cases e : i' = i + 1 ∧ j' = j
          · rw [if_pos e, if_pos (by omega), e.1, e.2]
          · rw [if_neg e]
            by_cases e2 : i' ≤ i ∨ (i' = i + 1 ∧ j' < j)
            · rw [if_pos e2, if_pos (by omega)]
            · rw [if_neg e2, if_neg (by omega)]
        · unfold uP lwS
          by_cases e : i' = i ∧ j' = j + 1
          · rw [if_pos e, if_pos (by omega), e.1, e.2]
          · rw [if_neg e]
            by_cases e2 : i' < i ∨ (i' = i ∧ j' ≤ j) ∨ j' = 0
            · rw [if_pos e2, if_pos (by omega)]
            · rw [if_neg e2, if_neg (by omega)]
theorem w80_153_s {M0 : MM} {a b : WY} {n d : Int} {P : MM → Prop} (hL0 : Lay M0) (hld : Laid M0 a b) (ga : gW a) (gb : gW b) (hE : gE n d) (hX : ∀ M', ST M0 a b n d (lf (geo a b n d)) (lw (geo a b n d)) M' → P M') :
    ∀ (q i : Nat) (M : MM), i + q + 1 = wn a → ST M0 a b n d (lfS (geo a b n d) i 0) (lwS (geo a b n d) i 0) M → w80_153 (q + 1) 59 (jI (i : Int)) M P := by
  have a1 := ga.1
  have a2 := ga.2.1
  have b1 := gb.1
  intro q
  induction q with
  | zero =>
    intro i M hi hS
    obtain ⟨hL, h1, h2⟩ := ST_e hL0 hld hS
    refine ⟨kd_59 hL, ?_⟩
    rw [h1, jI_le (by omega) (by omega) (by omega) (by omega)]
    refine br_t (by omega) (hX M (ST_c hS (fun i' j' x y => ?_) (fun i' j' x y => ?_)))
    · exact if_pos (by omega)
    · exact if_pos (by omega)
  | succ q ih =>
    intro i M hi hS
    obtain ⟨hL, h1, h2⟩ := ST_e hL0 hld hS
    refine ⟨kd_59 hL, ?_⟩
    rw [h1, jI_le (by omega) (by omega) (by omega) (by omega)]
    refine br_f (by omega) ⟨wn b - 1 + 1, ?_⟩
    exact w80_165_s hL0 hld ga gb hE (by omega) (fun M' hS' => ih (i + 1) M' (by omega) hS') (wn b - 1) 0 M (by omega) hS
theorem w80_s {M0 : MM} {a b : WY} {n d : Int} {P : MM → Prop} (hL0 : Lay M0) (hld : Laid M0 a b) (ga : gW a) (gb : gW b) (hE : gE n d) (hX : ∀ M', ST M0 a b n d (lf (geo a b n d)) (lw (geo a b n d)) M' → P M') : w80 59 (jL n) (jL d) M0 P := by
  have a1 := ga.1
  have b1 := gb.1
  refine ⟨15, w80_3_s hL0 hld ga gb hE (fun M1 h1 => ?_) 14 0 M0 (by omega) ⟨Fr_r, fun r' p' x y z => by omega⟩⟩
  refine ⟨wn a - 1 + 1, w80_57_s hL0 hld ga gb (fun M2 h2 => ?_) (wn a - 1) 0 M1 (by omega) (fun k hk => by omega) (ST_c (ST_1 ga gb h1) (fun _ _ _ _ => rfl) (fun i' j x y => by rw [if_neg (by omega)]))⟩
  refine ⟨wn b - 1 + 1, w80_105_s hL0 hld ga gb (fun M3 h3 => ?_) (wn b - 1) 0 M2 (by omega) (fun k hk => by omega) (ST_c h2 (fun i' j x y => by rw [if_neg (by omega)]; rfl) (fun _ _ _ _ => rfl))⟩
  refine ⟨wn a - 1 + 1, w80_153_s hL0 hld ga gb hE hX (wn a - 1) 0 M3 (by omega) (ST_c h3 (fun i' j x y => ?_) (fun i' j x y => ?_))⟩
  · unfold lfS
    by_cases e : i' = 0
    · subst e
      rw [if_pos (show 0 ≤ 0 ∨ _ from Or.inl (Nat.le_refl _)), lf_0]
      simp only [true_and]
    · rw [if_neg (fun z => e z.1), if_neg (by omega)]
  · unfold lwS
    by_cases e : j = 0
    · subst e
      rw [if_pos (show _ ∨ _ ∨ 0 = 0 from Or.inr (Or.inr rfl)), lw_0]
      simp only [true_and]
    · rw [if_neg (fun z => e z.1), if_neg (by omega)]
