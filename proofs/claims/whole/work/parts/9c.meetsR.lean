/-! meets: the reference -/
theorem w205_s {M : MM} {k w i o j : Nat} {W : Nat → WY} {P : Int32 → MM → Prop} (hL : Lay M) (hW : RWs M k W) (hw : w < k) (hi : i + 1 < wn (W w)) (ho : o < k) (hj : j < wn (W o)) (hP : P (tS (W w) i (W o) j) M) : w205 203 (jI (w : Int)) (jI (i : Int)) (jI (o : Int)) (jI (j : Int)) M P := by
  have ei : jI (i : Int) + 1 = jI ((i + 1 : Nat) : Int) := by rw [show (1 : Int32) = jI 1 from rfl, jI_add, c_s1]
  unfold w205
  rw [ei]
  refine ⟨kd_203 hL, w184_q hL hW hw hi ⟨kd_203 hL, w184_q hL hW hw (by omega) ⟨kd_203 hL, w185_q hL hW hw hi ⟨kd_203 hL, w185_q hL hW hw (by omega) ⟨kd_203 hL, w185_q hL hW ho hj ⟨kd_203 hL, w185_q hL hW hw (by omega) ⟨kd_203 hL, w184_q hL hW ho hj ⟨kd_203 hL, w184_q hL hW hw (by omega) ?_⟩⟩⟩⟩⟩⟩⟩⟩
  rw [jI_sub, jI_sub, jI_sub, jI_sub, jI_mul, jI_mul, jI_sub]
  exact hP
theorem w206_s {M : MM} {k w i o j : Nat} {W : Nat → WY} {P : Int32 → MM → Prop} (hL : Lay M) (hW : RWs M k W) (hw : w < k) (hi : i + 1 < wn (W w)) (ho : o < k) (hj : j < wn (W o)) (hP : P (bI (box (W w) i (W o) j)) M) : w206 203 (jI (w : Int)) (jI (i : Int)) (jI (o : Int)) (jI (j : Int)) M P := by
  have ei : jI (i : Int) + 1 = jI ((i + 1 : Nat) : Int) := by rw [show (1 : Int32) = jI 1 from rfl, jI_add, c_s1]
  have b0 := (hW.2.2 w hw).1.2.2.1 i (by omega)
  have b1 := (hW.2.2 w hw).1.2.2.1 (i + 1) hi
  have b2 := (hW.2.2 o ho).1.2.2.1 j hj
  have no : box (W w) i (W o) j = false → w206_110 M P := fun e => ⟨Or.inl rfl, by rw [e] at hP; exact hP⟩
  unfold w206
  rw [ei]
  refine ⟨kd_203 hL, w184_q hL hW ho hj ⟨kd_203 hL, w185_q hL hW ho hj ⟨kd_203 hL, w184_q hL hW hw (by omega) ⟨kd_203 hL, w184_q hL hW hw hi (w70_s (by omega) (by omega) (by omega) (by omega) ?_)⟩⟩⟩⟩
  rw [jI_lt (by omega) (by omega) (by omega) (by omega)]
  refine ⟨fun z => no (decide_eq_false (by omega)), fun z1 => ⟨kd_203 hL, w184_q hL hW hw (by omega) ⟨kd_203 hL, w184_q hL hW hw hi (w33_s (by omega) (by omega) (by omega) (by omega) ?_)⟩⟩⟩
  rw [jI_lt (by omega) (by omega) (by omega) (by omega)]
  refine ⟨fun z => no (decide_eq_false (by omega)), fun z2 => ⟨kd_203 hL, w185_q hL hW hw (by omega) ⟨kd_203 hL, w185_q hL hW hw hi (w70_s (by omega) (by omega) (by omega) (by omega) ?_)⟩⟩⟩
  rw [jI_lt (by omega) (by omega) (by omega) (by omega)]
  refine ⟨fun z => no (decide_eq_false (by omega)), fun z3 => ⟨kd_203 hL, w185_q hL hW hw (by omega) ⟨kd_203 hL, w185_q hL hW hw hi (w33_s (by omega) (by omega) (by omega) (by omega) ?_)⟩⟩⟩
  rw [jI_lt (by omega) (by omega) (by omega) (by omega)]
  refine ⟨fun z => no (decide_eq_false (by omega)), fun z4 => ⟨Or.inr rfl, ?_⟩⟩
  rw [show box (W w) i (W o) j = true from decide_eq_true (by omega)] at hP
  exact hP
theorem w204_s {M : MM} {k w i o j : Nat} {W : Nat → WY} {l5 : Int32} {P : Int32 → MM → Prop} (hL : Lay M) (hW : RWs M k W) (hw : w < k) (hi : i + 1 < wn (W w)) (ho : o < k) (hj : j + 1 < wn (W o)) (hP : P (bI (meE l5 (W w) i (W o) j)) M) : w204 203 (jI (w : Int)) (jI (i : Int)) (jI (o : Int)) (jI (j : Int)) l5 M P := by
  have ei : jI (i : Int) + 1 = jI ((i + 1 : Nat) : Int) := by rw [show (1 : Int32) = jI 1 from rfl, jI_add, c_s1]
  have ej : jI (j : Int) + 1 = jI ((j + 1 : Nat) : Int) := by rw [show (1 : Int32) = jI 1 from rfl, jI_add, c_s1]
  unfold w204
  rw [ei, ej]
  refine ⟨kd_203 hL, w205_s hL hW hw hi ho (by omega) ⟨kd_203 hL, w205_s hL hW hw hi ho hj ⟨kd_203 hL, w205_s hL hW ho hj hw (by omega) ⟨kd_203 hL, w205_s hL hW ho hj hw hi ?_⟩⟩⟩⟩
  have yes : meE l5 (W w) i (W o) j = true → P 1 M := fun e => by rw [e] at hP; exact hP
  have nope : meE l5 (W w) i (W o) j = false → P 0 M := fun e => by rw [e] at hP; exact hP
  unfold meE at yes nope
  have rest : crs (W w) i (W o) j = false → w204_66 203 (jI (w : Int)) (jI (i : Int)) (jI (o : Int)) (jI (j : Int)) l5 (tS (W w) i (W o) j) (tS (W w) i (W o) (j + 1)) (tS (W o) j (W w) i) (tS (W o) j (W w) (i + 1)) M P := fun e => by
    rw [e, Bool.false_or] at yes nope
    refine ⟨fun z => ?_, fun z => nope (by rw [decide_eq_false z, Bool.false_and])⟩
    rw [decide_eq_true z, Bool.true_and] at yes nope
    unfold tch at yes nope
    have f4 : onE (W w) i (W o) j = false → onE (W w) i (W o) (j + 1) = false → onE (W o) j (W w) i = false → w204_126 203 (jI (w : Int)) (jI (i : Int)) (jI (o : Int)) (jI (j : Int)) (tS (W o) j (W w) (i + 1)) M P := fun e1 e2 e3 => by
      rw [e1, e2, e3, Bool.false_or, Bool.false_or, Bool.false_or] at yes nope
      unfold onE at yes nope
      refine ⟨fun y => ⟨Or.inl rfl, nope (by rw [decide_eq_false y, Bool.false_and])⟩, fun y => ⟨kd_203 hL, ?_⟩⟩
      rw [decide_eq_true (Classical.not_not.mp y), Bool.true_and] at yes nope
      rw [ei]
      refine w206_s hL hW ho hj hw hi ?_
      cases c : box (W o) j (W w) (i + 1) with
      | true => exact br_f (by decide) ⟨Or.inr rfl, yes c⟩
      | false => exact br_t rfl ⟨Or.inl rfl, nope c⟩
    have f3 : onE (W w) i (W o) j = false → onE (W w) i (W o) (j + 1) = false → w204_109 203 (jI (w : Int)) (jI (i : Int)) (jI (o : Int)) (jI (j : Int)) (tS (W o) j (W w) i) (tS (W o) j (W w) (i + 1)) M P := fun e1 e2 => by
      refine ⟨fun y => f4 e1 e2 (by unfold onE; rw [decide_eq_false y, Bool.false_and]), fun y => ⟨kd_203 hL, w206_s hL hW ho hj hw (by omega) ?_⟩⟩
      have ed : onE (W o) j (W w) i = box (W o) j (W w) i := by unfold onE; rw [decide_eq_true (Classical.not_not.mp y), Bool.true_and]
      cases c : box (W o) j (W w) i with
      | true => exact br_t (by decide) ⟨Or.inr rfl, yes (by rw [ed, c, Bool.true_or, Bool.or_true, Bool.or_true])⟩
      | false => exact br_f (fun z => z rfl) (f4 e1 e2 (ed.trans c))
    have f2 : onE (W w) i (W o) j = false → w204_90 203 (jI (w : Int)) (jI (i : Int)) (jI (o : Int)) (jI (j : Int)) (tS (W w) i (W o) (j + 1)) (tS (W o) j (W w) i) (tS (W o) j (W w) (i + 1)) M P := fun e1 => by
      refine ⟨fun y => f3 e1 (by unfold onE; rw [decide_eq_false y, Bool.false_and]), fun y => ⟨kd_203 hL, ?_⟩⟩
      rw [ej]
      refine w206_s hL hW hw hi ho hj ?_
      have ed : onE (W w) i (W o) (j + 1) = box (W w) i (W o) (j + 1) := by unfold onE; rw [decide_eq_true (Classical.not_not.mp y), Bool.true_and]
      cases c : box (W w) i (W o) (j + 1) with
      | true => exact br_t (by decide) ⟨Or.inr rfl, yes (by rw [ed, c, Bool.true_or, Bool.or_true])⟩
      | false => exact br_f (fun z => z rfl) (f3 e1 (ed.trans c))
    refine ⟨fun y => f2 (by unfold onE; rw [decide_eq_false y, Bool.false_and]), fun y => ⟨kd_203 hL, w206_s hL hW hw hi ho (by omega) ?_⟩⟩
    have ed : onE (W w) i (W o) j = box (W w) i (W o) j := by unfold onE; rw [decide_eq_true (Classical.not_not.mp y), Bool.true_and]
    cases c : box (W w) i (W o) j with
    | true => exact br_t (by decide) ⟨Or.inr rfl, yes (by rw [ed, c, Bool.true_or])⟩
    | false => exact br_f (fun z => z rfl) (f2 (ed.trans c))
  refine ⟨fun z => rest ?_, fun z => ⟨fun y => rest ?_, fun y => yes ?_⟩⟩
  · unfold crs; rw [decide_eq_false (Int32.not_lt.mpr z), Bool.false_and]
  · unfold crs; rw [decide_eq_false (Int32.not_lt.mpr y), Bool.and_false]
  · unfold crs; rw [decide_eq_true (Int32.not_le.mp z), decide_eq_true (Int32.not_le.mp y)]; rfl
theorem w203_70_s {M : MM} {k w i o s x : Nat} {W : Nat → WY} {l1 l2 l3 : Int32} {K : Nat → Int32 → Int32 → Int32 → Int32 → Int32 → MM → Prop} {P : Int32 → MM → Prop} (hL : Lay M) (hW : RWs M k W) (hw : w < k) (ho : o < k) (e1 : l1 = jI (w : Int)) (e2 : l2 = jI (o : Int)) (h3 : l3 = 0 ∨ l3 = 1) (hi : i + 1 < wn (W w)) (hs : s < 20) (hK : K 203 l1 l2 l3 (jI ((x + mIn (fun k => meE l3 (W w) i (W o) k) s (wn (W o) - 1) : Nat) : Int)) (jI ((i + 1 : Nat) : Int)) M) : ∀ (q j : Nat), wn (W o) ≤ j + 1 + q → s ≤ j → (j ≤ wn (W o) - 1 ∨ j = s) → w203_70 K (q + 1) 203 l1 l2 l3 (jI ((x + mIn (fun k => meE l3 (W w) i (W o) k) s j : Nat) : Int)) (jI (i : Int)) (jI (j : Int)) M P := by
  have n2 := (hW.2.2 o ho).1.2.1
  have ei : jI (i : Int) + 1 = jI ((i + 1 : Nat) : Int) := by rw [show (1 : Int32) = jI 1 from rfl, jI_add, c_s1]
  subst e1 e2
  have fin : ∀ j, wn (W o) ≤ j + 1 → s ≤ j → (j ≤ wn (W o) - 1 ∨ j = s) → mIn (fun k => meE l3 (W w) i (W o) k) s j = mIn (fun k => meE l3 (W w) i (W o) k) s (wn (W o) - 1) := fun j h1 h2 h3 => by
    rcases h3 with z | z
    · rw [show j = wn (W o) - 1 by omega]
    · rw [mIn_0 _ s j (by omega), mIn_0 _ s (wn (W o) - 1) (by omega)]
  intro q
  induction q with
  | zero =>
    intro j hj sj hz
    refine ⟨kd_203 hL, w180_q hL hW ho (br_t ?_ ?_)⟩
    · rw [show (1 : Int32) = jI 1 from rfl, jI_add, jI_le (by omega) (by omega) (by omega) (by omega)]; omega
    · rw [ei, fin j (by omega) sj hz]; exact hK
  | succ q ih =>
    intro j hj sj hz
    have ej : jI (j : Int) + 1 = jI ((j + 1 : Nat) : Int) := by rw [show (1 : Int32) = jI 1 from rfl, jI_add, c_s1]
    refine ⟨kd_203 hL, w180_q hL hW ho ?_⟩
    rw [ej, jI_le (by omega) (by omega) (by omega) (by omega)]
    refine ⟨fun y => ?_, fun y => ?_⟩
    · rw [ei, fin j (by omega) sj hz]; exact hK
    have nx := ih (j + 1) (by omega) (by omega) (Or.inl (by omega))
    have ms := mIn_s (fun k => meE l3 (W w) i (W o) k) s j sj
    have go : ∀ l5 : Int32, l5 = l3 → w203_101 K (fun z0 z1 z2 z3 z4 z5 z6 z7 => w203_70 K (q + 1) z0 z1 z2 z3 z4 z5 z6 z7 P) 203 (jI (w : Int)) (jI (o : Int)) l3 (jI (i : Int)) (jI (j : Int)) (jI ((x + mIn (fun k => meE l3 (W w) i (W o) k) s j : Nat) : Int)) (some 203) (jI (w : Int)) (jI (i : Int)) (jI (o : Int)) (jI (j : Int)) l5 M P := fun l5 e5 => by
      subst e5
      refine ⟨203, rfl, kd_203 hL, w204_s hL hW hw hi ho (by omega) ?_⟩
      unfold w203_112
      rw [ej]
      cases c : meE l5 (W w) i (W o) j with
      | false =>
        rw [ms, if_neg (by rw [c]; decide), Nat.add_zero] at nx
        refine br_t rfl ?_
        rw [show (0 : Int32) = jI 0 from rfl, jI_add, Int.add_zero]
        exact nx
      | true =>
        rw [ms, if_pos c, ← Nat.add_assoc] at nx
        refine br_f (by decide) ?_
        rw [show (1 : Int32) = jI 1 from rfl, jI_add, c_s1]
        exact nx
    refine ⟨fun z => go 0 ?_, fun z => go 1 (Classical.not_not.mp z).symm⟩
    rcases h3 with h | h
    · exact h.symm
    · exact absurd h z
theorem w203_43_s {M : MM} {k w o : Nat} {W : Nat → WY} {l1 l2 l3 : Int32} {P : Int32 → MM → Prop} (hL : Lay M) (hW : RWs M k W) (hw : w < k) (ho : o < k) (e1 : l1 = jI (w : Int)) (e2 : l2 = jI (o : Int)) (h3 : l3 = 0 ∨ l3 = 1) (hP : P (jI (meV l1 l2 l3 (W w) (W o) : Int)) (sI M 203 9 0)) : ∀ (q i : Nat), i + q + 1 = wn (W w) → w203_43 (q + 1) 203 l1 l2 l3 (jI (mTo (fun i k => meE l3 (W w) i (W o) k) (mSt l1 l2) (wn (W o) - 1) i : Int)) (jI (i : Int)) M P := by
  have n1 := (hW.2.2 w hw).1.2.1
  intro q
  induction q with
  | zero =>
    intro i hi
    unfold w203_43
    refine ⟨kd_203 hL, ?_⟩
    rw [e1]
    refine w180_q hL hW hw (br_t ?_ ⟨kd_203 hL, kd_203 hL, ?_⟩)
    · rw [show (1 : Int32) = jI 1 from rfl, jI_add, jI_le (by omega) (by omega) (by omega) (by omega)]; omega
    · unfold meV at hP
      rw [show wn (W w) - 1 = i by omega] at hP; rw [← e1]; exact hP
  | succ q ih =>
    intro i hi
    have ei : jI (i : Int) + 1 = jI ((i + 1 : Nat) : Int) := by rw [show (1 : Int32) = jI 1 from rfl, jI_add, c_s1]
    have go : ∀ s : Nat, s = mSt l1 l2 i → s < 20 → w203_68 (fun z0 z1 z2 z3 z4 z5 z6 => w203_43 (q + 1) z0 z1 z2 z3 z4 z5 z6 P) 203 l1 l2 l3 (jI (mTo (fun i k => meE l3 (W w) i (W o) k) (mSt l1 l2) (wn (W o) - 1) i : Int)) (jI (i : Int)) (jI (s : Int)) M P := fun s es hs => by
      refine ⟨wn (W o) + 1, ?_⟩
      have := w203_70_s (K := fun z0 z1 z2 z3 z4 z5 z6 => w203_43 (q + 1) z0 z1 z2 z3 z4 z5 z6 P) (P := P) (s := s) (x := mTo (fun i k => meE l3 (W w) i (W o) k) (mSt l1 l2) (wn (W o) - 1) i) (l1 := l1) (l2 := l2) (l3 := l3) hL hW hw ho e1 e2 h3 (i := i) (by omega) hs (by rw [es]; exact ih (i + 1) (by omega)) (wn (W o)) s (by omega) (by omega) (Or.inr rfl)
      rw [mIn_0 _ s s (by omega), Nat.add_zero] at this
      exact this
    have fin : ((jI (wn (W w) : Int) ≤ jI (i : Int) + 1) → (kd M 203 10 ∧ w177 203 (jI (mTo (fun i k => meE l3 (W w) i (W o) k) (mSt l1 l2) (wn (W o) - 1) i : Int)) M (fun r4 M3 => P r4 M3))) := fun z => by
      rw [ei, jI_le (by omega) (by omega) (by omega) (by omega)] at z
      omega
    refine ⟨kd_203 hL, ?_⟩
    have := w180_q (P := fun r2 M1 => (r2 ≤ (jI (i : Int) + (1 : Int32)) → (kd M1 203 10 ∧ w177 203 (jI (mTo (fun i k => meE l3 (W w) i (W o) k) (mSt l1 l2) (wn (W o) - 1) i : Int)) M1 (fun r4 M3 => P r4 M3))) ∧ (¬ (r2 ≤ (jI (i : Int) + (1 : Int32))) → ((l1 ≠ l2 → (w203_68 (fun z0 z1 z2 z3 z4 z5 z6 => w203_43 (q + 1) z0 z1 z2 z3 z4 z5 z6 P) 203 l1 l2 l3 (jI (mTo (fun i k => meE l3 (W w) i (W o) k) (mSt l1 l2) (wn (W o) - 1) i : Int)) (jI (i : Int)) (0 : Int32) M1 P)) ∧ (¬ (l1 ≠ l2) → (w203_68 (fun z0 z1 z2 z3 z4 z5 z6 => w203_43 (q + 1) z0 z1 z2 z3 z4 z5 z6 P) 203 l1 l2 l3 (jI (mTo (fun i k => meE l3 (W w) i (W o) k) (mSt l1 l2) (wn (W o) - 1) i : Int)) (jI (i : Int)) (jI (i : Int) + (2 : Int32)) M1 P))))) hL hW hw ⟨fin, fun _ => ⟨fun z => go 0 (if_neg z).symm (by omega), fun z => by
      rw [show (2 : Int32) = jI 2 from rfl, jI_add, c_s2]
      exact go (i + 2) (if_pos (Classical.not_not.mp z)).symm (by omega)⟩⟩
    rw [← e1] at this
    exact this
theorem w203_q {M : MM} {k : Nat} {W : Nat → WY} {l1 l2 l3 : Int32} {P : Int32 → MM → Prop} (hL : Lay M) (hW : RWs M k W) (hX : ∀ M' r st, Fr sRQ M M' → mI M' 203 9 = st → (r, st) = meeA k W l1 l2 l3 → P r M') : w203 203 l1 l2 l3 M P := by
  have hC := RWs_RW hL hW
  have k4 := hW.2.1
  unfold meeA at hX
  refine w166_s ?_
  cases hf : frb l3 0 1 with
  | false =>
    rw [if_neg (by rw [hf]; decide)] at hX
    exact br_f (by decide) ⟨kd_203 hL, kd_203 hL, hX _ _ _ (Fr_s9 Fr_r) (gI_y ⟨rfl, rfl⟩) rfl⟩
  | true =>
    rw [if_pos hf] at hX
    have h3 : l3 = 0 ∨ l3 = 1 := by
      obtain ⟨q, rfl, q0, q1⟩ := frb_j (x := 0) (y := 1) rfl rfl (by omega) (by omega) (by omega) hf
      rcases Nat.lt_or_ge q 1 with z | z
      · left; rw [show q = 0 by omega]; rfl
      · right; rw [show q = 1 by omega]; rfl
    have no : (isWb k l1 && isWb k l2) = false → w203_31 203 M P := fun e => by
      rw [e, if_neg (by decide)] at hX
      exact ⟨kd_203 hL, kd_203 hL, hX _ _ _ (Fr_s9 Fr_r) (gI_y ⟨rfl, rfl⟩) rfl⟩
    refine br_t (by decide) ⟨kd_203 hL, w182_s hC ?_⟩
    cases c1 : isWb k l1 with
    | false => exact br_t rfl (no (by rw [c1, Bool.false_and]))
    | true =>
      refine br_f (by decide) ⟨kd_203 hL, w182_s hC ?_⟩
      cases c2 : isWb k l2 with
      | false => exact br_f (fun z => z rfl) (no (by rw [c2, Bool.and_false]))
      | true =>
        rw [c1, c2, if_pos (by decide)] at hX
        obtain ⟨w, hw, rfl⟩ := isWb_j k4 c1
        obtain ⟨o, ho, rfl⟩ := isWb_j k4 c2
        have a1 := (hW.2.2 w hw).1.1
        rw [jI_cn (by omega), jI_cn (by omega)] at hX
        exact br_t (by decide) ⟨wn (W w) - 1 + 1, w203_43_s hL hW hw ho rfl rfl h3 (hX _ _ _ (Fr_s9 Fr_r) (gI_y ⟨rfl, rfl⟩) rfl) (wn (W w) - 1) 0 (by omega)⟩
