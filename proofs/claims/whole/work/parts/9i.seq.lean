/-! ===== rising rows of fractions ===== -/
def Sq (c : Nat) (A B : Nat → Int) : Prop := (∀ k, k < c → gE (A k) (B k)) ∧ ∀ k m, k < m → m < c → A k * B m < A m * B k
def Me (c : Nat) (A B : Nat → Int) (n d : Int) : Prop := ∃ k, k < c ∧ A k * d = n * B k
def ins (p : Nat) (v : Int) (A : Nat → Int) : Nat → Int := fun k => if k < p then A k else if k = p then v else A (k - 1)
theorem ins_l {p k : Nat} {v : Int} {A : Nat → Int} (h : k < p) : ins p v A k = A k := if_pos h
theorem ins_e {p : Nat} {v : Int} {A : Nat → Int} : ins p v A p = v := by unfold ins; rw [if_neg (by omega), if_pos rfl]
theorem ins_g {p k : Nat} {v : Int} {A : Nat → Int} (h : p < k) : ins p v A k = A (k - 1) := by unfold ins; rw [if_neg (by omega), if_neg (by omega)]
theorem ins_ok {c p : Nat} {A B : Nat → Int} {n d : Int} (h : Sq c A B) (hp : p ≤ c) (hE : gE n d) (h1 : ∀ k, k < p → A k * d < n * B k) (h2 : ∀ k, p ≤ k → k < c → n * B k < A k * d) : Sq (c + 1) (ins p n A) (ins p d B) ∧ ∀ n' d', Me (c + 1) (ins p n A) (ins p d B) n' d' ↔ (Me c A B n' d' ∨ n * d' = n' * d) := by
  refine ⟨⟨fun k hk => ?_, fun k m km hm => ?_⟩, fun n' d' => ⟨?_, ?_⟩⟩
  · rcases Nat.lt_trichotomy k p with z | z | z
    · rw [ins_l z, ins_l z]; exact h.1 k (by omega)
    · subst z; rw [ins_e, ins_e]; exact hE
    · rw [ins_g z, ins_g z]; exact h.1 (k - 1) (by omega)
  · rcases Nat.lt_trichotomy m p with z | z | z
    · rw [ins_l z, ins_l z, ins_l (show k < p by omega), ins_l (show k < p by omega)]; exact h.2 k m km (by omega)
    · subst z
      rw [ins_l km, ins_l km, ins_e, ins_e]; exact h1 k km
    · rw [ins_g z, ins_g z]
      rcases Nat.lt_trichotomy k p with y | y | y
      · rw [ins_l y, ins_l y]; exact h.2 k (m - 1) (by omega) (by omega)
      · subst y; rw [ins_e, ins_e]; exact h2 (m - 1) (by omega) (by omega)
      · rw [ins_g y, ins_g y]; exact h.2 (k - 1) (m - 1) (by omega) (by omega)
  · rintro ⟨k, hk, e⟩
    rcases Nat.lt_trichotomy k p with z | z | z
    · rw [ins_l z, ins_l z] at e; exact Or.inl ⟨k, by omega, e⟩
    · subst z; rw [ins_e, ins_e] at e; exact Or.inr e
    · rw [ins_g z, ins_g z] at e; exact Or.inl ⟨k - 1, by omega, e⟩
  · rintro (⟨k, hk, e⟩ | e)
    · by_cases z : k < p
      · exact ⟨k, by omega, by rw [ins_l z, ins_l z]; exact e⟩
      · exact ⟨k + 1, by omega, by rw [ins_g (show p < k + 1 by omega), ins_g (show p < k + 1 by omega)]; exact e⟩
    · exact ⟨p, by omega, by rw [ins_e, ins_e]; exact e⟩
theorem Me_x {c : Nat} {A B : Nat → Int} {n d n' d' : Int} (h : Sq c A B) (hd : 0 < d) (q : Me c A B n d) (e : n * d' = n' * d) : Me c A B n' d' := by
  obtain ⟨k, hk, z⟩ := q
  refine ⟨k, hk, ?_⟩
  refine Int.eq_of_mul_eq_mul_right (Int.ne_of_gt hd) ?_
  calc A k * d' * d = A k * d * d' := by grind
    _ = n * B k * d' := by rw [z]
    _ = n * d' * B k := by grind
    _ = n' * d * B k := by rw [e]
    _ = n' * B k * d := by grind
/-- two rising rows with the same members are the same row -/
theorem Sq_le {c c' : Nat} {A B A' B' : Nat → Int} (h : Sq c A B) (h' : Sq c' A' B') (e : ∀ n d, 0 < d → (Me c A B n d ↔ Me c' A' B' n d)) : ∀ k, (k < c → k < c' ∧ A k * B' k = A' k * B k) ∧ (k < c' → k < c ∧ A k * B' k = A' k * B k) := by
  have bp : ∀ k, k < c → 0 < B k := fun k hk => (h.1 k hk).2.2.1
  have bp' : ∀ k, k < c' → 0 < B' k := fun k hk => (h'.1 k hk).2.2.1
  intro k
  induction k using Nat.strongRecOn with
  | _ k ih =>
    -- one side
    have s1 : k < c → ∃ j, k ≤ j ∧ j < c' ∧ A' j * B k = A k * B' j := fun hk => by
      obtain ⟨j, hj, z⟩ := (e (A k) (B k) (bp k hk)).mp ⟨k, hk, rfl⟩
      refine ⟨j, ?_, hj, z⟩
      rcases Nat.lt_or_ge j k with y | y
      · exfalso
        have q := ((ih j y).1 (by omega)).2
        have l := h.2 j k y hk
        have p1 := bp j (by omega)
        have p2 := bp' j hj
        have := (fcmp (a := A j) (b := B j) (c := A k) (d := B k) (a' := A' j) (b' := B' j) (c' := A' j) (d' := B' j) p1 (bp k hk) p2 p2 q z.symm).mp l
        exact Int.lt_irrefl _ this
      · exact y
    have s2 : k < c' → ∃ j, k ≤ j ∧ j < c ∧ A j * B' k = A' k * B j := fun hk => by
      obtain ⟨j, hj, z⟩ := (e (A' k) (B' k) (bp' k hk)).mpr ⟨k, hk, rfl⟩
      refine ⟨j, ?_, hj, z⟩
      rcases Nat.lt_or_ge j k with y | y
      · exfalso
        have q := ((ih j y).2 (by omega)).2
        have l := h'.2 j k y hk
        have p1 := bp' j (by omega)
        have p2 := bp j hj
        have := (fcmp (a := A' j) (b := B' j) (c := A' k) (d := B' k) (a' := A j) (b' := B j) (c' := A j) (d' := B j) p1 (bp' k hk) p2 p2 q.symm z.symm).mp l
        exact Int.lt_irrefl _ this
      · exact y
    have main : k < c → k < c' → A k * B' k = A' k * B k := fun hk hk' => by
      obtain ⟨j, j1, j2, j3⟩ := s1 hk
      obtain ⟨m, m1, m2, m3⟩ := s2 hk'
      rcases Nat.lt_or_ge k j with y | y
      · rcases Nat.lt_or_ge k m with x | x
        · exfalso
          -- A k < A m = A' k < A' j = A k
          have l1 := h.2 k m x m2
          have l2 := h'.2 k j y j2
          have t := (fcmp (a := A' k) (b := B' k) (c := A' j) (d := B' j) (a' := A m) (b' := B m) (c' := A k) (d' := B k) (bp' k hk') (bp' j j2) (bp m m2) (bp k hk) m3.symm j3).mp l2
          exact Int.lt_asymm l1 t
        · have : m = k := by omega
          subst this; exact m3
      · have : j = k := by omega
        subst this; exact j3.symm
    refine ⟨fun hk => ?_, fun hk => ?_⟩
    · obtain ⟨j, j1, j2, _⟩ := s1 hk
      have hk' : k < c' := by omega
      exact ⟨hk', main hk hk'⟩
    · obtain ⟨j, j1, j2, _⟩ := s2 hk
      have hk' : k < c := by omega
      exact ⟨hk', main hk' hk⟩
theorem Sq_u {c c' : Nat} {A B A' B' : Nat → Int} (h : Sq c A B) (h' : Sq c' A' B') (e : ∀ n d, 0 < d → (Me c A B n d ↔ Me c' A' B' n d)) : c = c' ∧ ∀ k, k < c → A k * B' k = A' k * B k := by
  have q := Sq_le h h' e
  refine ⟨?_, fun k hk => ((q k).1 hk).2⟩
  rcases Nat.lt_trichotomy c c' with z | z | z
  · have := ((q c).2 z).1; omega
  · exact z
  · have := ((q c').1 z).1; omega
/-! the class's row of fractions -/
def CSq (M : MM) (c : Nat) (A B : Nat → Int) : Prop := mI M 181 2 = jI (c : Int) ∧ ∀ k, k < c → mL M 182 k = jL (A k) ∧ mL M 183 k = jL (B k)
def sCh : Nat → Nat → Bool := sB 181 2 2 182 183
theorem i182 {M : MM} (h : Lay M) {k : Nat} (q : k < 506) : inb M 182 12 (jI (k : Int)) := by rw [← nI_j]; exact in_182 h q
theorem i183 {M : MM} (h : Lay M) {k : Nat} (q : k < 506) : inb M 183 12 (jI (k : Int)) := by rw [← nI_j]; exact in_183 h q
theorem gL_sLr {M : MM} {a o k : Nat} {f : Nat → Int64} : mL (sLr M a f) o k = if o = a then f k else mL M o k := by
  show up1 (mL M) a f o k = _
  unfold up1
  by_cases e : o = a
  · rw [if_pos e, if_pos e]
  · rw [if_neg e, if_neg e]
theorem Fr_sLr {S : Nat → Nat → Bool} {M M' : MM} {a : Nat} {f : Nat → Int64} (h : Fr S M M') (e : ∀ k, S a k = true) : Fr S M (sLr M' a f) := by
  refine ⟨fun l => h.1 l, fun o j q => ⟨(h.2 o j q).1, ?_, (h.2 o j q).2.2⟩⟩
  rw [gL_sLr, if_neg (fun x => by rw [x, e j] at q; cases q)]
  exact (h.2 o j q).2.1
theorem pr_b {n d n' d' : Int} (h : gE n d) (h' : gE n' d') : 0 ≤ n * d' ∧ n * d' ≤ 1088391168 * 1679616 := mul_bb h.1 h.2.1 (Int.le_of_lt h'.2.2.1) h'.2.2.2
/-- the place is found, the fraction put -/
theorem w110_101_s {M : MM} {c p : Nat} {A B : Nat → Int} {n d : Int} {P : MM → Prop} (hL : Lay M) (hc : CSq M c A B) (hS : Sq c A B) (c5 : c < 506) (hE : gE n d) (hp : p ≤ c) (h1 : ∀ k, k < p → A k * d < n * B k) (h2 : ∀ k, p ≤ k → k < c → n * B k ≤ A k * d)
    (hX : ∀ M' c' A' B', Fr sCh M M' → CSq M' c' A' B' → Sq c' A' B' → c' ≤ c + 1 → (∀ n' d', Me c' A' B' n' d' ↔ (Me c A B n' d' ∨ n * d' = n' * d)) → P M') : w110_101 181 (jL n) (jL d) (jI (p : Int)) M P := by
  have ep : (jI (p : Int)).toNatClampNeg = p := jI_cn (by omega)
  have put : (∀ k, p ≤ k → k < c → n * B k < A k * d) → w110_136 181 (jL n) (jL d) (jI (p : Int)) M P := by
    intro h3
    have e1 : jI (p : Int) + 1 = jI ((p + 1 : Nat) : Int) := by rw [show (1 : Int32) = jI 1 from rfl, jI_add, c_s1]
    have ep1 : (jI ((p + 1 : Nat) : Int)).toNatClampNeg = p + 1 := jI_cn (by omega)
    have em : mI M 181 2 - jI (p : Int) = jI ((c - p : Nat) : Int) := by rw [hc.1, jI_sub]; congr 1; omega
    have emc : (jI ((c - p : Nat) : Int)).toNatClampNeg = c - p := jI_cn (by omega)
    have n0 : ∀ k : Nat, k < 1000 → ¬ jI (k : Int) < 0 := fun k hk => by rw [show (0 : Int32) = jI 0 from rfl, jI_lt (by omega) (by omega) (by omega) (by omega)]; omega
    refine br_f (fun z => z rfl) ⟨kd_181 hL, br_t ?_ ⟨kd_181 hL, kd_181 hL, kd_181 hL, 182, rf_181_0 hL, 506, 506, sh_182 hL, sh_182 hL, n0 p (by omega), ?_⟩⟩
    · rw [hc.1, show (506 : Int32) = jI 506 from rfl, jI_lt (by omega) (by omega) (by omega) (by omega)]; omega
    rw [e1, em, ep, ep1, emc]
    refine ⟨n0 _ (by omega), n0 _ (by omega), by omega, by omega, ?_⟩
    have hF1 : Fr sCh M (sLr M 182 (va_cpy (mL M 182) (mL M 182) p (p + 1) (c - p))) := Fr_sLr Fr_r (fun k => sB_t2 (by omega))
    have hL1 := hF1.1 hL
    have g2 : mI (sLr M 182 (va_cpy (mL M 182) (mL M 182) p (p + 1) (c - p))) 181 2 = mI M 181 2 := rfl
    refine ⟨kd_181 hL1, kd_181 hL1, kd_181 hL1, 183, rf_181_1 hL1, 506, 506, sh_183 hL1, sh_183 hL1, n0 p (by omega), ?_⟩
    rw [g2, em, emc]
    refine ⟨n0 _ (by omega), n0 _ (by omega), by omega, by omega, ?_⟩
    have hF2 : Fr sCh M (sLr (sLr M 182 (va_cpy (mL M 182) (mL M 182) p (p + 1) (c - p))) 183 (va_cpy (mL (sLr M 182 (va_cpy (mL M 182) (mL M 182) p (p + 1) (c - p))) 183) (mL (sLr M 182 (va_cpy (mL M 182) (mL M 182) p (p + 1) (c - p))) 183) p (p + 1) (c - p))) := Fr_sLr hF1 (fun k => sB_t2 (by omega))
    have q1 : ∀ k, mL (sLr (sLr M 182 (va_cpy (mL M 182) (mL M 182) p (p + 1) (c - p))) 183 (va_cpy (mL (sLr M 182 (va_cpy (mL M 182) (mL M 182) p (p + 1) (c - p))) 183) (mL (sLr M 182 (va_cpy (mL M 182) (mL M 182) p (p + 1) (c - p))) 183) p (p + 1) (c - p))) 182 k = if p + 1 ≤ k ∧ k < p + 1 + (c - p) then mL M 182 (p + (k - (p + 1))) else mL M 182 k := fun k => by
      rw [gL_sLr, if_neg (by omega), gL_sLr, if_pos rfl]; rfl
    have q2 : ∀ k, mL (sLr (sLr M 182 (va_cpy (mL M 182) (mL M 182) p (p + 1) (c - p))) 183 (va_cpy (mL (sLr M 182 (va_cpy (mL M 182) (mL M 182) p (p + 1) (c - p))) 183) (mL (sLr M 182 (va_cpy (mL M 182) (mL M 182) p (p + 1) (c - p))) 183) p (p + 1) (c - p))) 183 k = if p + 1 ≤ k ∧ k < p + 1 + (c - p) then mL M 183 (p + (k - (p + 1))) else mL M 183 k := fun k => by
      rw [gL_sLr, if_pos rfl]
      unfold va_cpy
      split
      · rw [gL_sLr, if_neg (by omega)]
      · rw [gL_sLr, if_neg (by omega)]
    have q3 : mI (sLr (sLr M 182 (va_cpy (mL M 182) (mL M 182) p (p + 1) (c - p))) 183 (va_cpy (mL (sLr M 182 (va_cpy (mL M 182) (mL M 182) p (p + 1) (c - p))) 183) (mL (sLr M 182 (va_cpy (mL M 182) (mL M 182) p (p + 1) (c - p))) 183) p (p + 1) (c - p))) 181 2 = jI (c : Int) := hc.1
    have hL2 := hF2.1 hL
    generalize sLr (sLr M 182 (va_cpy (mL M 182) (mL M 182) p (p + 1) (c - p))) 183 (va_cpy (mL (sLr M 182 (va_cpy (mL M 182) (mL M 182) p (p + 1) (c - p))) 183) (mL (sLr M 182 (va_cpy (mL M 182) (mL M 182) p (p + 1) (c - p))) 183) p (p + 1) (c - p)) = M2 at *
    have ok := ins_ok hS hp hE h1 h3
    refine ⟨kd_181 hL2, 182, rf_181_0 hL2, i182 hL2 (by omega), kd_181 hL2, 183, rf_181_1 (lay_sL hL2), i183 hL2 (by omega), kd_181 hL2, kd_181 hL2, ?_⟩
    rw [ep, gI_sL, gI_sL, q3, show (1 : Int32) = jI 1 from rfl, jI_add, c_s1]
    refine hX _ (c + 1) _ _ (Fr_sI (Fr_sL (Fr_sL hF2 (sB_t2 (by omega))) (sB_t2 (by omega))) (sB_t1 (by omega))) ⟨gI_y ⟨rfl, rfl⟩, fun k hk => ?_⟩ ok.1 (Nat.le_refl _) ok.2
    rw [gL_sI, gL_sI]
    rcases Nat.lt_trichotomy k p with z | z | z
    · rw [ins_l z, ins_l z, gL_n (by omega), gL_n (by omega), gL_n (by omega), gL_n (by omega), q1, q2, if_neg (by omega), if_neg (by omega)]
      exact hc.2 k (by omega)
    · subst z
      rw [ins_e, ins_e, gL_n (by omega), gL_y ⟨rfl, rfl⟩, gL_y ⟨rfl, rfl⟩]; exact ⟨rfl, rfl⟩
    · rw [ins_g z, ins_g z, gL_n (by omega), gL_n (by omega), gL_n (by omega), gL_n (by omega), q1, q2, if_pos (by omega), if_pos (by omega), show p + (k - (p + 1)) = k - 1 by omega]
      exact hc.2 (k - 1) (by omega)
  refine ⟨kd_181 hL, ?_⟩
  rw [hc.1, jI_le (by omega) (by omega) (by omega) (by omega)]
  refine ⟨fun z => put (fun k x y => absurd y (by omega)), fun z => ⟨kd_181 hL, 182, rf_181_0 hL, i182 hL (by omega), kd_181 hL, 183, rf_181_1 hL, i183 hL (by omega), ?_⟩⟩
  have hpc : p < c := by omega
  obtain ⟨r1, r2⟩ := hc.2 p hpc
  have b1 := pr_b (hS.1 p hpc) hE
  have b2 := pr_b hE (hS.1 p hpc)
  rw [ep, r1, r2, jL_mul, jL_mul]
  have le := h2 p (Nat.le_refl _) hpc
  refine ⟨fun y => put (fun k x y' => ?_), fun y => ?_⟩
  · have ne : A p * d ≠ n * B p := fun e => y ((lc_eq _ _).mpr (by rw [e]))
    rcases Nat.lt_or_ge p k with x' | x'
    · -- n/d < A p / B p < A k / B k
      have l1 := hS.2 p k x' y'
      have bp := (hS.1 p hpc).2.2.1
      have bk := (hS.1 k y').2.2.1
      have dp := hE.2.2.1
      have l2 : n * B p < A p * d := by omega
      have m1 := Int.mul_lt_mul_of_pos_right l2 bk
      have m2 := Int.mul_lt_mul_of_pos_right l1 dp
      have m3 : n * B k * B p < A k * d * B p := by
        have x1 : n * B p * B k = n * B k * B p := by grind
        have x2 : A p * d * B k = A p * B k * d := by grind
        have x3 : A k * B p * d = A k * d * B p := by grind
        omega
      exact Int.lt_of_mul_lt_mul_right m3 (Int.le_of_lt bp)
    · have : k = p := by omega
      subst this; omega
  · have e : A p * d = n * B p := by
      have y' := (lc_eq _ _).mp (Classical.not_not.mp y)
      rw [jL_eq (by omega) (by omega) (by omega) (by omega)] at y'
      exact y'
    refine br_t (by decide) (hX M c A B Fr_r hc hS (by omega) (fun n' d' => ⟨fun q => Or.inl q, ?_⟩))
    rintro (q | q)
    · exact q
    · exact Me_x hS hE.2.2.1 ⟨p, hpc, e⟩ q
theorem w110_s {M : MM} {c : Nat} {A B : Nat → Int} {n d fl ce : Int} {P : MM → Prop} (hL : Lay M) (hc : CSq M c A B) (hS : Sq c A B) (c5 : c < 506) (hE : gE n d) (e3 : mI M 181 3 = jI fl) (e4 : mI M 181 4 = jI ce) (f0 : 0 ≤ fl) (f1 : fl ≤ 648) (g0 : 0 ≤ ce) (g1 : ce ≤ 648)
    (hX : ∀ M' c' A' B', Fr sCh M M' → CSq M' c' A' B' → Sq c' A' B' → c' ≤ c + 1 → (∀ n' d', Me c' A' B' n' d' ↔ (Me c A B n' d' ∨ (fl * d ≤ n ∧ n ≤ ce * d ∧ n * d' = n' * d))) → P M') : w110 181 (jL n) (jL d) M P := by
  have hE' := hE
  unfold gE at hE'
  have mf := mul_bb f0 f1 (Int.le_of_lt hE.2.2.1) hE.2.2.2
  have mc := mul_bb g0 g1 (Int.le_of_lt hE.2.2.1) hE.2.2.2
  have out : ¬ (fl * d ≤ n ∧ n ≤ ce * d) → P M := fun z => hX M c A B Fr_r hc hS (by omega) (fun n' d' => ⟨Or.inl, fun q => q.elim id (fun q => absurd ⟨q.1, q.2.1⟩ z)⟩)
  refine ⟨kd_181 hL, ?_⟩
  rw [e3, e4, jI_l (by omega) (by omega), jI_l (by omega) (by omega), jL_mul, jL_mul]
  refine ⟨fun z => out (fun y => ?_), fun z => ⟨kd_181 hL, fun y => ⟨kd_181 hL, ?_⟩, fun y => out (fun x => ?_)⟩⟩
  · have z' := (lc_lt _ _).mp z
    rw [jL_lt (by omega) (by omega) (by omega) (by omega)] at z'
    omega
  · have z' : ¬ (jL n < jL (fl * d)) := fun q => z ((lc_lt _ _).mpr q)
    have y' := (lc_le _ _).mp y
    rw [jL_lt (by omega) (by omega) (by omega) (by omega)] at z'
    rw [jL_le (by omega) (by omega) (by omega) (by omega)] at y'
    have inr : fl * d ≤ n ∧ n ≤ ce * d := by omega
    have fin : ∀ p, p ≤ c → (∀ k, k < p → A k * d < n * B k) → (∀ k, p ≤ k → k < c → n * B k ≤ A k * d) → w110_101 181 (jL n) (jL d) (jI (p : Int)) M P := fun p hp h1 h2 =>
      w110_101_s hL hc hS c5 hE hp h1 h2 (fun M' c' A' B' a1 a2 a3 a4 a5 => hX M' c' A' B' a1 a2 a3 a4 (fun n' d' => (a5 n' d').trans ⟨fun q => q.imp id (fun q => ⟨inr.1, inr.2, q⟩), fun q => q.imp id (fun q => q.2.2)⟩))
    have lp : ∀ (q lo hi r : Nat), r + q = 10 → lo ≤ hi → hi ≤ c → hi - lo < 2 ^ q → (∀ k, k < lo → A k * d < n * B k) → (∀ k, hi ≤ k → k < c → n * B k ≤ A k * d) → w110_37 (q + 1) 181 (jL n) (jL d) (jI (lo : Int)) (jI (hi : Int)) (jI (r : Int)) M P := by
      intro q
      induction q with
      | zero =>
        intro lo hi r hr hl hh hd h1 h2
        rw [Nat.pow_zero] at hd
        have : lo = hi := by omega
        subst this
        exact br_t (by rw [show (10 : Int32) = jI 10 from rfl, jI_le (by omega) (by omega) (by omega) (by omega)]; omega) (fin lo hh h1 h2)
      | succ q ih =>
        intro lo hi r hr hl hh hd h1 h2
        rw [Nat.pow_succ] at hd
        refine br_f (by rw [show (10 : Int32) = jI 10 from rfl, jI_le (by omega) (by omega) (by omega) (by omega)]; omega) ?_
        rw [jI_le (by omega) (by omega) (by omega) (by omega)]
        refine ⟨fun x => ?_, fun x => ⟨by decide, kd_181 hL, 182, rf_181_0 hL, ?_⟩⟩
        · have : lo = hi := by omega
          subst this
          exact fin lo hh h1 h2
        have eh : (jI (lo : Int) + jI (hi : Int)) / 2 = jI (((lo + hi) / 2 : Nat) : Int) := by
          rw [show (2 : Int32) = jI 2 from rfl, jI_add, jI_div (by omega) (by omega) (by omega) (by omega)]; congr 1
        have er : jI (r : Int) + 1 = jI ((r + 1 : Nat) : Int) := by rw [show (1 : Int32) = jI 1 from rfl, jI_add, c_s1]
        rw [eh]
        generalize hm : (lo + hi) / 2 = m at *
        have em : (jI (m : Int)).toNatClampNeg = m := jI_cn (by omega)
        have e1 : jI (m : Int) + 1 = jI ((m + 1 : Nat) : Int) := by rw [show (1 : Int32) = jI 1 from rfl, jI_add, c_s1]
        refine ⟨i182 hL (by omega), kd_181 hL, 183, rf_181_1 hL, i183 hL (by omega), ?_⟩
        obtain ⟨r1, r2⟩ := hc.2 m (by omega)
        have b1 := pr_b (hS.1 m (by omega)) hE
        have b2 := pr_b hE (hS.1 m (by omega))
        unfold w110_95
        rw [em, r1, r2, er, e1, jL_mul, jL_mul]
        show (jI 0 ≤ lg_cmp (jL (A m * d)) (jL (n * B m)) → _) ∧ (¬ (jI 0 ≤ lg_cmp (jL (A m * d)) (jL (n * B m))) → _)
        rw [lc_ge, jL_le (by omega) (by omega) (by omega) (by omega)]
        have bm := (hS.1 m (by omega)).2.2.1
        have dp := hE.2.2.1
        refine ⟨fun w => ih lo m (r + 1) (by omega) (by omega) (by omega) (by omega) h1 (fun k k1 k2 => ?_), fun w => ih (m + 1) hi (r + 1) (by omega) (by omega) hh (by omega) (fun k k1 => ?_) h2⟩
        · rcases Nat.lt_or_ge m k with x' | x'
          · have l1 := hS.2 m k x' k2
            have bk := (hS.1 k k2).2.2.1
            have m1 := Int.mul_le_mul_of_nonneg_right w (Int.le_of_lt bk)
            have m2 := Int.mul_lt_mul_of_pos_right l1 dp
            have m3 : n * B k * B m < A k * d * B m := by
              have x1 : n * B m * B k = n * B k * B m := by grind
              have x2 : A m * d * B k = A m * B k * d := by grind
              have x3 : A k * B m * d = A k * d * B m := by grind
              omega
            exact Int.le_of_lt (Int.lt_of_mul_lt_mul_right m3 (Int.le_of_lt bm))
          · have : k = m := by omega
            subst this; exact w
        · rcases Nat.lt_or_ge k m with x' | x'
          · have l1 := hS.2 k m x' (by omega)
            have bk := (hS.1 k (by omega)).2.2.1
            have m1 := Int.mul_lt_mul_of_pos_right (show A m * d < n * B m by omega) bk
            have m2 := Int.mul_lt_mul_of_pos_right l1 dp
            have m3 : A k * d * B m < n * B k * B m := by
              have x1 : A k * B m * d = A k * d * B m := by grind
              have x2 : A m * B k * d = A m * d * B k := by grind
              have x3 : n * B m * B k = n * B k * B m := by grind
              omega
            exact Int.lt_of_mul_lt_mul_right m3 (Int.le_of_lt bm)
          · have : k = m := by omega
            subst this; omega
    have e10 : (2 : Nat) ^ 10 = 1024 := by decide
    have := lp 10 0 c 0 (by omega) (by omega) (Nat.le_refl _) (by omega) (fun k hk => absurd hk (by omega)) (fun k k1 k2 => absurd k1 (by omega))
    rw [hc.1]
    exact ⟨11, this⟩
  · have y' : ¬ (jL n ≤ jL (ce * d)) := fun q => y ((lc_le _ _).mpr q)
    rw [jL_le (by omega) (by omega) (by omega) (by omega)] at y'
    omega
