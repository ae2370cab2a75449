/-! ===== CRITICALS: what is put, in which order ===== -/
def TT (N : Nat → Nat) (V : Nat → Nat → Nat → Int → Int → Prop) (r p k : Nat) (n d : Int) : Prop := ∃ r' p' k', p' ≤ k' ∧ k' < N r' ∧ (r' < r ∨ (r' = r ∧ (p' < p ∨ (p' = p ∧ k' < k)))) ∧ V r' p' k' n d
theorem TT_s {N : Nat → Nat} {V : Nat → Nat → Nat → Int → Int → Prop} {r p k : Nat} {n d : Int} (h1 : p ≤ k) (h2 : k < N r) : TT N V r p (k + 1) n d ↔ (TT N V r p k n d ∨ V r p k n d) := by
  constructor
  · rintro ⟨r', p', k', a1, a2, a3, a4⟩
    by_cases e : r' = r ∧ p' = p ∧ k' = k
    · obtain ⟨rfl, rfl, rfl⟩ := e; exact Or.inr a4
    · exact Or.inl ⟨r', p', k', a1, a2, by omega, a4⟩
  · rintro (⟨r', p', k', a1, a2, a3, a4⟩ | h)
    · exact ⟨r', p', k', a1, a2, by omega, a4⟩
    · exact ⟨r, p, k, h1, h2, by omega, h⟩
theorem TT_p {N : Nat → Nat} {V : Nat → Nat → Nat → Int → Int → Prop} {r p k : Nat} {n d : Int} (h : N r ≤ k) : TT N V r p k n d ↔ TT N V r (p + 1) (p + 1) n d := by
  constructor
  · rintro ⟨r', p', k', a1, a2, a3, a4⟩
    exact ⟨r', p', k', a1, a2, by omega, a4⟩
  · rintro ⟨r', p', k', a1, a2, a3, a4⟩
    refine ⟨r', p', k', a1, a2, ?_, a4⟩
    rcases a3 with z | ⟨rfl, z⟩
    · exact Or.inl z
    · exact Or.inr ⟨rfl, by omega⟩
theorem TT_r {N : Nat → Nat} {V : Nat → Nat → Nat → Int → Int → Prop} {r p k : Nat} {n d : Int} (h : N r ≤ p) : TT N V r p k n d ↔ TT N V (r + 1) 0 0 n d := by
  constructor
  · rintro ⟨r', p', k', a1, a2, a3, a4⟩
    exact ⟨r', p', k', a1, a2, by omega, a4⟩
  · rintro ⟨r', p', k', a1, a2, a3, a4⟩
    refine ⟨r', p', k', a1, a2, ?_, a4⟩
    rcases Nat.lt_or_ge r' r with z | z
    · exact Or.inl z
    · have : r' = r := by omega
      subst this
      exact Or.inr ⟨rfl, by omega⟩
theorem TT_0 {N : Nat → Nat} {V : Nat → Nat → Nat → Int → Int → Prop} {n d : Int} : ¬ TT N V 0 0 0 n d := by
  rintro ⟨r', p', k', a1, a2, a3, a4⟩
  omega
/-- the middle place of two points lies on the edge -/
def mdV (f s f' s' : Int) : Prop := (0 < 2 * (f - f') ∧ 0 ≤ s - s' ∧ s - s' ≤ 2 * (f - f')) ∨ (2 * (f - f') < 0 ∧ 2 * (f - f') ≤ s - s' ∧ s - s' ≤ 0)
def itm (L : Int) (f s : Nat → Int) (p k : Nat) (n d : Int) : Prop := if k = p then lsA L (f p) (s p) * d = n * lsB L (f p) else mdV (f k) (s k) (f p) (s p) ∧ mdA L (f k) (s k) (f p) (s p) * d = n * ((2 * (f k - f p)) * (2 * (f k - f p)))
def rV (a b : WY) (r p k : Nat) (n d : Int) : Prop := itm (eL (rE a b r) (rI r)) (fun p => eF (rE a b r) (rI r) (rQ a b r) p) (fun p => eS (rE a b r) (rI r) (rQ a b r) p) p k n d
def isEn (a b : WY) (n d : Int) : Prop := qd a 0 b 0 * d = n ∨ qd a (wn a - 1) b (wn b - 1) * d = n
/-- all CRITICALS of two ways -/
def isCr (a b : WY) (n d : Int) : Prop := isEn a b n d ∨ TT (rN a b) (rV a b) 14 0 0 n d
def trg : Nat → Nat
  | 0 => 0
  | p + 1 => trg p + (8 - p)
theorem trg_le : ∀ p, p < 9 → trg p ≤ 36 := by decide
theorem md_c {L f s u v : Int} (hL : 0 < L) (h1 : s ≤ 648) (h2 : s - 2 * f + L ≤ 648) (h3 : 0 ≤ L * s - f * f) (u0 : 0 ≤ u) (uv : u ≤ v) : 0 ≤ (s * v - 2 * f * u) * v + L * u * u ∧ (s * v - 2 * f * u) * v + L * u * u ≤ 648 * (v * v) := by
  have q1 : 0 ≤ v * (v - u) := mul_p (by omega) (by omega)
  have q2 : 0 ≤ u * v := mul_p u0 (by omega)
  have q3 : 0 ≤ L * (u * (v - u)) := mul_p (by omega) (mul_p u0 (by omega))
  have m1 := Int.mul_le_mul_of_nonneg_left h1 q1
  have m2 := Int.mul_le_mul_of_nonneg_left h2 q2
  have e : (s * v - 2 * f * u) * v + L * u * u = v * (v - u) * s + u * v * (s - 2 * f + L) - L * (u * (v - u)) := by grind
  have e2 : v * (v - u) * 648 + u * v * 648 = 648 * (v * v) := by grind
  refine ⟨?_, by omega⟩
  have e3 : L * ((s * v - 2 * f * u) * v + L * u * u) = (L * u - f * v) * (L * u - f * v) + v * v * (L * s - f * f) := by grind
  have p1 := sqr_p (L * u - f * v)
  have p2 : 0 ≤ v * v * (L * s - f * f) := mul_p (mul_p (by omega) (by omega)) h3
  exact (pos_of hL).mp (by omega)
theorem md_g {L f s f' s' : Int} (hB : sdB L f' s') (hd : -648 ≤ f - f' ∧ f - f' ≤ 648) (hV : mdV f s f' s') : gE (mdA L f s f' s') ((2 * (f - f')) * (2 * (f - f'))) := by
  unfold sdB at hB
  rcases hV with ⟨v1, v2, v3⟩ | ⟨v1, v2, v3⟩
  · have c := md_c (L := L) (f := f') (s := s') (u := s - s') (v := 2 * (f - f')) hB.1 (by omega) (by omega) (by omega) v2 v3
    have m := mul_bb (x := 2 * (f - f')) (y := 2 * (f - f')) (B := 1296) (C := 1296) (by omega) (by omega) (by omega) (by omega)
    have p := Int.mul_pos v1 v1
    have e : mdA L f s f' s' = (s' * (2 * (f - f')) - 2 * f' * (s - s')) * (2 * (f - f')) + L * (s - s') * (s - s') := rfl
    refine ⟨by omega, by omega, p, by omega⟩
  · have c := md_c (L := L) (f := f') (s := s') (u := -(s - s')) (v := -(2 * (f - f'))) hB.1 (by omega) (by omega) (by omega) (by omega) (by omega)
    have m := mul_bb (x := -(2 * (f - f'))) (y := -(2 * (f - f'))) (B := 1296) (C := 1296) (by omega) (by omega) (by omega) (by omega)
    have p := Int.mul_pos (show 0 < -(2 * (f - f')) by omega) (show 0 < -(2 * (f - f')) by omega)
    have e : mdA L f s f' s' = (s' * -(2 * (f - f')) - 2 * f' * -(s - s')) * -(2 * (f - f')) + L * -(s - s') * -(s - s') := by unfold mdA; grind
    have e2 : -(2 * (f - f')) * -(2 * (f - f')) = 2 * (f - f') * (2 * (f - f')) := by grind
    rw [e2] at c m p
    refine ⟨by omega, by omega, p, by omega⟩
theorem eF_d {a b : WY} (ha : gW a) (hb : gW b) {e p k : Nat} (he : e + 1 < wn a) (hp : p < wn b) (hk : k < wn b) : -648 ≤ eF a e b k - eF a e b p ∧ eF a e b k - eF a e b p ≤ 648 := by
  have p0 := ha.2.2.1 e (by omega)
  have p1 := ha.2.2.1 (e + 1) he
  have q := hb.2.2.1 p hp
  have q' := hb.2.2.1 k hk
  have m1 := mul_b (x := wx a (e + 1) - wx a e) (y := wx b k - wx b p) (B := 18) (C := 18) (by omega) (by omega) (by omega) (by omega)
  have m2 := mul_b (x := wy a (e + 1) - wy a e) (y := wy b k - wy b p) (B := 18) (C := 18) (by omega) (by omega) (by omega) (by omega)
  have ee : eF a e b k - eF a e b p = (wx a (e + 1) - wx a e) * (wx b k - wx b p) + (wy a (e + 1) - wy a e) * (wy b k - wy b p) := by unfold eF; grind
  omega
theorem ls_g {L f s : Int} (hB : sdB L f s) : gE (lsA L f s) (lsB L f) := by
  unfold sdB at hB
  unfold lsA lsB
  by_cases c : 0 < f ∧ f < L
  · rw [if_pos c, if_pos c]; unfold gE; omega
  · rw [if_neg c, if_neg c]; unfold gE; omega
theorem rN_p {a b : WY} {r p : Nat} (ga : gW a) (gb : gW b) (h : p < rN a b r) : gW (rE a b r) ∧ gW (rQ a b r) ∧ rI r + 1 < wn (rE a b r) ∧ p < wn (rQ a b r) := by
  unfold rN at h
  by_cases c : rI r + 1 < wn (rE a b r)
  · rw [if_pos c] at h
    refine ⟨?_, ?_, c, h⟩
    · unfold rE; split; exact ga; exact gb
    · unfold rQ; split; exact gb; exact ga
  · rw [if_neg c] at h; omega
/-! the class collects -/
theorem w111_s {M : MM} {o q : Nat} {L f s f' s' : Int} {P : MM → Prop} (hL : Lay M) (ko : kd M o 7) (kq : kd M q 7) (go : sdG M o L f' s') (gq : sdG M q L f s) (b0 : -2000 ≤ f - f' ∧ f - f' ≤ 2000) (b1 : -2000 ≤ s - s' ∧ s - s' ≤ 2000) (h1 : ¬ mdV f s f' s' → P M) (h2 : mdV f s f' s' → w110 181 (jL (mdA L f s f' s')) (jL ((2 * (f - f')) * (2 * (f - f')))) M P) : w111 181 (some o) (some q) M P := by
  have core : ∀ D U : Int, -5000 ≤ D → D ≤ 5000 → -5000 ≤ U → U ≤ 5000 → (0 < D ∧ 0 ≤ U ∧ U ≤ D → w110 181 (jL ((s' * D - 2 * f' * U) * D + L * U * U)) (jL (D * D)) M P) → (¬ (0 < D ∧ 0 ≤ U ∧ U ≤ D) → P M) → w111_39 181 (some o) (jL D) (jL U) M P := by
    intro D U d1 d2 u1 u2 hy hn
    have c1 : (lg_cmp (jL D) 0 ≤ 0) ↔ D ≤ 0 := by
      show lg_cmp (jL D) (jL 0) ≤ jI 0 ↔ _
      rw [lc_le, jL_le (by omega) (by omega) (by omega) (by omega)]
    have c2 : (lg_cmp (jL U) 0 < 0) ↔ U < 0 := by
      show lg_cmp (jL U) (jL 0) < jI 0 ↔ _
      rw [lc_lt, jL_lt (by omega) (by omega) (by omega) (by omega)]
    have c3 : (0 < lg_cmp (jL U) (jL D)) ↔ D < U := by
      show jI 0 < lg_cmp (jL U) (jL D) ↔ _
      rw [lc_gt, jL_lt (by omega) (by omega) (by omega) (by omega)]
    unfold w111_39
    rw [c1, c2, c3]
    refine ⟨fun z => hn (by omega), fun z => ⟨fun y => hn (by omega), fun y => ⟨fun x => hn (by omega), fun x => ⟨o, rfl, ko, ko, ko, kd_181 hL, ?_⟩⟩⟩⟩
    rw [go.1, go.2.1, go.2.2.1, show (2 : Int64) = jL 2 from rfl, jL_mul, jL_mul, jL_mul, jL_mul, jL_mul, jL_mul, jL_sub, jL_mul, jL_add]
    exact hy (by omega)
  refine ⟨q, rfl, kq, o, rfl, ko, kq, ko, ?_⟩
  rw [gq.2.1, gq.2.2.1, go.2.1, go.2.2.1, show (2 : Int64) = jL 2 from rfl, jL_sub, jL_mul, jL_sub]
  have c0 : (0 ≤ lg_cmp (jL (2 * (f - f'))) 0) ↔ 0 ≤ 2 * (f - f') := by
    show jI 0 ≤ lg_cmp (jL (2 * (f - f'))) (jL 0) ↔ _
    rw [lc_ge, jL_le (by omega) (by omega) (by omega) (by omega)]
  rw [c0]
  refine ⟨fun z => core _ _ (by omega) (by omega) (by omega) (by omega) (fun y => h2 (Or.inl y)) (fun y => h1 ?_), fun z => ?_⟩
  · unfold mdV; omega
  · rw [jL_neg, jL_neg]
    refine core _ _ (by omega) (by omega) (by omega) (by omega) (fun y => ?_) (fun y => h1 ?_)
    · have := h2 (Or.inr (by omega))
      have e : mdA L f s f' s' = (s' * -(2 * (f - f')) - 2 * f' * -(s - s')) * -(2 * (f - f')) + L * -(s - s') * -(s - s') := by unfold mdA; grind
      have e2 : 2 * (f - f') * (2 * (f - f')) = -(2 * (f - f')) * -(2 * (f - f')) := by grind
      rw [e, e2] at this
      exact this
    · unfold mdV; omega
theorem rng_x {n d n' d' fl : Int} (hd : 0 < d) (hd' : 0 < d') (e : n * d' = n' * d) : (fl * d ≤ n ↔ fl * d' ≤ n') ∧ (n ≤ fl * d ↔ n' ≤ fl * d') := by
  have x1 : fl * d * d' = fl * d' * d := by grind
  constructor
  · constructor
    · intro h
      have := Int.mul_le_mul_of_nonneg_right h (Int.le_of_lt hd')
      rw [x1, e] at this
      exact Int.le_of_mul_le_mul_right this hd
    · intro h
      have := Int.mul_le_mul_of_nonneg_right h (Int.le_of_lt hd)
      rw [← x1, ← e] at this
      exact Int.le_of_mul_le_mul_right this hd'
  · constructor
    · intro h
      have := Int.mul_le_mul_of_nonneg_right h (Int.le_of_lt hd')
      rw [x1, e] at this
      exact Int.le_of_mul_le_mul_right this hd
    · intro h
      have := Int.mul_le_mul_of_nonneg_right h (Int.le_of_lt hd)
      rw [← x1, ← e] at this
      exact Int.le_of_mul_le_mul_right this hd'
/-- what has been collected -/
def KC (M0 : MM) (fl ce : Int) (bd : Nat) (T : Int → Int → Prop) (M : MM) : Prop := Fr sCh M0 M ∧ ∃ c A B, CSq M c A B ∧ Sq c A B ∧ c ≤ bd ∧ ∀ n d, 0 < d → (Me c A B n d ↔ (fl * d ≤ n ∧ n ≤ ce * d ∧ T n d))
theorem KC_w {M0 M : MM} {fl ce : Int} {bd bd' : Nat} {T T' : Int → Int → Prop} (h : KC M0 fl ce bd T M) (hb : bd ≤ bd') (hT : ∀ n d, T n d ↔ T' n d) : KC M0 fl ce bd' T' M := by
  obtain ⟨h1, c, A, B, q1, q2, q3, q4⟩ := h
  exact ⟨h1, c, A, B, q1, q2, by omega, fun n d hd => by rw [q4 n d hd, hT]⟩
theorem w110_k {M0 M : MM} {fl ce n d : Int} {bd : Nat} {T : Int → Int → Prop} {P : MM → Prop} (hL0 : Lay M0) (e3 : mI M0 181 3 = jI fl) (e4 : mI M0 181 4 = jI ce) (f0 : 0 ≤ fl) (f1 : fl ≤ 648) (g0 : 0 ≤ ce) (g1 : ce ≤ 648) (h : KC M0 fl ce bd T M) (b5 : bd < 506) (hE : gE n d) (hX : ∀ M', KC M0 fl ce (bd + 1) (fun n' d' => T n' d' ∨ n * d' = n' * d) M' → P M') : w110 181 (jL n) (jL d) M P := by
  obtain ⟨h1, c, A, B, q1, q2, q3, q4⟩ := h
  refine w110_s (h1.1 hL0) q1 q2 (by omega) hE ((Fr_I h1 (sB_f (by omega) (by omega))).trans e3) ((Fr_I h1 (sB_f (by omega) (by omega))).trans e4) f0 f1 g0 g1 (fun M' c' A' B' a1 a2 a3 a4 a5 => hX M' ⟨Fr_t h1 a1, c', A', B', a2, a3, by omega, fun n' d' hd' => ?_⟩)
  rw [a5, q4 n' d' hd']
  constructor
  · rintro (⟨x1, x2, x3⟩ | ⟨x1, x2, x3⟩)
    · exact ⟨x1, x2, Or.inl x3⟩
    · exact ⟨(rng_x hE.2.2.1 hd' x3).1.mp x1, (rng_x hE.2.2.1 hd' x3).2.mp x2, Or.inr x3⟩
  · rintro ⟨x1, x2, x3 | x3⟩
    · exact Or.inl ⟨x1, x2, x3⟩
    · exact Or.inr ⟨(rng_x hE.2.2.1 hd' x3).1.mpr x1, (rng_x hE.2.2.1 hd' x3).2.mpr x2, x3⟩
