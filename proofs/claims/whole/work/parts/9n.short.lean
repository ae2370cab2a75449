/-! ===== the shortest leash among the CRITICALS ===== -/
theorem md_s (L f s f' s' : Int) : mdA L f s f' s' = mdA L f' s' f s := by unfold mdA; grind
theorem mdV_s {f s f' s' : Int} (h : mdV f s f' s') : mdV f' s' f s := by unfold mdV at *; omega
/-- a point and an edge, two points and an edge give CRITICALS -/
theorem cr_ls {a b : WY} (r : Nat) {p : Nat} (hr : r < 14) (hp : p < rN a b r) : isCr a b (lsA (eL (rE a b r) (rI r)) (eF (rE a b r) (rI r) (rQ a b r) p) (eS (rE a b r) (rI r) (rQ a b r) p)) (lsB (eL (rE a b r) (rI r)) (eF (rE a b r) (rI r) (rQ a b r) p)) :=
  Or.inr ⟨r, p, p, Nat.le_refl _, hp, Or.inl hr, rV_0.mpr rfl⟩
theorem cr_md {a b : WY} (r : Nat) {m k : Nat} (hr : r < 14) (hm : m < rN a b r) (hk : k < rN a b r) (hv' : mdV (eF (rE a b r) (rI r) (rQ a b r) m) (eS (rE a b r) (rI r) (rQ a b r) m) (eF (rE a b r) (rI r) (rQ a b r) k) (eS (rE a b r) (rI r) (rQ a b r) k)) : isCr a b (mdA (eL (rE a b r) (rI r)) (eF (rE a b r) (rI r) (rQ a b r) m) (eS (rE a b r) (rI r) (rQ a b r) m) (eF (rE a b r) (rI r) (rQ a b r) k) (eS (rE a b r) (rI r) (rQ a b r) k)) ((2 * (eF (rE a b r) (rI r) (rQ a b r) m - eF (rE a b r) (rI r) (rQ a b r) k)) * (2 * (eF (rE a b r) (rI r) (rQ a b r) m - eF (rE a b r) (rI r) (rQ a b r) k))) := by
  rcases Nat.lt_trichotomy m k with z | z | z
  · refine Or.inr ⟨r, m, k, by omega, hk, Or.inl hr, (rV_1 z).mpr ⟨mdV_s hv', ?_⟩⟩
    rw [md_s]
    congr 1
    grind
  · subst z
    exfalso
    unfold mdV at hv'
    omega
  · exact Or.inr ⟨r, k, m, by omega, hm, Or.inl hr, (rV_1 z).mpr ⟨hv', rfl⟩⟩
theorem rT {a b : WY} {j : Nat} (h : j < 7) : rE a b (7 + j) = b ∧ rQ a b (7 + j) = a ∧ rI (7 + j) = j := by
  unfold rE rQ rI
  rw [if_neg (by omega), if_neg (by omega), if_neg (by omega)]
  exact ⟨rfl, rfl, by omega⟩
theorem rB {a b : WY} {j : Nat} (h : j < 7) : rE a b j = a ∧ rQ a b j = b ∧ rI j = j := by
  unfold rE rQ rI
  rw [if_pos h, if_pos h, if_pos h]
  exact ⟨rfl, rfl, rfl⟩
/-- what is free stays free down to the next CRITICAL -/
def dwn (a b : WY) (n d n' d' : Int) : Prop := ∀ x y, 0 < y → isCr a b x y → x * d ≤ n * y → x * d' ≤ n' * y
theorem fr_dwn {a b : WY} {n d n' d' : Int} (hd : 0 < d) (hd' : 0 < d') (H : dwn a b n d n' d') (ga : gW a) (gb : gW b) (r : Nat) {p : Nat} (hr : r < 14) (hp : p < rN a b r) (q : frB (eL (rE a b r) (rI r)) n d (eF (rE a b r) (rI r) (rQ a b r) p) (eS (rE a b r) (rI r) (rQ a b r) p) = true) : frB (eL (rE a b r) (rI r)) n' d' (eF (rE a b r) (rI r) (rQ a b r) p) (eS (rE a b r) (rI r) (rQ a b r) p) = true := by
  obtain ⟨g1, g2, hI, hpq⟩ := rN_p ga gb hp
  have bp := sdB_of g1 g2 hI hpq
  have gp := ls_g bp
  rw [fr_ls bp.1 hd] at q
  rw [fr_ls bp.1 hd', Int.mul_comm (lsB _ _)]
  exact H _ _ gp.2.2.1 (cr_ls r hr hp) (by rw [Int.mul_comm n]; exact q)
theorem rF_dwn {a b : WY} {n d n' d' : Int} (hd : 0 < d) (hd' : 0 < d') (H : dwn a b n d n' d') (ga : gW a) (gb : gW b) (r : Nat) {m k : Nat} (hr : r < 14) (hm : m < rN a b r) (hk : k < rN a b r) (q1 : frB (eL (rE a b r) (rI r)) n d (eF (rE a b r) (rI r) (rQ a b r) m) (eS (rE a b r) (rI r) (rQ a b r) m) = true) (q2 : frB (eL (rE a b r) (rI r)) n d (eF (rE a b r) (rI r) (rQ a b r) k) (eS (rE a b r) (rI r) (rQ a b r) k) = true) (q : rF (eL (rE a b r) (rI r)) n d (eF (rE a b r) (rI r) (rQ a b r) m) (eS (rE a b r) (rI r) (rQ a b r) m) (eF (rE a b r) (rI r) (rQ a b r) k) (eS (rE a b r) (rI r) (rQ a b r) k)) : rF (eL (rE a b r) (rI r)) n' d' (eF (rE a b r) (rI r) (rQ a b r) m) (eS (rE a b r) (rI r) (rQ a b r) m) (eF (rE a b r) (rI r) (rQ a b r) k) (eS (rE a b r) (rI r) (rQ a b r) k) := by
  obtain ⟨g1, g2, hI, hmq⟩ := rN_p ga gb hm
  have hkq := (rN_p ga gb hk).2.2.2
  have bm := sdB_of g1 g2 hI hmq
  refine rF_crit bm.1 hd hd' (fr_dwn hd hd' H ga gb r hr hm q1) (fr_dwn hd hd' H ga gb r hr hk q2) (fun c1 c2 c3 c4 => ?_) q
  have v := cr_md (a := a) (b := b) r hr hm hk
  generalize eL (rE a b r) (rI r) = L at *
  generalize eF (rE a b r) (rI r) (rQ a b r) m = f at *
  generalize eS (rE a b r) (rI r) (rQ a b r) m = s at *
  generalize eF (rE a b r) (rI r) (rQ a b r) k = f' at *
  generalize eS (rE a b r) (rI r) (rQ a b r) k = s' at *
  rw [in_md bm.1] at c4 ⊢
  have s0 : 0 ≤ s - s' := (pos_of bm.1).mp c2
  have s1 : s - s' ≤ 2 * (f - f') := by
    rw [Int.mul_comm (2 * (f - f')) L] at c3
    exact Int.le_of_mul_le_mul_left c3 bm.1
  have D0 : 0 < (2 * (f - f')) * (2 * (f - f')) := Int.mul_pos (by omega) (by omega)
  have := H _ _ D0 (v (Or.inl ⟨by omega, s0, s1⟩)) (by rw [Int.mul_comm n]; exact c4)
  rw [Int.mul_comm] at this
  rw [Int.mul_comm (mdA L f s f' s') d', Int.mul_comm _ n']
  omega
theorem geo_dwn {a b : WY} {n d n' d' : Int} (ga : gW a) (gb : gW b) (hd : 0 < d) (hd' : 0 < d') (H : dwn a b n d n' d') : goesOn (wn a) (wn b) (geo a b n d) (geo a b n' d') (geF a b n d) (geF a b n' d') := by
  have a2 := ga.2.1
  have b2 := gb.2.1
  have nT : ∀ j i, j + 1 < wn b → i < wn a → i < rN a b (7 + j) := fun j i hj hi => by
    obtain ⟨e1, e2, e3⟩ := rT (a := a) (b := b) (j := j) (by omega)
    unfold rN; rw [e1, e2, e3, if_pos hj]; exact hi
  have nB' : ∀ i j, i + 1 < wn a → j < wn b → j < rN a b i := fun i j hi hj => by
    obtain ⟨e1, e2, e3⟩ := rB (a := a) (b := b) (j := i) (by omega)
    unfold rN; rw [e1, e2, e3, if_pos hi]; exact hj
  refine ⟨fun i j hi hj q => ?_, fun i j hi hj q => ?_, fun j m k hj hm hk q1 q2 q => ?_, fun i m k hi hm hk q1 q2 q => ?_⟩
  · obtain ⟨e1, e2, e3⟩ := rT (a := a) (b := b) (j := j) (by omega)
    have t := fr_dwn hd hd' H ga gb (7 + j) (by omega) (nT j i hj hi)
    rw [e1, e2, e3] at t
    exact t q
  · obtain ⟨e1, e2, e3⟩ := rB (a := a) (b := b) (j := i) (by omega)
    have t := fr_dwn hd hd' H ga gb i (by omega) (nB' i j hi hj)
    rw [e1, e2, e3] at t
    exact t q
  · obtain ⟨e1, e2, e3⟩ := rT (a := a) (b := b) (j := j) (by omega)
    have t := rF_dwn hd hd' H ga gb (7 + j) (by omega) (nT j m hj hm) (nT j k hj hk)
    rw [e1, e2, e3] at t
    exact t q1 q2 q
  · obtain ⟨e1, e2, e3⟩ := rB (a := a) (b := b) (j := i) (by omega)
    have t := rF_dwn hd hd' H ga gb i (by omega) (nB' i m hi hm) (nB' i k hi hk)
    rw [e1, e2, e3] at t
    exact t q1 q2 q
theorem gN_dwn {a b : WY} {n d n' d' : Int} (H : dwn a b n d n' d') : (gN (geo a b n d) 0 0 = true → gN (geo a b n' d') 0 0 = true) ∧ (gN (geo a b n d) (wn a - 1) (wn b - 1) = true → gN (geo a b n' d') (wn a - 1) (wn b - 1) = true) := by
  refine ⟨fun h => decide_eq_true ?_, fun h => decide_eq_true ?_⟩
  · have q : qd a 0 b 0 * d ≤ n := of_decide_eq_true h
    have := H (qd a 0 b 0) 1 (by omega) (Or.inl (Or.inl (by omega))) (by omega)
    omega
  · have q : qd a (wn a - 1) b (wn b - 1) * d ≤ n := of_decide_eq_true h
    have := H (qd a (wn a - 1) b (wn b - 1)) 1 (by omega) (Or.inl (Or.inr (by omega))) (by omega)
    omega
theorem Eno_dwn {kind : Int32} {a b : WY} {n d n' d' : Int} (hk : kind = 0 ∨ kind = 1) (ga : gW a) (gb : gW b) (hd : 0 < d) (hd' : 0 < d') (H : dwn a b n d n' d') (h : Eno kind a b n d) : Eno kind a b n' d' := by
  have g := geo_dwn ga gb hd hd' H
  have g0 := gN_dwn H
  unfold Eno at *
  rcases hk with rfl | rfl
  · rw [if_neg (by decide), if_neg (by decide)] at *
    exact srv_crit ga.1 gb.1 (geo_ok ga gb hd) (geo_ok ga gb hd') g g0.1 g0.2 h
  · rw [if_neg (by decide), if_pos rfl] at *
    exact ⟨g0.1 h.1, g0.2 h.2.1, Sto_mono g.1 g.2.1 h.2.2⟩
theorem Eno_mono {kind : Int32} {a b : WY} {n d n' d' : Int} (hk : kind = 0 ∨ kind = 1) (ga : gW a) (gb : gW b) (hd : 0 < d) (hd' : 0 < d') (h' : n * d' ≤ n' * d) (h : Eno kind a b n d) : Eno kind a b n' d' := by
  unfold Eno at *
  rcases hk with rfl | rfl
  · rw [if_neg (by decide), if_neg (by decide)] at *
    exact enough_mono ga gb hd hd' h' h
  · rw [if_neg (by decide), if_pos rfl] at *
    have g := geo_mono ga gb hd hd' h'
    exact ⟨decide_eq_true (near_mono hd hd' h' (of_decide_eq_true h.1)), decide_eq_true (near_mono hd hd' h' (of_decide_eq_true h.2.1)), Sto_mono g.1 g.2.1 h.2.2⟩
theorem Eno_ends {kind : Int32} {a b : WY} {n d : Int} (hk : kind = 0 ∨ kind = 1) (h : Eno kind a b n d) : qd a 0 b 0 * d ≤ n ∧ qd a (wn a - 1) b (wn b - 1) * d ≤ n := by
  unfold Eno at h
  rcases hk with rfl | rfl
  · rw [if_neg (by decide), if_neg (by decide)] at h
    have q := srv_iff.mp h
    exact ⟨of_decide_eq_true q.1, of_decide_eq_true q.2.1⟩
  · rw [if_neg (by decide), if_pos rfl] at h
    exact ⟨of_decide_eq_true h.1, of_decide_eq_true h.2.1⟩
theorem Eno_hop {kind : Int32} {a b : WY} (hk : kind = 0 ∨ kind = 1) (ga : gW a) (gb : gW b) : Eno kind a b (hv a b 0 0) 1 := by
  have a1 := ga.1
  have b1 := gb.1
  have s : srv (wn a) (wn b) (geo a b (hv a b 0 0) 1) = true := by
    refine srv_hop (Hp := fun i j => hv a b i j ≤ hv a b 0 0) ga.1 gb.1 (geo_ok ga gb (by omega)) (fun i j hi hj h => ⟨decide_eq_true ?_, ?_⟩) (Int.le_refl _)
    · have := hv_0 a b i j
      omega
    · by_cases c : i + 1 = wn a ∧ j + 1 = wn b
      · exact Or.inl c
      · right
        have e := hv_e a b i j
        rcases nxd (h := hv a b) (show i + 1 < wn a ∨ j + 1 < wn b by omega) with ⟨c1, c2, c3⟩ | ⟨c1, c3⟩ | ⟨c2, c3⟩
        · exact Or.inl ⟨c1, c2, by omega⟩
        · exact Or.inr (Or.inl ⟨c1, by omega⟩)
        · exact Or.inr (Or.inr ⟨c2, by omega⟩)
  unfold Eno
  rcases hk with rfl | rfl
  · rw [if_neg (by decide), if_neg (by decide)]; exact s
  · rw [if_neg (by decide), if_pos rfl]
    have q := srv_iff.mp s
    exact ⟨q.1, q.2.1, Sto_of (geo_ok ga gb (by omega)) _ _ _ (Nat.lt_succ_self _) (by omega) (by omega) q.2.2⟩
/-- SHORTEST -/
def isSh (kind : Int32) (a b : WY) (n d : Int) : Prop := gE n d ∧ (if kind = 2 then n = hv a b 0 0 * d else isCr a b n d ∧ Eno kind a b n d ∧ ∀ n' d', 0 < d' → isCr a b n' d' → Eno kind a b n' d' → n * d' ≤ n' * d)
theorem isSh_u {kind : Int32} {a b : WY} {n d n' d' : Int} (h : isSh kind a b n d) (h' : isSh kind a b n' d') : n * d' = n' * d := by
  unfold isSh at h h'
  by_cases c : kind = 2
  · rw [if_pos c] at h h'
    rw [h.2, h'.2]; grind
  · rw [if_neg c] at h h'
    have l1 := h.2.2.2 n' d' h'.1.2.2.1 h'.2.1 h'.2.2.1
    have l2 := h'.2.2.2 n d h.1.2.2.1 h.2.1 h.2.2.1
    omega
theorem isSh_f {kind : Int32} {a b : WY} {n d n' d' : Int} (h : isSh kind a b n d) (h' : isSh kind a b n' d') : ft n d = ft n' d' ∧ fb n d = fb n' d' :=
  fr_eqI h.1.1 h.1.2.2.1 h'.1.1 h'.1.2.2.1 (isSh_u h h')
/-- every CRITICAL lies between 0 and 648 -/
theorem cr_b {a b : WY} {n d : Int} (ga : gW a) (gb : gW b) (hd : 0 < d) (h : isCr a b n d) : 0 ≤ n ∧ n ≤ 648 * d := by
  have a1 := ga.1
  have b1 := gb.1
  have fin : ∀ A B : Int, 0 ≤ A → 0 < B → A ≤ 648 * B → A * d = n * B → 0 ≤ n ∧ n ≤ 648 * d := fun A B h1 h2 h3 e => by
    constructor
    · rcases Int.lt_or_le n 0 with z | z
      · exfalso
        have m1 := Int.mul_pos (show 0 < -n by omega) h2
        have m2 := Int.mul_nonneg h1 (Int.le_of_lt hd)
        rw [Int.neg_mul] at m1
        omega
      · exact z
    · have := Int.mul_le_mul_of_nonneg_right h3 (Int.le_of_lt hd)
      rw [e, show 648 * B * d = 648 * d * B by grind] at this
      exact Int.le_of_mul_le_mul_right this h2
  rcases h with (h | h) | ⟨r, p, k, h1, h2, h3, h4⟩
  · have q := qd_b ga gb (show 0 < wn a by omega) (show 0 < wn b by omega)
    exact fin _ 1 q.1 (by omega) (by omega) (by omega)
  · have q := qd_b ga gb (show wn a - 1 < wn a by omega) (show wn b - 1 < wn b by omega)
    exact fin _ 1 q.1 (by omega) (by omega) (by omega)
  · obtain ⟨g1, g2, hI, hkq⟩ := rN_p ga gb h2
    have hpq := (rN_p ga gb (show p < rN a b r by omega)).2.2.2
    have bp := sdB_of g1 g2 hI hpq
    by_cases e : k = p
    · subst e
      rw [rV_0] at h4
      have g := ls_g bp
      refine fin _ _ g.1 g.2.2.1 ?_ h4
      unfold sdB at bp
      unfold lsA lsB
      generalize eL (rE a b r) (rI r) = L at *
      generalize eF (rE a b r) (rI r) (rQ a b r) k = f at *
      generalize eS (rE a b r) (rI r) (rQ a b r) k = s at *
      by_cases c : 0 < f ∧ f < L
      · rw [if_pos c, if_pos c]
        have := Int.mul_le_mul_of_nonneg_left (show s ≤ 648 by omega) (show 0 ≤ L by omega)
        have := sqr_p f
        omega
      · rw [if_neg c, if_neg c]; omega
    · rw [rV_1 (by omega)] at h4
      have fd := eF_d g1 g2 hI hpq hkq
      have g := md_g bp fd h4.1
      refine fin _ _ g.1 g.2.2.1 ?_ h4.2
      unfold sdB at bp
      generalize eL (rE a b r) (rI r) = L at *
      generalize eF (rE a b r) (rI r) (rQ a b r) k = f at *
      generalize eS (rE a b r) (rI r) (rQ a b r) k = s at *
      generalize eF (rE a b r) (rI r) (rQ a b r) p = f' at *
      generalize eS (rE a b r) (rI r) (rQ a b r) p = s' at *
      rcases h4.1 with ⟨v1, v2, v3⟩ | ⟨v1, v2, v3⟩
      · exact (md_c (L := L) (f := f') (s := s') (u := s - s') (v := 2 * (f - f')) bp.1 (by omega) (by omega) (by omega) v2 v3).2
      · have c := (md_c (L := L) (f := f') (s := s') (u := -(s - s')) (v := -(2 * (f - f'))) bp.1 (by omega) (by omega) (by omega) (by omega) (by omega)).2
        have e : mdA L f s f' s' = (s' * -(2 * (f - f')) - 2 * f' * -(s - s')) * -(2 * (f - f')) + L * -(s - s') * -(s - s') := by unfold mdA; grind
        have e2 : -(2 * (f - f')) * -(2 * (f - f')) = 2 * (f - f') * (2 * (f - f')) := by grind
        rw [e2] at c
        rw [e]; exact c
/-- a row of CRITICALS between two bounds that holds all of them there; the last one up to C is enough -/
theorem row_en {kind : Int32} {a b : WY} {c m : Nat} {A B : Nat → Int} {fl ce : Int} (hk : kind = 0 ∨ kind = 1) (ga : gW a) (gb : gW b) (hS : Sq c A B) (hM : ∀ n d, 0 < d → (Me c A B n d ↔ (fl * d ≤ n ∧ n ≤ ce * d ∧ isCr a b n d))) (f1 : fl ≤ max (qd a 0 b 0) (qd a (wn a - 1) b (wn b - 1))) (c1 : hv a b 0 0 ≤ ce) (hm : m < c) (m1 : ∀ k, k < c → A k ≤ hv a b 0 0 * B k → k ≤ m) : Eno kind a b (A m) (B m) := by
  have bm := (hS.1 m hm).2.2.1
  have a1 := ga.1
  have b1 := gb.1
  have hz := hv_0 a b 0 0
  have h9 := hv_9 (a := a) (b := b) _ 0 0 (Nat.le_refl _) (by omega) (by omega)
  -- the greater end is a member
  obtain ⟨e, he1, he2⟩ : ∃ e : Int, e = max (qd a 0 b 0) (qd a (wn a - 1) b (wn b - 1)) ∧ isCr a b e 1 := by
    rcases Int.le_total (qd a 0 b 0) (qd a (wn a - 1) b (wn b - 1)) with z | z
    · exact ⟨qd a (wn a - 1) b (wn b - 1), by omega, Or.inl (Or.inr (by omega))⟩
    · exact ⟨qd a 0 b 0, by omega, Or.inl (Or.inl (by omega))⟩
  obtain ⟨k0, hk0, ek0⟩ := (hM e 1 (by omega)).mpr ⟨by omega, by omega, he2⟩
  have bk0 := (hS.1 k0 hk0).2.2.1
  have ek0' : A k0 = e * B k0 := by omega
  have le0 : A k0 ≤ hv a b 0 0 * B k0 := by
    rw [ek0']; exact Int.mul_le_mul_of_nonneg_right (by omega) (Int.le_of_lt bk0)
  have k0m := m1 k0 hk0 le0
  have up : ∀ k, k ≤ m → A k * B m ≤ A m * B k := fun k km => by
    rcases Nat.lt_or_ge k m with z | z
    · exact Int.le_of_lt (hS.2 k m z hm)
    · have : k = m := by omega
      subst this; exact Int.le_refl _
  refine Eno_dwn hk ga gb (n := hv a b 0 0) (d := 1) (by omega) bm (fun x y y0 hc hx => ?_) (Eno_hop hk ga gb)
  rw [Int.mul_one] at hx
  by_cases q : fl * y ≤ x
  · have xc : x ≤ ce * y := Int.le_trans hx (Int.mul_le_mul_of_nonneg_right c1 (Int.le_of_lt y0))
    obtain ⟨k, hk', ek⟩ := (hM x y y0).mpr ⟨q, xc, hc⟩
    have bk := (hS.1 k hk').2.2.1
    have lk : A k ≤ hv a b 0 0 * B k := by
      have := Int.mul_le_mul_of_nonneg_right hx (Int.le_of_lt bk)
      rw [← ek, show hv a b 0 0 * y * B k = hv a b 0 0 * B k * y by grind] at this
      exact Int.le_of_mul_le_mul_right this y0
    have u := up k (m1 k hk' lk)
    -- x / y = A k / B k
    have := Int.mul_le_mul_of_nonneg_right u (Int.le_of_lt y0)
    rw [show A k * B m * y = A k * y * B m by grind, ek, show x * B k * B m = x * B m * B k by grind, show A m * B k * y = A m * y * B k by grind] at this
    exact Int.le_of_mul_le_mul_right this bk
  · -- below the lower bound: less than the greater end
    have u := up k0 k0m
    rw [ek0', show e * B k0 * B m = e * B m * B k0 by grind] at u
    have u2 := Int.le_of_mul_le_mul_right u bk0
    have l1 : x ≤ e * y := Int.le_trans (Int.le_of_lt (show x < fl * y by omega)) (Int.mul_le_mul_of_nonneg_right (by omega) (Int.le_of_lt y0))
    have m2 := Int.mul_le_mul_of_nonneg_right l1 (Int.le_of_lt bm)
    have m3 := Int.mul_le_mul_of_nonneg_right u2 (Int.le_of_lt y0)
    rw [show e * B m * y = e * y * B m by grind] at m3
    omega
/-- the first of a row that is enough is the shortest -/
theorem row_sh {kind : Int32} {a b : WY} {c m : Nat} {A B : Nat → Int} {fl ce : Int} (hk : kind = 0 ∨ kind = 1) (ga : gW a) (gb : gW b) (hS : Sq c A B) (hM : ∀ n d, 0 < d → (Me c A B n d ↔ (fl * d ≤ n ∧ n ≤ ce * d ∧ isCr a b n d))) (f1 : fl ≤ max (qd a 0 b 0) (qd a (wn a - 1) b (wn b - 1))) (hm : m < c) (he : Eno kind a b (A m) (B m)) (hn : ∀ k, k < m → ¬ Eno kind a b (A k) (B k)) : isSh kind a b (A m) (B m) := by
  have gm := hS.1 m hm
  have bm := gm.2.2.1
  have mm := (hM (A m) (B m) bm).mp ⟨m, hm, rfl⟩
  refine ⟨gm, ?_⟩
  rw [if_neg (by rcases hk with rfl | rfl <;> decide)]
  refine ⟨mm.2.2, he, fun n' d' hd' hc hE => ?_⟩
  have en := Eno_ends hk hE
  have lo : fl * d' ≤ n' := by
    refine Int.le_trans (Int.mul_le_mul_of_nonneg_right f1 (Int.le_of_lt hd')) ?_
    rcases Int.le_total (qd a 0 b 0) (qd a (wn a - 1) b (wn b - 1)) with z | z
    · rw [Int.max_eq_right z]; exact en.2
    · rw [Int.max_eq_left z]; exact en.1
  by_cases q : n' ≤ ce * d'
  · obtain ⟨k, hk', ek⟩ := (hM n' d' hd').mpr ⟨lo, q, hc⟩
    have bk := (hS.1 k hk').2.2.1
    have kE : Eno kind a b (A k) (B k) := Eno_mono hk ga gb hd' bk (by omega) hE
    have km : m ≤ k := by
      rcases Nat.lt_or_ge k m with z | z
      · exact absurd kE (hn k z)
      · exact z
    have u : A m * B k ≤ A k * B m := by
      rcases Nat.lt_or_ge m k with z | z
      · exact Int.le_of_lt (hS.2 m k z hk')
      · have : k = m := by omega
        subst this; exact Int.le_refl _
    have := Int.mul_le_mul_of_nonneg_right u (Int.le_of_lt hd')
    rw [show A k * B m * d' = A k * d' * B m by grind, ek, show n' * B k * B m = n' * B m * B k by grind, show A m * B k * d' = A m * d' * B k by grind] at this
    exact Int.le_of_mul_le_mul_right this bk
  · have m2 := Int.mul_le_mul_of_nonneg_right mm.2.1 (Int.le_of_lt hd')
    have m3 := Int.mul_lt_mul_of_pos_right (show ce * d' < n' by omega) bm
    rw [show ce * B m * d' = ce * d' * B m by grind] at m2
    omega
