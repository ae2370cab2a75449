/-! the class collects: the loops -/
theorem rV_0 {a b : WY} {r p : Nat} {n d : Int} : rV a b r p p n d ↔ lsA (eL (rE a b r) (rI r)) (eF (rE a b r) (rI r) (rQ a b r) p) (eS (rE a b r) (rI r) (rQ a b r) p) * d = n * lsB (eL (rE a b r) (rI r)) (eF (rE a b r) (rI r) (rQ a b r) p) := by
  unfold rV itm; rw [if_pos rfl]
theorem rV_1 {a b : WY} {r p k : Nat} {n d : Int} (h : p < k) : rV a b r p k n d ↔ (mdV (eF (rE a b r) (rI r) (rQ a b r) k) (eS (rE a b r) (rI r) (rQ a b r) k) (eF (rE a b r) (rI r) (rQ a b r) p) (eS (rE a b r) (rI r) (rQ a b r) p) ∧ mdA (eL (rE a b r) (rI r)) (eF (rE a b r) (rI r) (rQ a b r) k) (eS (rE a b r) (rI r) (rQ a b r) k) (eF (rE a b r) (rI r) (rQ a b r) p) (eS (rE a b r) (rI r) (rQ a b r) p) * d = n * ((2 * (eF (rE a b r) (rI r) (rQ a b r) k - eF (rE a b r) (rI r) (rQ a b r) p)) * (2 * (eF (rE a b r) (rI r) (rQ a b r) k - eF (rE a b r) (rI r) (rQ a b r) p)))) := by
  unfold rV itm; rw [if_neg (by omega)]
/-- all that is put up to an item -/
def TU (a b : WY) (r p k : Nat) (n d : Int) : Prop := isEn a b n d ∨ TT (rN a b) (rV a b) r p k n d
theorem sdR_fr {M0 M : MM} {a b : WY} {r p : Nat} (h : Fr sCh M0 M) (hr : r < 14) (hp : p < 8) (q : sdR M0 a b r p) : sdR M a b r p := by
  have f : ∀ k, mL M (63 + (r * 8 + p)) k = mL M0 (63 + (r * 8 + p)) k := fun k => Fr_L h (sB_f (by omega) (by omega))
  obtain ⟨q0, q1, q2, q3, q4⟩ := q
  exact ⟨(f _).trans q0, (f _).trans q1, (f _).trans q2, (f _).trans q3, (f _).trans q4⟩
theorem kd_sd {M : MM} (h : Lay M) {k : Nat} (q : k < 112) : kd M (63 + k) 7 := y_kd h (rf_60_all k q).2
theorem w109_98_s {M0 : MM} {a b : WY} {fl ce : Int} {r p : Nat} {K1 : Nat → Option Nat → Int32 → MM → Prop} {K2 : Nat → Option Nat → Int32 → Int32 → Int32 → MM → Prop} {P : MM → Prop} (hL0 : Lay M0) (hD : Laid M0 a b) (ga : gW a) (gb : gW b) (e3 : mI M0 181 3 = jI fl) (e4 : mI M0 181 4 = jI ce) (f0 : 0 ≤ fl) (f1 : fl ≤ 648) (g0 : 0 ≤ ce) (g1 : ce ≤ 648) (hr : r < 14) (hp : p < rN a b r)
    (hX : ∀ M', KC M0 fl ce (2 + 36 * r + trg (p + 1)) (TU a b r (p + 1) (p + 1)) M' → K2 181 (some 59) (jI (r : Int)) (jI (rN a b r : Int)) (jI ((p + 1 : Nat) : Int)) M') :
    ∀ (q k : Nat) (M : MM), k + q = rN a b r → p < k → KC M0 fl ce (2 + 36 * r + trg p + (k - p)) (TU a b r p k) M → w109_98 K1 K2 (q + 1) 181 (some 59) (jI (r : Int)) (jI (rN a b r : Int)) (jI (p : Int)) (some (63 + (r * 8 + p))) (jI (k : Int)) M P := by
  have n8 := rN_le (r := r) ga gb
  have tp := trg_le (p + 1) (by omega)
  have ts : trg (p + 1) = trg p + (8 - p) := rfl
  intro q
  induction q with
  | zero =>
    intro k M hk pk h
    refine br_t (by rw [jI_le (by omega) (by omega) (by omega) (by omega)]; omega) ?_
    rw [show jI (p : Int) + 1 = jI ((p + 1 : Nat) : Int) by rw [show (1 : Int32) = jI 1 from rfl, jI_add, c_s1]]
    exact hX M (KC_w h (by omega) (fun n d => or_congr Iff.rfl (TT_p (by omega))))
  | succ q ih =>
    intro k M hk pk h
    have hL := h.1.1 hL0
    obtain ⟨gE1, gQ1, hI, hpq⟩ := rN_p ga gb hp
    have hkq := (rN_p ga gb (show k < rN a b r by omega)).2.2.2
    refine br_f (by rw [jI_le (by omega) (by omega) (by omega) (by omega)]; omega) ⟨59, rfl, kd_59 hL, 60, rf_59_0 hL, ?_⟩
    rw [show jI (r : Int) * 8 + jI (k : Int) = jI ((r * 8 + k : Nat) : Int) by rw [show (8 : Int32) = jI 8 from rfl, jI_mul, jI_add]; congr 1]
    refine ⟨inb60 hL (by omega), kd_181 hL, ?_⟩
    rw [jI_cn (by omega), rf_60 hL (by omega), show jI (k : Int) + 1 = jI ((k + 1 : Nat) : Int) by rw [show (1 : Int32) = jI 1 from rfl, jI_add, c_s1]]
    have sp := sdR_fr h.1 hr (by omega) (hD.2.2 r p hp hr)
    have sk := sdR_fr h.1 hr (by omega) (hD.2.2 r k (by omega) hr)
    have bp := sdB_of gE1 gQ1 hI hpq
    have bk := sdB_of gE1 gQ1 hI hkq
    have fd := eF_d gE1 gQ1 hI hpq hkq
    have bp' := bp
    have bk' := bk
    unfold sdB at bp' bk'
    refine w111_s hL (kd_sd hL (by omega)) (kd_sd hL (by omega)) sp sk (by omega) (by omega) (fun nv => ih (k + 1) M (by omega) (by omega) (KC_w h (by omega) (fun n d => ?_))) (fun v => ?_)
    · unfold TU
      rw [TT_s (show p ≤ k by omega) (by omega), rV_1 pk]
      exact ⟨fun x => x.imp id Or.inl, fun x => x.imp id (fun y => y.elim id (fun z => absurd z.1 nv))⟩
    · refine w110_k hL0 e3 e4 f0 f1 g0 g1 h (by omega) (md_g bp fd v) (fun M' h' => ih (k + 1) M' (by omega) (by omega) (KC_w h' (by omega) (fun n d => ?_)))
      unfold TU
      rw [TT_s (show p ≤ k by omega) (by omega), rV_1 pk, or_assoc]
      exact or_congr Iff.rfl (or_congr Iff.rfl ⟨fun x => ⟨v, x⟩, fun x => x.2⟩)
theorem w109_56_s {M0 : MM} {a b : WY} {fl ce : Int} {r : Nat} {K1 : Nat → Option Nat → Int32 → MM → Prop} {P : MM → Prop} (hL0 : Lay M0) (hD : Laid M0 a b) (ga : gW a) (gb : gW b) (e3 : mI M0 181 3 = jI fl) (e4 : mI M0 181 4 = jI ce) (f0 : 0 ≤ fl) (f1 : fl ≤ 648) (g0 : 0 ≤ ce) (g1 : ce ≤ 648) (hr : r < 14)
    (hX : ∀ M', KC M0 fl ce (2 + 36 * (r + 1)) (TU a b (r + 1) 0 0) M' → K1 181 (some 59) (jI ((r + 1 : Nat) : Int)) M') :
    ∀ (q p : Nat) (M : MM), p + q = rN a b r → KC M0 fl ce (2 + 36 * r + trg p) (TU a b r p p) M → w109_56 K1 (q + 1) 181 (some 59) (jI (r : Int)) (jI (rN a b r : Int)) (jI (p : Int)) M P := by
  have n8 := rN_le (r := r) ga gb
  intro q
  induction q with
  | zero =>
    intro p M hp h
    have tp := trg_le p (by omega)
    refine br_t (by rw [jI_le (by omega) (by omega) (by omega) (by omega)]; omega) ?_
    rw [show jI (r : Int) + 1 = jI ((r + 1 : Nat) : Int) by rw [show (1 : Int32) = jI 1 from rfl, jI_add, c_s1]]
    exact hX M (KC_w h (by omega) (fun n d => or_congr Iff.rfl (TT_r (by omega))))
  | succ q ih =>
    intro p M hp h
    have hL := h.1.1 hL0
    have tp := trg_le (p + 1) (by omega)
    have ts : trg (p + 1) = trg p + (8 - p) := rfl
    obtain ⟨gE1, gQ1, hI, hpq⟩ := rN_p ga gb (show p < rN a b r by omega)
    refine br_f (by rw [jI_le (by omega) (by omega) (by omega) (by omega)]; omega) ⟨59, rfl, kd_59 hL, 60, rf_59_0 hL, ?_⟩
    rw [show jI (r : Int) * 8 + jI (p : Int) = jI ((r * 8 + p : Nat) : Int) by rw [show (8 : Int32) = jI 8 from rfl, jI_mul, jI_add]; congr 1]
    refine ⟨inb60 hL (by omega), ?_⟩
    rw [jI_cn (by omega), rf_60 hL (by omega)]
    have sp := sdR_fr h.1 hr (by omega) (hD.2.2 r p (by omega) hr)
    have bp := sdB_of gE1 gQ1 hI hpq
    have kp := kd_sd hL (show r * 8 + p < 112 by omega)
    refine ⟨_, rfl, kp, w50_s kp sp bp ⟨kp, w53_s kp sp bp ⟨kd_181 hL, ?_⟩⟩⟩
    refine w110_k hL0 e3 e4 f0 f1 g0 g1 h (by omega) (ls_g bp) (fun M' h' => ?_)
    rw [show jI (p : Int) + 1 = jI ((p + 1 : Nat) : Int) by rw [show (1 : Int32) = jI 1 from rfl, jI_add, c_s1]]
    refine ⟨rN a b r - (p + 1) + 1, w109_98_s hL0 hD ga gb e3 e4 f0 f1 g0 g1 hr (by omega) (fun M'' h'' => ih (p + 1) M'' (by omega) h'') (rN a b r - (p + 1)) (p + 1) M' (by omega) (by omega) (KC_w h' (by omega) (fun n d => ?_))⟩
    unfold TU
    rw [TT_s (Nat.le_refl p) (by omega), rV_0, or_assoc]
theorem Laid_fr {S : Nat → Nat → Bool} {M M' : MM} {a b : WY} (h : Fr S M M') (hS : ∀ x k, 59 ≤ x ∧ x ≤ 174 → S x k = false) (ga : gW a) (gb : gW b) (hD : Laid M a b) : Laid M' a b := by
  refine ⟨(Fr_I h (hS _ _ (by omega))).trans hD.1, (Fr_I h (hS _ _ (by omega))).trans hD.2.1, fun r p hp hr => ?_⟩
  have n8 := rN_le (r := r) ga gb
  have f : ∀ k, mL M' (63 + (r * 8 + p)) k = mL M (63 + (r * 8 + p)) k := fun k => Fr_L h (hS _ _ (by omega))
  obtain ⟨q0, q1, q2, q3, q4⟩ := hD.2.2 r p hp hr
  exact ⟨(f _).trans q0, (f _).trans q1, (f _).trans q2, (f _).trans q3, (f _).trans q4⟩
theorem w107_s {M : MM} {a b : WY} {P : Int32 → MM → Prop} (hL : Lay M) (hD : Laid M a b) (ga : gW a) (gb : gW b) (hP : P (jI (qd a 0 b 0)) M) : w107 59 M P := by
  have a1 := ga.1
  have b1 := gb.1
  have n0 : 0 < rN a b 0 := by
    have e : rN a b 0 = if 0 + 1 < wn a then wn b else 0 := rfl
    rw [e, if_pos (by omega)]; omega
  have s0 := hD.2.2 0 0 n0 (by omega)
  have v0 : mL M 63 2 = jL (qd a 0 b 0) := by
    have := s0.2.2.1
    rw [show eS (rE a b 0) (rI 0) (rQ a b 0) 0 = qd b 0 a 0 from rfl, qd_sym] at this
    exact this
  refine ⟨kd_59 hL, w82_s (i := 0) (j := 0) hL (by omega) ⟨63, rfl, kd_sd (k := 0) hL (by omega), ?_⟩⟩
  rw [v0, jL_i]
  exact hP
theorem w108_s {M : MM} {a b : WY} {P : Int32 → MM → Prop} (hL : Lay M) (hD : Laid M a b) (ga : gW a) (gb : gW b) (hP : P (jI (qd a (wn a - 1) b (wn b - 1))) M) : w108 59 M P := by
  have a1 := ga.1
  have a2 := ga.2.1
  have b1 := gb.1
  have b2 := gb.2.1
  have d1 : ((wn a : Int) - 1) - 1 = ((wn a - 2 : Nat) : Int) := by omega
  have d2 : ((wn b : Int) - 1) = ((wn b - 1 : Nat) : Int) := by omega
  have r7 : wn a - 2 < 7 := by omega
  have n9 : wn b - 1 < rN a b (wn a - 2) := by
    unfold rN rI rE rQ
    rw [if_pos r7, if_pos r7, if_pos r7, if_pos (by omega)]; omega
  have s9 := hD.2.2 (wn a - 2) (wn b - 1) n9 (by omega)
  have v9 : mL M (oL (wn a - 2) (wn b - 1)) 3 = jL (qd a (wn a - 1) b (wn b - 1)) := by
    have := s9.2.2.2.1
    rw [show rE a b (wn a - 2) = a from if_pos r7, show rQ a b (wn a - 2) = b from if_pos r7, show rI (wn a - 2) = wn a - 2 from if_pos r7, eE, qd_sym, show wn a - 2 + 1 = wn a - 1 by omega] at this
    exact this
  refine ⟨kd_59 hL, kd_59 hL, kd_59 hL, ?_⟩
  rw [hD.1, hD.2.1, show (1 : Int32) = jI 1 from rfl, jI_sub, d1, d2]
  refine w82_s hL (by omega) ⟨_, rfl, kd_sd hL (by omega), ?_⟩
  rw [v9, jL_i]
  exact hP
def sCo : Nat → Nat → Bool := sB 181 2 4 182 183
theorem w109_s {M : MM} {a b : WY} {fl ce : Int} {P : MM → Prop} (hL : Lay M) (hD : Laid M a b) (ga : gW a) (gb : gW b) (f0 : 0 ≤ fl) (f1 : fl ≤ 648) (g0 : 0 ≤ ce) (g1 : ce ≤ 648)
    (hX : ∀ M' c A B, Fr sCo M M' → CSq M' c A B → Sq c A B → c ≤ 506 → (∀ n d, 0 < d → (Me c A B n d ↔ (fl * d ≤ n ∧ n ≤ ce * d ∧ isCr a b n d))) → P M') : w109 181 (some 59) (jI fl) (jI ce) M P := by
  have a1 := ga.1
  have a2 := ga.2.1
  have b1 := gb.1
  have b2 := gb.2.1
  have hF0 : Fr sCo M (sI (sI (sI M 181 2 0) 181 3 (jI fl)) 181 4 (jI ce)) := Fr_sI (Fr_sI (Fr_sI Fr_r (sB_t1 (by omega))) (sB_t1 (by omega))) (sB_t1 (by omega))
  have e2 : mI (sI (sI (sI M 181 2 0) 181 3 (jI fl)) 181 4 (jI ce)) 181 2 = jI ((0 : Nat) : Int) := by rw [gI_n (by omega), gI_n (by omega), gI_y ⟨rfl, rfl⟩]; rfl
  have e3 : mI (sI (sI (sI M 181 2 0) 181 3 (jI fl)) 181 4 (jI ce)) 181 3 = jI fl := by rw [gI_n (by omega), gI_y ⟨rfl, rfl⟩]
  have e4 : mI (sI (sI (sI M 181 2 0) 181 3 (jI fl)) 181 4 (jI ce)) 181 4 = jI ce := gI_y ⟨rfl, rfl⟩
  have hD0 : Laid (sI (sI (sI M 181 2 0) 181 3 (jI fl)) 181 4 (jI ce)) a b := ⟨(Fr_I hF0 (sB_f (by omega) (by omega))).trans hD.1, (Fr_I hF0 (sB_f (by omega) (by omega))).trans hD.2.1, fun r p hp hr => hD.2.2 r p hp hr⟩
  refine ⟨kd_181 hL, kd_181 hL, kd_181 hL, 59, rfl, kd_59 hL, ?_⟩
  have hL0 := hF0.1 hL
  generalize sI (sI (sI M 181 2 0) 181 3 (jI fl)) 181 4 (jI ce) = M0 at *
  have h0 : KC M0 fl ce 0 (fun _ _ => False) M0 := ⟨Fr_r, 0, fun _ => 0, fun _ => 0, ⟨e2, fun k hk => absurd hk (by omega)⟩, ⟨fun k hk => absurd hk (by omega), fun k m km hm => absurd hm (by omega)⟩, by omega, fun n d hd => ⟨fun ⟨k, hk, _⟩ => absurd hk (by omega), fun z => z.2.2.elim⟩⟩
  have q0 := qd_b ga gb (show 0 < wn a by omega) (show 0 < wn b by omega)
  have q9 := qd_b ga gb (show wn a - 1 < wn a by omega) (show wn b - 1 < wn b by omega)
  refine w107_s hL0 hD0 ga gb ⟨kd_181 hL0, ?_⟩
  rw [jI_l (by omega) (by omega)]
  refine w110_k (d := 1) hL0 e3 e4 f0 f1 g0 g1 h0 (by omega) ⟨by omega, by omega, by omega, by omega⟩ (fun M1 h1 => ?_)
  have hL1 := h1.1.1 hL0
  have hD1 : Laid M1 a b := Laid_fr h1.1 (fun x k h => sB_f (by omega) (by omega)) ga gb hD0
  refine ⟨kd_59 hL1, w108_s hL1 hD1 ga gb ⟨kd_181 hL1, ?_⟩⟩
  rw [jI_l (by omega) (by omega)]
  refine w110_k (d := 1) hL0 e3 e4 f0 f1 g0 g1 h1 (by omega) ⟨by omega, by omega, by omega, by omega⟩ (fun M2 h2 => ?_)
  have h3 : KC M0 fl ce 2 (TU a b 0 0 0) M2 := KC_w h2 (by omega) (fun n d => by
    unfold TU isEn
    rw [Int.mul_one]
    exact ⟨fun z => Or.inl (z.imp (fun z => z.elim False.elim id) id), fun z => z.elim (fun z => z.imp Or.inr id) (fun z => absurd z TT_0)⟩)
  have rows : ∀ (q r : Nat) (M' : MM), r + q = 14 → KC M0 fl ce (2 + 36 * r) (TU a b r 0 0) M' → w109_38 (q + 1) 181 (some 59) (jI (r : Int)) M' P := by
    intro q
    induction q with
    | zero =>
      intro r M' hr h
      have : r = 14 := by omega
      subst this
      obtain ⟨k1, c, A, B, k2, k3, k4, k5⟩ := h
      exact br_t (by decide) (hX M' c A B (Fr_t hF0 (Fr_w k1 (fun x k z => sB_w (by omega) (by omega) x k z))) k2 k3 (by omega) k5)
    | succ q ih =>
      intro r M' hr h
      have hL' := h.1.1 hL0
      have y1 : mI M' 59 1 = jI ((wn a : Int) - 1) := (Fr_I h.1 (sB_f (by omega) (by omega))).trans hD0.1
      have y2 : mI M' 59 2 = jI ((wn b : Int) - 1) := (Fr_I h.1 (sB_f (by omega) (by omega))).trans hD0.2.1
      refine br_f (by rw [show (14 : Int32) = jI 14 from rfl, jI_le (by omega) (by omega) (by omega) (by omega)]; omega) ⟨59, rfl, kd_59 hL', w79_s hL' y1 y2 ga gb (by omega) ⟨rN a b r + 1, ?_⟩⟩
      exact w109_56_s hL0 hD0 ga gb e3 e4 f0 f1 g0 g1 (by omega) (fun M'' h'' => ih (r + 1) M'' (by omega) h'') (rN a b r) 0 M' (by omega) (KC_w h (by omega) (fun n d => Iff.rfl))
  exact ⟨15, rows 14 0 M2 (by omega) h3⟩
