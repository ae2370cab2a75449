/-! ===== queries: what a call may touch, ways on both sides, checked numbers ===== -/
def CWs (M : MM) (k : Nat) (W : Nat → WY) : Prop := mI M 0 6 = jI (k : Int) ∧ k ≤ 4 ∧ ∀ w, w < k → gW (W w) ∧ TrC M (191 + 3 * w) (W w)
def cnt (W : Nat → WY) (w : Nat) : Nat := wn (W w)
theorem CWs_CW {M : MM} {k : Nat} {W : Nat → WY} (hL : Lay M) (h : CWs M k W) : CW M k (cnt W) :=
  ⟨hL, by rw [nI_j]; exact h.1, h.2.1, fun j hj => ⟨by rw [nI_j]; exact (h.2.2 j hj).2.1, (h.2.2 j hj).1.1, (h.2.2 j hj).1.2.1⟩⟩
theorem RWs_RW {M : MM} {k : Nat} {W : Nat → WY} (hL : Lay M) (h : RWs M k W) : RW M k (cnt W) :=
  ⟨hL, by rw [nI_j]; exact h.1, h.2.1, fun j hj => ⟨by rw [nI_j]; exact (h.2.2 j hj).2.1, (h.2.2 j hj).1.1, (h.2.2 j hj).1.2.1⟩⟩
def sCQ : Nat → Nat → Bool := sB 0 10 10 55 190
def sMat : Nat → Nat → Bool := sB 0 1 0 58 183
def sRQ (x k : Nat) : Bool := (Nat.beq x 203 && (Nat.beq k 9 || (Nat.ble 27 k && Nat.ble k 66))) || (Nat.ble 210 x && Nat.ble x 234)
theorem sRQ_f {x k : Nat} (h1 : ¬ (x = 203 ∧ (k = 9 ∨ (27 ≤ k ∧ k ≤ 66)))) (h2 : ¬ (210 ≤ x ∧ x ≤ 234)) : sRQ x k = false := by
  unfold sRQ
  rw [Bool.or_eq_false_iff]
  refine ⟨Bool.eq_false_iff.mpr fun h => h1 ?_, Bool.eq_false_iff.mpr fun h => h2 ?_⟩
  · simp only [Bool.and_eq_true, Bool.or_eq_true, Nat.ble_eq] at h
    refine ⟨Nat.eq_of_beq_eq_true h.1, ?_⟩
    rcases h.2 with z | z
    · exact Or.inl (Nat.eq_of_beq_eq_true z)
    · exact Or.inr z
  · simpa only [Bool.and_eq_true, Nat.ble_eq] using h
theorem sRQ_1 {k : Nat} (h : k = 9 ∨ (27 ≤ k ∧ k ≤ 66)) : sRQ 203 k = true := by
  unfold sRQ
  rw [Bool.or_eq_true]
  left
  rw [Nat.beq_refl, Bool.true_and, Bool.or_eq_true]
  rcases h with h | h
  · exact Or.inl (bq_t h)
  · right; rw [Nat.ble_eq.mpr h.1, Nat.ble_eq.mpr h.2]; rfl
theorem sRQ_2 {x k : Nat} (h : 210 ≤ x ∧ x ≤ 234) : sRQ x k = true := by
  unfold sRQ
  rw [Nat.ble_eq.mpr h.1, Nat.ble_eq.mpr h.2, Bool.and_self, Bool.or_true]
theorem sFA_Q {x k : Nat} (h : sRQ x k = false) : sFA x k = false := by
  refine sFA_f (fun z => ?_) (fun z => ?_)
  · rw [z.1, sRQ_1 (by omega)] at h; cases h
  · rw [sRQ_2 (by omega)] at h; cases h
theorem sRL_Q {x k : Nat} (h : sRQ x k = false) : sRL x k = false := by
  refine sB_f (fun z => ?_) (fun z => ?_)
  · rw [z.1, sRQ_1 (by omega)] at h; cases h
  · rw [sRQ_2 (by omega)] at h; cases h
theorem CWs_fr {S : Nat → Nat → Bool} {M M' : MM} {k : Nat} {W : Nat → WY} (hF : Fr S M M') (h0 : S 0 6 = false) (hS : ∀ x q, 190 < x → x < 203 → S x q = false) (h : CWs M k W) : CWs M' k W := by
  refine ⟨(Fr_I hF h0).trans h.1, h.2.1, fun w hw => ⟨(h.2.2 w hw).1, ?_⟩⟩
  have k4 := h.2.1
  have q := (h.2.2 w hw).2
  exact ⟨(Fr_I hF (hS _ _ (by omega) (by omega))).trans q.1, fun i hi => ⟨(Fr_I hF (hS _ _ (by omega) (by omega))).trans (q.2 i hi).1, (Fr_I hF (hS _ _ (by omega) (by omega))).trans (q.2 i hi).2⟩⟩
theorem CWs_Q {M M' : MM} {k : Nat} {W : Nat → WY} (hF : Fr sCQ M M') (h : CWs M k W) : CWs M' k W := CWs_fr hF (sB_f (by omega) (by omega)) (fun x q h1 h2 => sB_f (by omega) (by omega)) h
theorem RWs_Q {M M' : MM} {k : Nat} {W : Nat → WY} (hF : Fr sRQ M M') (h : RWs M k W) : RWs M' k W := RWs_fr hF (sRQ_f (by omega) (by omega)) (fun q => sRQ_f (by omega) (by omega)) h
/-! numbers behind the checks -/
theorem isWb_j {k : Nat} {w : Int32} (hk : k ≤ 4) (h : isWb k w = true) : ∃ j : Nat, j < k ∧ w = jI (j : Int) := by
  obtain ⟨j, hj, e⟩ := isWb_of hk h
  exact ⟨j, hj, by rw [e, nI_j]⟩
theorem chk2_0 {k : Nat} {w o : Int32} (hk : k ≤ 4) (h : chk2 k w o = 0) : ∃ w' o' : Nat, w = jI (w' : Int) ∧ o = jI (o' : Int) ∧ w' < k ∧ o' < k ∧ w' ≠ o' := by
  unfold chk2 at h
  by_cases q : (isWb k w && isWb k o) = true
  · rw [if_pos q] at h
    obtain ⟨q1, q2⟩ := Bool.and_eq_true_iff.mp q
    obtain ⟨w', h1, e1⟩ := isWb_j hk q1
    obtain ⟨o', h2, e2⟩ := isWb_j hk q2
    refine ⟨w', o', e1, e2, h1, h2, fun e => ?_⟩
    rw [if_pos (by rw [e1, e2, e])] at h
    exact absurd h (by decide)
  · rw [if_neg q] at h
    exact absurd h (by decide)
theorem rng_j {n : Nat} {i : Int32} (hn : n < 2147483648) (h : decide (¬ i < 0 ∧ ¬ nI n ≤ i) = true) : ∃ j : Nat, j < n ∧ i = jI (j : Int) := by
  have q := of_decide_eq_true h
  obtain ⟨j, hj, rfl⟩ := nI_of q.1
  refine ⟨j, ?_, nI_j j⟩
  have := q.2
  rw [nI_leI (by omega) hj] at this
  omega
theorem jI_clw {w : Nat} (h : w < 4) : (jI (w : Int)).toNatClampNeg = w := jI_cn (by omega)
theorem chkS_0 {k : Nat} {c : Nat → Nat} {w o l i j : Int32} (hk : k ≤ 4) (hc : ∀ w, w < k → c w ≤ 8) (h : chkS k c w o l i j = 0) : ∃ w' o' i' j' : Nat, w = jI (w' : Int) ∧ o = jI (o' : Int) ∧ i = jI (i' : Int) ∧ j = jI (j' : Int) ∧ w' < k ∧ o' < k ∧ w' ≠ o' ∧ (if l = 0 then i' + 1 < c w' ∧ j' < c o' else i' < c w' ∧ j' + 1 < c o') := by
  unfold chkS at h
  have fin : ∀ b : Bool, (if b = true then (if w = o then (4 : Int32) else 0) else 2) = 0 → b = true ∧ w ≠ o := by
    intro b hb
    cases b with
    | false => rw [if_neg (by decide)] at hb; exact absurd hb (by decide)
    | true =>
      rw [if_pos rfl] at hb
      by_cases e : w = o
      · rw [if_pos e] at hb; exact absurd hb (by decide)
      · exact ⟨rfl, e⟩
  obtain ⟨hb, hne⟩ := fin _ h
  by_cases hl : l = 0
  · rw [if_pos hl] at hb
    obtain ⟨q1, q2⟩ := Bool.and_eq_true_iff.mp hb
    unfold isEb at q1
    unfold isPb at q2
    obtain ⟨a1, a2⟩ := Bool.and_eq_true_iff.mp q1
    obtain ⟨b1, b2⟩ := Bool.and_eq_true_iff.mp q2
    obtain ⟨w', h1, e1⟩ := isWb_j hk a1
    obtain ⟨o', h2, e2⟩ := isWb_j hk b1
    have c1 := hc w' h1
    have c2 := hc o' h2
    rw [e1, jI_clw (by omega)] at a2
    rw [e2, jI_clw (by omega)] at b2
    obtain ⟨i', h3, e3⟩ := rng_j (by omega) a2
    obtain ⟨j', h4, e4⟩ := rng_j (by omega) b2
    refine ⟨w', o', i', j', e1, e2, e3, e4, h1, h2, fun e => hne (by rw [e1, e2, e]), ?_⟩
    rw [if_pos hl]; omega
  · rw [if_neg hl] at hb
    obtain ⟨q1, q2⟩ := Bool.and_eq_true_iff.mp hb
    unfold isPb at q1
    unfold isEb at q2
    obtain ⟨a1, a2⟩ := Bool.and_eq_true_iff.mp q1
    obtain ⟨b1, b2⟩ := Bool.and_eq_true_iff.mp q2
    obtain ⟨w', h1, e1⟩ := isWb_j hk a1
    obtain ⟨o', h2, e2⟩ := isWb_j hk b1
    have c1 := hc w' h1
    have c2 := hc o' h2
    rw [e1, jI_clw (by omega)] at a2
    rw [e2, jI_clw (by omega)] at b2
    obtain ⟨i', h3, e3⟩ := rng_j (by omega) a2
    obtain ⟨j', h4, e4⟩ := rng_j (by omega) b2
    refine ⟨w', o', i', j', e1, e2, e3, e4, h1, h2, fun e => hne (by rw [e1, e2, e]), ?_⟩
    rw [if_neg hl]; omega
theorem lsb_j {n d : Int32} (h : lsb n d = true) : ∃ n' d' : Int, n = jI n' ∧ d = jI d' ∧ 0 ≤ n' ∧ n' ≤ 100000 ∧ 1 ≤ d' ∧ d' ≤ 1000 := by
  have q := of_decide_eq_true h
  obtain ⟨n', e1, a1, a2⟩ := jI_of n
  obtain ⟨d', e2, b1, b2⟩ := jI_of d
  subst e1 e2
  simp (disch := omega) only [jI_lit, jL_lit, jI_add, jI_sub, jI_mul, jI_neg, jL_add, jL_sub, jL_mul, jL_neg, jL_i, jI_eq, jI_le, jI_lt, jL_eq, jL_le, jL_lt, jI_l] at q
  exact ⟨n', d', rfl, rfl, by omega, by omega, by omega, by omega⟩
theorem gE_l {n d : Int} (h1 : 0 ≤ n) (h2 : n ≤ 100000) (h3 : 1 ≤ d) (h4 : d ≤ 1000) : gE n d := ⟨h1, by omega, by omega, by omega⟩
/-! the class's measured cells -/
def MS (M : MM) (a b : WY) (n d : Int) : Prop := mI M 59 1 = jI ((wn a : Int) - 1) ∧ mI M 59 2 = jI ((wn b : Int) - 1) ∧
  (∀ i j, i < wn a → j + 1 < wn b → sdE M (oF i j) (eL b j) (eF b j a i) (eS b j a i) n d ∧ mR M (oF i j) 10 = (lf (geo a b n d) i j).map (fun k => oF k j)) ∧
  (∀ i j, i + 1 < wn a → j < wn b → sdE M (oL i j) (eL a i) (eF a i b j) (eS a i b j) n d ∧ mR M (oL i j) 10 = (lw (geo a b n d) i j).map (fun k => oL i k))
theorem MS_of {M0 M : MM} {a b : WY} {n d : Int} (hld : Laid M0 a b) (h : ST M0 a b n d (lf (geo a b n d)) (lw (geo a b n d)) M) : MS M a b n d :=
  ⟨(Fr_I h.1 (sMea_f (by omega))).trans hld.1, (Fr_I h.1 (sMea_f (by omega))).trans hld.2.1, h.2.1, h.2.2⟩
theorem sLay_M {x k : Nat} (h : sMat x k = false) : sLay x k = false := by
  refine sB_f (fun z => ?_) (fun z => ?_)
  · rw [show sMat x k = sB 0 1 0 58 183 x k from rfl, sB_t2 (by omega)] at h; cases h
  · rw [show sMat x k = sB 0 1 0 58 183 x k from rfl, sB_t2 (by omega)] at h; cases h
theorem sMea_M {x k : Nat} (h : sMat x k = false) : sMea x k = false := by
  refine sMea_f ?_
  by_cases z : 63 ≤ x ∧ x ≤ 174
  · rw [show sMat x k = sB 0 1 0 58 183 x k from rfl, sB_t2 (by omega)] at h; cases h
  · omega
/-- cells laid and measured for two tracks -/
theorem lay_meas {M : MM} {t u : Nat} {a b : WY} {n d : Int} {P : MM → Prop} (hL : Lay M) (ht : isT t = true) (hu : isT u = true) (hA : TrC M t a) (hB : TrC M u b) (ga : gW a) (gb : gW b) (hE : gE n d) (hX : ∀ M', Fr sMat M M' → MS M' a b n d → P M') : w78 59 (some t) (some u) M (fun M5 => kd M5 59 1 ∧ w80 59 (jL n) (jL d) M5 P) := by
  refine w78_s hL ht hu hA hB ga gb (fun M1 h1 => ?_)
  have hL1 := h1.1.1 hL
  refine ⟨kd_59 hL1, w80_s hL1 (Laid_LI h1) ga gb hE (fun M2 h2 => ?_)⟩
  exact hX M2 (Fr_t (Fr_w h1.1 (fun x k => sLay_M)) (Fr_w h2.1 (fun x k => sMea_M))) (MS_of (Laid_LI h1) h2)
theorem i19 {M : MM} (h : Lay M) {k : Nat} (q : k < 4) : inb M 19 16 (jI (k : Int)) := by rw [← nI_j]; exact in_19 h q
theorem w77_s {M : MM} {k w o : Nat} {W : Nat → WY} {n d : Int} {P : Option Nat → MM → Prop} (hL : Lay M) (hW : CWs M k W) (hw : w < k) (ho : o < k) (h1 : 0 ≤ n) (h2 : n ≤ 100000) (h3 : 1 ≤ d) (h4 : d ≤ 1000) (hX : ∀ M', Fr sMat M M' → MS M' (W w) (W o) n d → P (some 59) M') : w77 0 (jI (w : Int)) (jI (o : Int)) (jI n) (jI d) M P := by
  have k4 := hW.2.1
  have qw := hW.2.2 w hw
  have qo := hW.2.2 o ho
  simp (disch := omega) only [w77, kd_sI, kd_sL, kd_sR, true_and, and_true, Option.some.injEq, exists_eq_left', kd_0 hL, rf_0_15 hL, kd_58 hL, rf_0_5 hL, i19 hL, rf_58_0 hL, kd_59 hL, jI_cn, rf_19 hL, jI_l]
  exact lay_meas hL (isT_way (by omega)) (isT_way (by omega)) qw.2 qo.2 qw.1 qo.1 (gE_l h1 h2 h3 h4) hX
theorem sMat_Q {x k : Nat} (h : sCQ x k = false) : sMat x k = false := by
  refine sB_f (by omega) (fun z => ?_)
  rw [show sCQ x k = sB 0 10 10 55 190 x k from rfl, sB_t2 (by omega)] at h; cases h
