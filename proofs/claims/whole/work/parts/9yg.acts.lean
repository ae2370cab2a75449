/-! ===== acts that are kept, in the class ===== -/
def tkS (q j : Nat) : Nat := (q + 9 - j) % 10
def sAc : Nat → Nat → Bool := sB 20 2 3 22 52
def sOw (o : Nat) : Nat → Nat → Bool := fun x k => sB 0 10 10 (191 + 3 * o) (193 + 3 * o) x k || sB 0 10 10 185 190 x k
def sCA : Nat → Nat → Bool := fun x k => sB 0 10 10 20 52 x k || sB 0 10 10 185 202 x k
theorem sOw_f {o x k : Nat} (h : ¬ (x = 0 ∧ k = 10)) (h1 : ¬ (191 + 3 * o ≤ x ∧ x ≤ 193 + 3 * o)) (h2 : ¬ (185 ≤ x ∧ x ≤ 190)) : sOw o x k = false := by
  unfold sOw
  rw [sB_f (by omega) h1, sB_f (by omega) h2]; rfl
theorem sOw_0 {o : Nat} : sOw o 0 10 = true := by unfold sOw; rw [sB_t1 (by omega)]; rfl
theorem sOw_1 {o x k : Nat} (h1 : 191 + 3 * o ≤ x ∧ x ≤ 193 + 3 * o) : sOw o x k = true := by unfold sOw; rw [sB_t2 h1]; rfl
theorem sOw_2 {o x k : Nat} (h1 : 185 ≤ x ∧ x ≤ 190) : sOw o x k = true := by unfold sOw; rw [sB_t2 (o := 0) (c := 10) (d := 10) (a := 185) h1, Bool.or_true]
theorem sCA_f {x k : Nat} (h : ¬ (x = 0 ∧ k = 10)) (h1 : ¬ (20 ≤ x ∧ x ≤ 52)) (h2 : ¬ (185 ≤ x ∧ x ≤ 202)) : sCA x k = false := by
  unfold sCA
  rw [sB_f (by omega) h1, sB_f (by omega) h2]; rfl
theorem sCA_i {x k : Nat} (h : sCA x k = false) : ¬ (x = 0 ∧ k = 10) ∧ ¬ (20 ≤ x ∧ x ≤ 52) ∧ ¬ (185 ≤ x ∧ x ≤ 202) := by
  unfold sCA at h
  have h' := Bool.or_eq_false_iff.mp h
  refine ⟨fun z => ?_, fun z => ?_, fun z => ?_⟩
  · rw [z.1, z.2] at h'; exact absurd h'.1 (by rw [sB_t1 (by omega)]; decide)
  · exact absurd h'.1 (by rw [sB_t2 z]; decide)
  · exact absurd h'.2 (by rw [sB_t2 z]; decide)
theorem sAc_A {x k : Nat} (h : sCA x k = false) : sAc x k = false := by have := sCA_i h; exact sB_f (by omega) (by omega)
theorem sOw_A {o x k : Nat} (ho : o < 4) (h : sCA x k = false) : sOw o x k = false := by have := sCA_i h; exact sOw_f (by omega) (by omega) (by omega)
/-- the class keeps, for the act j back, its owner and the owner's way ahead of it -/
def CAc (M : MM) (q A : Nat) (S : Nat → Nat → WY) (O : Nat → Nat) (N : Nat → Int64) : Prop :=
  mI M 20 2 = jI (q : Int) ∧ q < 10 ∧ mI M 20 3 = jI (A : Int) ∧ A ≤ 10 ∧ ∀ j, j < A → mI M 22 (tkS q j) = jI (O j : Int) ∧ TrC M (23 + 3 * tkS q j) (S (j + 1) (O j)) ∧ mL M (23 + 3 * tkS q j) 0 = N (O j)
/-- the ways, by acts back -/
def Hst (k A : Nat) (S : Nat → Nat → WY) (O : Nat → Nat) : Prop := ∀ j, j < A → O j < k ∧ ∀ w, w < k → gW (S (j + 1) w) ∧ (w ≠ O j → S (j + 1) w = S j w)
def CN (M : MM) (k : Nat) (N : Nat → Int64) : Prop := ∀ w, w < k → mL M (191 + 3 * w) 0 = N w
def psh {α : Type} (x : α) (f : Nat → α) : Nat → α
  | 0 => x
  | j + 1 => f j
def upW (W : Nat → WY) (o : Nat) (a : WY) : Nat → WY := fun w => if w = o then a else W w
def CA (M : MM) (k q A : Nat) (S : Nat → Nat → WY) (O : Nat → Nat) (N : Nat → Int64) : Prop := CWs M k (S 0) ∧ CN M k N ∧ CAc M q A S O N ∧ Hst k A S O
theorem tkS_b {q j : Nat} : tkS q j < 10 := Nat.mod_lt _ (by omega)
theorem CAc_fr {T : Nat → Nat → Bool} {M M' : MM} {q A : Nat} {S : Nat → Nat → WY} {O : Nat → Nat} {N : Nat → Int64} (hF : Fr T M M') (hT : ∀ x k, 20 ≤ x → x ≤ 52 → T x k = false) (h : CAc M q A S O N) : CAc M' q A S O N :=
  ⟨(Fr_I hF (hT _ _ (by omega) (by omega))).trans h.1, h.2.1, (Fr_I hF (hT _ _ (by omega) (by omega))).trans h.2.2.1, h.2.2.2.1, fun j hj => by
    have e := h.2.2.2.2 j hj
    have b := tkS_b (q := q) (j := j)
    exact ⟨(Fr_I hF (hT _ _ (by omega) (by omega))).trans e.1, TrC_fr2 hF (fun x k h1 h2 => hT _ _ (by omega) (by omega)) e.2.1, (Fr_L hF (hT _ _ (by omega) (by omega))).trans e.2.2⟩⟩
theorem CA_fr {T : Nat → Nat → Bool} {M M' : MM} {k q A : Nat} {S : Nat → Nat → WY} {O : Nat → Nat} {N : Nat → Int64} (hF : Fr T M M') (h1 : ∀ x k, 20 ≤ x → x ≤ 52 → T x k = false) (h2 : ∀ x k, 191 ≤ x → x ≤ 202 → T x k = false) (h3 : T 0 6 = false) (h : CA M k q A S O N) : CA M' k q A S O N := by
  have k4 := h.1.2.1
  exact ⟨⟨(Fr_I hF h3).trans h.1.1, k4, fun w hw => ⟨(h.1.2.2 w hw).1, TrC_fr2 hF (fun x k h1 h2' => h2 _ _ (by omega) (by omega)) (h.1.2.2 w hw).2⟩⟩, fun w hw => (Fr_L hF (h2 _ _ (by omega) (by omega))).trans (h.2.1 w hw), CAc_fr hF h1 h.2.2.1, h.2.2.2⟩
theorem w31_s {M : MM} {t u : Nat} {b : WY} {P : MM → Prop} (hL : Lay M) (ht : isT t = true) (hu : isT u = true) (ha : aprt t u) (hB : TrC M t b) (b1 : 1 ≤ wn b) (b8 : wn b ≤ 8) (hX : ∀ M', Fr (sTk u) M M' → TrC M' u b → mL M' u 0 = mL M t 0 → P M') : w31 u (some t) M P := by
  refine ⟨t, rfl, kd_T hL ht, kd_T hL hu, ?_⟩
  have e : mI M t 1 - 1 = jI ((wn b - 1 : Nat) : Int) := by
    rw [hB.1, show (1 : Int32) = jI 1 from rfl, jI_sub]
    exact congrArg jI (by omega)
  rw [e]
  refine w32_s (i := 0) hL ht hu ha hB b8 (Nat.zero_le _) (by omega) (fun M' hF hT hN => hX M' hF (TrC_c hT ⟨?_, fun i _ => ?_⟩) hN)
  · show wn b - 1 + 1 - 0 = wn b
    omega
  · exact ⟨congrArg (wx b) (Nat.zero_add i), congrArg (wy b) (Nat.zero_add i)⟩
theorem w152_s {M : MM} {q A o : Nat} {S : Nat → Nat → WY} {W' : Nat → WY} {O : Nat → Nat} {N : Nat → Int64} {P : MM → Prop} (hL : Lay M) (hA : CAc M q A S O N) (ho : o < 4) (hT : TrC M (191 + 3 * o) (S 0 o)) (g : gW (S 0 o)) (hN : mL M (191 + 3 * o) 0 = N o) (hX : ∀ M' q', Fr sAc M M' → CAc M' q' (min (A + 1) 10) (psh W' S) (psh o O) N → P M') : w152 20 (jI (o : Int)) (some (191 + 3 * o)) M P := by
  obtain ⟨h1, q1, h2, a1, h3⟩ := hA
  have g1 := g.1
  unfold w152
  rw [h1, jI_cn (by omega)]
  refine ⟨kd_20 hL, kd_20 hL, 21, rf_20_0 hL, by rw [← nI_j]; exact in_21 hL q1, 23 + 3 * q, rf_21 hL q1, kd_T hL (isT_kept q1), w31_s hL (isT_way ho) (isT_kept q1) (Or.inr (by omega)) hT (by omega) g.2.1 (fun M1 f1 t1 n1 => ?_)⟩
  have hL1 := f1.1 hL
  have r2 : mI M1 20 2 = jI (q : Int) := (Fr_I f1 (sB_f (by omega) (by omega))).trans h1
  have r3 : mI M1 20 3 = jI (A : Int) := (Fr_I f1 (sB_f (by omega) (by omega))).trans h2
  rw [r2, jI_cn (by omega)]
  refine ⟨kd_20 hL1, kd_20 hL1, 22, rf_20_1 hL1, by rw [← nI_j]; exact in_22 hL1 q1, kd_20 hL1, ?_⟩
  rw [gI_n (by omega), r2]
  have fin : ∀ v : Int32, v = jI (((q + 1) % 10 : Nat) : Int) → w152_43 20 (some 20) v (sI M1 22 q (jI (o : Int))) P := fun v ev => by
    refine ⟨20, rfl, kd_20 hL1, kd_20 hL1, ?_⟩
    rw [gI_n (by omega), gI_n (by omega), r3, show (1 : Int32) = jI 1 from rfl, show (10 : Int32) = jI 10 from rfl, jI_add]
    refine w70_s (by omega) (by omega) (by omega) (by omega) ⟨kd_20 hL1, hX _ ((q + 1) % 10) ?_ ?_⟩
    · refine Fr_sI (Fr_sI (Fr_sI (Fr_w f1 (fun x k z => ?_)) (sB_t2 (by omega))) (sB_t1 (by omega))) (sB_t1 (by omega))
      refine sB_f (fun y => ?_) (fun y => ?_)
      · rw [show sAc x k = true from sB_t2 (by omega)] at z; cases z
      · rw [show sAc x k = true from sB_t2 (by omega)] at z; cases z
    · refine ⟨by rw [gI_n (by omega), gI_y ⟨rfl, rfl⟩, ev], Nat.mod_lt _ (by omega), ?_, Nat.min_le_right _ _, fun j hj => ?_⟩
      · rw [gI_y ⟨rfl, rfl⟩]
        exact congrArg jI (by omega)
      · cases j with
        | zero =>
          have e : tkS ((q + 1) % 10) 0 = q := by unfold tkS; omega
          rw [e]
          refine ⟨by rw [gI_n (by omega), gI_n (by omega), gI_y ⟨rfl, rfl⟩]; rfl, ?_, n1.trans hN⟩
          refine TrC_fr2 (S := sB 20 2 3 22 22) (Fr_sI (Fr_sI (Fr_sI Fr_r (sB_t2 (by omega))) (sB_t1 (by omega))) (sB_t1 (by omega))) (fun x k y1 y2 => sB_f (by omega) (by omega)) t1
        | succ j =>
          have e : tkS ((q + 1) % 10) (j + 1) = tkS q j := by unfold tkS; omega
          have ne : tkS q j ≠ q := by unfold tkS; omega
          have tb := tkS_b (q := q) (j := j)
          have z := h3 j (by omega)
          rw [e]
          refine ⟨?_, ?_, ?_⟩
          · rw [gI_n (by omega), gI_n (by omega), gI_n (by omega)]
            exact (Fr_I f1 (sB_f (by omega) (by omega))).trans z.1
          · refine TrC_fr2 (S := sB 20 2 3 22 22) (Fr_sI (Fr_sI (Fr_sI Fr_r (sB_t2 (by omega))) (sB_t1 (by omega))) (sB_t1 (by omega))) (fun x k y1 y2 => sB_f (by omega) (by omega)) (TrC_k f1 ?_ z.2.1)
            unfold aprt; omega
          · exact (Fr_L f1 (sB_f (by omega) (by omega))).trans z.2.2
  have e9 : (9 : Int32) = jI 9 := rfl
  rw [e9, ne_eq, jI_eq (by omega) (by omega) (by omega) (by omega)]
  refine ⟨fun z => ⟨kd_20 hL1, fin _ ?_⟩, fun z => fin _ ?_⟩
  · rw [show (1 : Int32) = jI 1 from rfl, jI_add]
    exact congrArg jI (by omega)
  · rw [show (0 : Int32) = jI 0 from rfl]
    exact congrArg jI (by omega)
theorem CA_act {M M1 M' : MM} {k q q' A o : Nat} {S : Nat → Nat → WY} {O : Nat → Nat} {N : Nat → Int64} {a : WY} (h : CA M k q A S O N) (ho : o < k) (f1 : Fr sAc M M1) (c1 : CAc M1 q' (min (A + 1) 10) (psh (upW (S 0) o a) S) (psh o O) N) (f2 : Fr (sOw o) M1 M') (t : TrC M' (191 + 3 * o) a) (n : mL M' (191 + 3 * o) 0 = mL M (191 + 3 * o) 0) (g : gW a) : CA M' k q' (min (A + 1) 10) (psh (upW (S 0) o a) S) (psh o O) N ∧ Fr sCA M M' := by
  have k4 := h.1.2.1
  refine ⟨⟨⟨?_, k4, fun w hw => ?_⟩, fun w hw => ?_, CAc_fr f2 (fun x k y1 y2 => sOw_f (by omega) (by omega) (by omega)) c1, fun j hj => ?_⟩, Fr_t (Fr_w f1 (fun x k => sAc_A)) (Fr_w f2 (fun x k => sOw_A (by omega)))⟩
  · exact ((Fr_I f2 (sOw_f (by omega) (by omega) (by omega))).trans (Fr_I f1 (sB_f (by omega) (by omega)))).trans h.1.1
  · show gW (upW (S 0) o a w) ∧ TrC M' (191 + 3 * w) (upW (S 0) o a w)
    unfold upW
    by_cases c : w = o
    · subst c; rw [if_pos rfl]; exact ⟨g, t⟩
    · rw [if_neg c]
      refine ⟨(h.1.2.2 w hw).1, TrC_fr2 f2 (fun x k y1 y2 => sOw_f (by omega) (by omega) (by omega)) (TrC_fr2 f1 (fun x k y1 y2 => sB_f (by omega) (by omega)) (h.1.2.2 w hw).2)⟩
  · by_cases c : w = o
    · subst c; exact n.trans (h.2.1 w hw)
    · exact ((Fr_L f2 (sOw_f (by omega) (by omega) (by omega))).trans (Fr_L f1 (sB_f (by omega) (by omega)))).trans (h.2.1 w hw)
  · cases j with
    | zero => exact ⟨ho, fun w hw => ⟨(h.1.2.2 w hw).1, fun c => (if_neg c).symm⟩⟩
    | succ j => exact h.2.2.2 j (by omega)
/-- what an act does to the ways, and to the acts back -/
def acA (x : Option (Nat × WY)) (A : Nat) : Nat := if x.isSome = true then min (A + 1) 10 else A
def acS (x : Option (Nat × WY)) (S : Nat → Nat → WY) : Nat → Nat → WY := match x with
  | none => S
  | some (o, a) => psh (upW (S 0) o a) S
def acO (x : Option (Nat × WY)) (O : Nat → Nat) : Nat → Nat := match x with
  | none => O
  | some (o, _) => psh o O
theorem CA_s {M : MM} {k q A : Nat} {S : Nat → Nat → WY} {O : Nat → Nat} {N : Nat → Int64} {v : Int32} (h : CA M k q A S O N) : CA (sI M 0 10 v) k q A S O N := CA_fr (Fr_sI (S := sB 0 10 10 1 0) Fr_r (sB_t1 (by omega))) (fun x k y1 y2 => sB_f (by omega) (by omega)) (fun x k y1 y2 => sB_f (by omega) (by omega)) (sB_f (by omega) (by omega)) h
theorem FrA_0 {M : MM} {v : Int32} : Fr sCA M (sI M 0 10 v) := Fr_sI Fr_r (by unfold sCA; rw [sB_t1 (by omega)]; rfl)
/-- turn -/
def turA (k : Nat) (W : Nat → WY) (l1 : Int32) : Option (Nat × WY) × Int32 × Int32 :=
  if isWb k l1 = true then (some (l1.toNatClampNeg, tw (W l1.toNatClampNeg)), jI (wn (W l1.toNatClampNeg) : Int), 0) else (none, -1, 2)
theorem w156_q {M : MM} {k q A : Nat} {S : Nat → Nat → WY} {O : Nat → Nat} {N : Nat → Int64} {l1 : Int32} {P : Int32 → MM → Prop} (hL : Lay M) (hC : CA M k q A S O N) (hX : ∀ M' x r st q', Fr sCA M M' → mI M' 0 10 = st → (x, r, st) = turA k (S 0) l1 → CA M' k q' (acA x A) (acS x S) (acO x O) N → P r M') : w156 0 l1 M P := by
  have hW := hC.1
  have k4 := hW.2.1
  unfold turA at hX
  refine ⟨kd_0 hL, w40_s (CWs_CW hL hW) ?_⟩
  cases c1 : isWb k l1 with
  | false =>
    rw [c1, if_neg (by decide)] at hX
    exact br_f (fun z => z rfl) ⟨kd_0 hL, kd_0 hL, hX _ _ _ _ q FrA_0 (gI_y ⟨rfl, rfl⟩) rfl (CA_s hC)⟩
  | true =>
    rw [c1, if_pos rfl] at hX
    obtain ⟨o, ho, rfl⟩ := isWb_j k4 c1
    have e3 : (jI (o : Int)).toNatClampNeg = o := jI_cn (by omega)
    rw [e3] at hX
    have ga := (hW.2.2 o ho).1
    have a1 := ga.1
    have tT : isT (191 + 3 * o) = true := isT_way (by omega)
    refine br_t (by decide) ⟨kd_0 hL, kd_0 hL, 19, rf_0_5 hL, i19 hL (by omega), 20, rf_0_7 hL, kd_20 hL, ?_⟩
    rw [e3, rf_19 hL (by omega)]
    refine w152_s (W' := upW (S 0) o (tw (S 0 o))) hL hC.2.2.1 (by omega) (hW.2.2 o ho).2 ga (hC.2.1 o ho) (fun M1 q1 f1 c1 => ?_)
    have hL1 := f1.1 hL
    refine ⟨kd_0 hL1, kd_0 hL1, 19, rf_0_5 hL1, i19 hL1 (by omega), 185, rf_0_17 hL1, kd_T hL1 isT_185, ?_⟩
    rw [rf_19 hL1 (by omega)]
    refine w144_s hL1 tT isT_185 (Or.inr (by omega)) (TrC_fr2 f1 (fun x k y1 y2 => sB_f (by omega) (by omega)) (hW.2.2 o ho).2) (by omega) ga.2.1 (fun M2 f2 t2 n2 => ?_)
    have hL2 := f2.1 hL1
    refine ⟨kd_0 hL2, 19, rf_0_5 hL2, i19 hL2 (by omega), kd_0 hL2, 191 + 3 * o, rf_19 hL2 (by omega), kd_T hL2 tT, ?_⟩
    rw [rf_0_17 hL2]
    refine w31_s hL2 isT_185 tT (Or.inl (by omega)) t2 (show 1 ≤ wn (S 0 o) by omega) (show wn (S 0 o) ≤ 8 from ga.2.1) (fun M3 f3 t3 n3 => ?_)
    have hL3 := f3.1 hL2
    refine ⟨kd_0 hL3, 19, rf_0_5 hL3, i19 hL3 (by omega), 191 + 3 * o, rf_19 hL3 (by omega), kd_T hL3 tT, kd_0 hL3, kd_0 hL3, ?_⟩
    rw [t3.1]
    have fo : Fr (sOw o) M1 (sI M3 0 10 0) := Fr_sI (Fr_t (Fr_w f2 (fun x k z => ?_)) (Fr_w f3 (fun x k z => ?_))) sOw_0
    · obtain ⟨r1, r2⟩ := CA_act hC ho f1 c1 fo (TrC_fr2 (S := sB 0 10 10 1 0) (Fr_sI Fr_r (sB_t1 (by omega))) (fun x k y1 y2 => sB_f (by omega) (by omega)) t3) ((n3.trans n2).trans (Fr_L f1 (sB_f (by omega) (by omega)))) (tw_g ga)
      exact hX _ _ _ _ q1 r2 (gI_y ⟨rfl, rfl⟩) rfl r1
    · refine sB_f (fun y => ?_) (fun y => ?_)
      · rw [sOw_2 (by omega)] at z; cases z
      · rw [sOw_2 (by omega)] at z; cases z
    · refine sB_f (fun y => ?_) (fun y => ?_)
      · rw [sOw_1 (by omega)] at z; cases z
      · rw [sOw_1 (by omega)] at z; cases z
