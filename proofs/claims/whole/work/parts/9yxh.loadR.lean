/-! ===== load in the reference ===== -/
def sLO : Nat → Nat → Bool := fun x k => sRW x k || (sLq x k || (sB 203 8 11 1 0 x k || sB 203 15 15 1 0 x k))
theorem sLO_f {x k : Nat} (h : ¬ (x = 203 ∧ ((5 ≤ k ∧ k ≤ 6) ∨ (8 ≤ k ∧ k ≤ 12) ∨ (15 ≤ k ∧ k ≤ 22)))) (h1 : ¬ (204 ≤ x ∧ x ≤ 205)) (h2 : ¬ (207 ≤ x ∧ x ≤ 208)) : sLO x k = false := by
  unfold sLO
  rw [sRW_f (by omega) (by omega) (by omega), sLq_f (by omega) (by omega) (by omega), sB_f (by omega) (by omega), sB_f (by omega) (by omega)]; rfl
theorem sLO_w {x k : Nat} (h : sLO x k = false) : sRW x k = false := (Bool.or_eq_false_iff.mp h).1
theorem sLO_q {x k : Nat} (h : sLO x k = false) : sLq x k = false := (Bool.or_eq_false_iff.mp (Bool.or_eq_false_iff.mp h).2).1
theorem sLO_8 {k : Nat} (h : 8 ≤ k ∧ k ≤ 11) : sLO 203 k = true := by unfold sLO; rw [sB_t1 h, Bool.true_or, Bool.or_true, Bool.or_true]
theorem sLO_5 : sLO 203 15 = true := rfl
theorem sLO_1 {k : Nat} (h : 16 ≤ k ∧ k ≤ 22) : sLO 203 k = true := by unfold sLO; rw [sRW_1 h, Bool.true_or]
theorem sLO_6 : sLO 203 6 = true := rfl
theorem sLO_g {x k : Nat} (z : sLO x k = false) : sGo x k = false := sRW_g (sLO_w z)
/-- all ways -/
theorem w165_54_s {T : Nat → Nat} {n : Nat} {P : Int32 → MM → Prop} {M0 : MM} {b : Nat × Nat × PS}
    (hX1 : ∀ M' s' (pl : Nat), Fr sRW M0 M' → Lay M' → b = (0, pl, s') → RPs M' s' → PIv s' → s'.1 = 0 → RF0 M' → w165_73 203 1 M' P)
    (hX0 : ∀ M' (f pl : Nat) s', Fr sRW M0 M' → Lay M' → b = (f, pl, s') → f ≠ 0 → mI M' 203 20 = jI (f : Int) → mI M' 203 21 = jI (pl : Int) → w165_73 203 0 M' P) :
    ∀ (r : Nat) (M : MM) (q m : Nat) (s : PS), n ≤ q + r → Fr sRW M0 M → Lay M → RBy M n T → RTk M T n q → q ≤ n → RPs M s → PIv s → s.1 = 0 → RF0 M → n ≤ q + m → b = bq T n m s q → w165_54 (r + 2) 203 1 M P := by
  intro r
  induction r with
  | zero =>
    intro M q m s hr hF hL hB hK qn hS hI h0 hZ hm hb
    have t4 := tk_4 (T := T) (n := n) (q := q)
    have k4 : tk T n q = 4 := by omega
    refine br_f (by decide) ⟨kd_203 hL, br_t ?_ (hX1 M s q hF hL (hb.trans (bq_e k4 h0)) hS hI h0 hZ)⟩
    rw [hK.2.1, k4]; rfl
  | succ r ih =>
    intro M q m s hr hF hL hB hK qn hS hI h0 hZ hm hb
    have t4 := tk_4 (T := T) (n := n) (q := q)
    by_cases k4 : tk T n q = 4
    · refine br_f (by decide) ⟨kd_203 hL, br_t ?_ (hX1 M s q hF hL (hb.trans (bq_e k4 h0)) hS hI h0 hZ)⟩
      rw [hK.2.1, k4]; rfl
    · have r0 := rk_0 t4.1
      have rb := rk_b t4.1
      refine br_f (by decide) ⟨kd_203 hL, br_f ?_ ⟨kd_203 hL, w172_s hL hB hK qn hS hI h0 hZ k4 hm (fun M' s' q' m' z1 z2 z3 z4 z5 z6 z7 z8 z9 z10 => ?_) (fun M' f pl s' z1 z2 z3 z4 z5 => ?_)⟩⟩
      · rw [hK.2.1, show (0 : Int32) = jI 0 from rfl, jI_eq (by omega) (by omega) (by omega) (by omega)]; omega
      · exact ih M' q' m' s' (by omega) (Fr_t hF z4) (z4.1 hL) (RBy_w z4 hB) z6 z2 z7 z8 z9 z10 z1 (hb.trans z5)
      · exact br_t rfl (hX0 M' f pl s' (Fr_t hF z1) (z1.1 hL) (hb.trans z2) z3 z4 z5)
/-- isFrom -/
theorem w166_n {M : MM} {t : Nat} {l1 : Int32} {P : Int32 → MM → Prop} (t7 : t ≤ 700) (hX1 : (¬ ∃ n : Nat, n ≤ t ∧ l1 = jI (n : Int)) → P 0 M) (hX2 : ∀ n : Nat, n ≤ t → l1 = jI (n : Int) → P 1 M) : w166 l1 0 (jI (t : Int)) M P := by
  have no : (¬ ∃ n : Nat, n ≤ t ∧ l1 = jI (n : Int)) → w166_14 M P := fun z => ⟨Or.inl rfl, hX1 z⟩
  unfold w166
  refine ⟨fun z => no (fun ⟨n, hn, e⟩ => ?_), fun z => ⟨fun y => no (fun ⟨n, hn, e⟩ => ?_), fun y => ⟨Or.inr rfl, ?_⟩⟩⟩
  · rw [e, show (0 : Int32) = jI 0 from rfl, jI_lt (by omega) (by omega) (by omega) (by omega)] at z; omega
  · rw [e, jI_lt (by omega) (by omega) (by omega) (by omega)] at y; omega
  · have y0 := Int32.le_iff_toInt_le.mp (Int32.not_lt.mp z)
    have y1 := Int32.le_iff_toInt_le.mp (Int32.not_lt.mp y)
    rw [jI_toInt (by omega) (by omega)] at y1
    have y0' : (0 : Int) ≤ l1.toInt := y0
    exact hX2 l1.toInt.toNat (by omega) (Int32.toInt_inj.mp (by rw [jI_toInt (by omega) (by omega)]; omega))
theorem RPs_0 {M : MM} (h : mI M 203 6 = 0) : RPs M ps0 := ⟨h, fun w hw => absurd (show w < 0 from hw) (by omega)⟩
theorem w165_q {M : MM} {t : Nat} {T : Nat → Nat} {l1 : Int32} {P : Int32 → MM → Prop} (hL : Lay M) (hT : RTp M t T) (hBT : BT t T) (hX1 : (¬ ∃ n : Nat, n ≤ t ∧ l1 = jI (n : Int)) → ∀ M', Fr sRQ M M' → mI M' 203 9 = 1 → P (-1) M')
    (hX2 : ∀ (n : Nat) M' (f pl : Nat) (s' : PS), n ≤ t → l1 = jI (n : Int) → Fr sLO M M' → mI M' 203 8 = 0 → mI M' 203 10 = jI (f : Int) → mI M' 203 11 = jI (pl : Int) → mI M' 203 9 = 9 → (f, pl, s') = prs T n (n + 1) ps0 0 → f ≠ 0 → mI M' 203 5 = mI M 203 5 → mI M' 203 12 = mI M 203 12 → (∀ k, mI M' 204 k = mI M 204 k) → (∀ k, mL M' 207 k = mL M 207 k) → P (-1) M')
    (hX3 : ∀ (n : Nat) M' (pl : Nat) (s' : PS), n ≤ t → l1 = jI (n : Int) → Fr sLO M M' → mI M' 203 8 = 0 → mI M' 203 10 = 0 → mI M' 203 11 = -1 → mI M' 203 9 = 0 → (0, pl, s') = prs T n (n + 1) ps0 0 → PIv s' → s'.1 = 0 → RWs M' s'.2.1 s'.2.2.2.1 → (∀ w, w < s'.2.1 → mL M' 207 w = jL (nv 32 0 (s'.2.2.1 w) : Int)) → mI M' 203 12 = 0 → P (jI (s'.2.1 : Int)) M') : w165 203 l1 M P := by
  have t7 := hT.2.1
  unfold w165
  rw [hT.1]
  refine ⟨kd_203 hL, w166_n t7 (fun z => br_f (by decide) ⟨kd_203 hL, kd_203 hL, ?_⟩) (fun n hn e => br_t (by decide) ⟨kd_203 hL, kd_203 hL, kd_203 hL, kd_203 hL, kd_203 hL, kd_203 hL, kd_203 hL, ?_⟩)⟩
  · refine hX1 z _ (Fr_sI Fr_r ?_) (gI_y ⟨rfl, rfl⟩)
    rfl
  · have fa : Fr sLO M (sI (sI (sI (sI (sI (sI M 203 15 l1) 203 8 0) 203 17 0) 203 20 0) 203 21 (-1)) 203 6 0) := Fr_sI (Fr_sI (Fr_sI (Fr_sI (Fr_sI (Fr_sI Fr_r sLO_5) (sLO_8 (by omega))) (sLO_1 (by omega))) (sLO_1 (by omega))) (sLO_1 (by omega))) sLO_6
    have B0 : RBy (sI (sI (sI (sI (sI (sI M 203 15 l1) 203 8 0) 203 17 0) 203 20 0) 203 21 (-1)) 203 6 0) n T := by
      refine ⟨?_, by omega, fun i hi => ⟨(Fr_I fa (sLO_f (by omega) (by omega) (by omega))).trans (hT.2.2 i (by omega)), hBT i (by omega)⟩⟩
      rw [gI_n (by omega), gI_n (by omega), gI_n (by omega), gI_n (by omega), gI_n (by omega), gI_y ⟨rfl, rfl⟩, e]
    refine w168_s (p := 0) hL B0 (by omega) (by rw [gI_n (by omega), gI_n (by omega), gI_n (by omega), gI_y ⟨rfl, rfl⟩]; rfl) (fun M1 f1 k1 => ⟨n + 2, ?_⟩)
    have sb := sk_b (T := T) (n := n) (p := 0) (by omega)
    have fb : Fr sLO M M1 := Fr_t fa (Fr_w f1 (fun x k => sLO_g))
    have e8 : mI M1 203 8 = 0 := (Fr_I f1 (sGo_f (by omega))).trans (by rw [gI_n (by omega), gI_n (by omega), gI_n (by omega), gI_n (by omega), gI_y ⟨rfl, rfl⟩])
    have hp : prs T n (n + 1) ps0 0 = bq T n n ps0 (sk T n 0) := prs_b
    have lk : ∀ {M' : MM}, Fr sRW M1 M' → (mI M' 203 8 = 0 ∧ mI M' 203 5 = mI M 203 5 ∧ mI M' 203 12 = mI M 203 12 ∧ (∀ k, mI M' 204 k = mI M 204 k) ∧ (∀ k, mL M' 207 k = mL M 207 k)) := fun f => by
      refine ⟨(Fr_I f (sRW_f (by omega) (by omega) (by omega))).trans e8, ?_, ?_, fun k => ?_, fun k => ?_⟩
      · rw [Fr_I f (sRW_f (by omega) (by omega) (by omega)), Fr_I f1 (sGo_f (by omega)), gI_n (by omega), gI_n (by omega), gI_n (by omega), gI_n (by omega), gI_n (by omega), gI_n (by omega)]
      · rw [Fr_I f (sRW_f (by omega) (by omega) (by omega)), Fr_I f1 (sGo_f (by omega)), gI_n (by omega), gI_n (by omega), gI_n (by omega), gI_n (by omega), gI_n (by omega), gI_n (by omega)]
      · rw [Fr_I f (sRW_f (by omega) (by omega) (by omega)), Fr_I f1 (sGo_f (by omega)), gI_n (by omega), gI_n (by omega), gI_n (by omega), gI_n (by omega), gI_n (by omega), gI_n (by omega)]
      · rw [Fr_L f (sRW_f (by omega) (by omega) (by omega)), Fr_L f1 (sGo_f (by omega))]; rfl
    refine w165_54_s (T := T) (n := n) (M0 := M1) (b := prs T n (n + 1) ps0 0) (fun M' s' pl y1 hL' y2 y3 y4 y5 y6 => ?_) (fun M' f pl s' y1 hL' y2 y3 y4 y5 => ?_) n M1 (sk T n 0) n ps0 (by omega) Fr_r (fb.1 hL) (RBy_fr f1 B0) k1 sb.2 (RPs_0 ((Fr_I f1 (sGo_f (by omega))).trans (gI_y ⟨rfl, rfl⟩))) PIv_0 rfl ⟨(Fr_I f1 (sGo_f (by omega))).trans (by rw [gI_n (by omega), gI_n (by omega), gI_y ⟨rfl, rfl⟩]; rfl), (Fr_I f1 (sGo_f (by omega))).trans (by rw [gI_n (by omega), gI_y ⟨rfl, rfl⟩]; rfl)⟩ (by omega) hp
    · have l := lk y1
      refine ⟨kd_203 hL', kd_203 hL', kd_203 hL', kd_203 hL', br_t (by decide) ?_⟩
      have h6 := y3.1
      rw [if_neg (by omega), Nat.sub_zero] at h6
      refine w165_102_s (k := s'.2.1) (W := s'.2.2.2.1) (R := fun w => jL (nv 32 0 (s'.2.2.1 w) : Int)) hL' y4.2.1 (by rw [gI_n (by omega), gI_n (by omega)]; exact h6) (fun w hw => ⟨?_, RBk_m (y3.2 w hw).1 (y4.2.2.2.2.2 w hw).2.1.1 (fun d _ => by rw [gI_n (by omega), gI_n (by omega)]), (y3.2 w hw).2⟩) (fun M3 f3 r3 n3 a3 s3 => ?_)
      · have g := y4.2.2.2.2.2 w hw
        exact ⟨by have := g.2.2; omega, g.2.1.1, g.2.1.2.1, g.2.1.2.2⟩
      · refine hX3 n M3 pl s' hn e (Fr_t (Fr_sI (Fr_sI (Fr_t fb (Fr_w y1 (fun x k => sLO_w))) (sLO_8 (by omega))) (sLO_8 (by omega))) (Fr_w f3 (fun x k => sLO_q))) ?_ ?_ ?_ s3 y2.symm y4 y5 r3 n3 a3
        · rw [Fr_I f3 (sLq_f (by omega) (by omega) (by omega)), gI_n (by omega), gI_n (by omega)]; exact l.1
        · rw [Fr_I f3 (sLq_f (by omega) (by omega) (by omega)), gI_n (by omega), gI_y ⟨rfl, rfl⟩]; exact y6.1
        · rw [Fr_I f3 (sLq_f (by omega) (by omega) (by omega)), gI_y ⟨rfl, rfl⟩, gI_n (by omega)]; exact y6.2
    · have l := lk y1
      refine ⟨kd_203 hL', kd_203 hL', kd_203 hL', kd_203 hL', br_f (by decide) ⟨kd_203 hL', kd_203 hL', ?_⟩⟩
      refine hX2 n _ f pl s' hn e (Fr_sI (Fr_sI (Fr_sI (Fr_t fb (Fr_w y1 (fun x k => sLO_w))) (sLO_8 (by omega))) (sLO_8 (by omega))) (sLO_8 (by omega))) ?_ ?_ ?_ (gI_y ⟨rfl, rfl⟩) y2.symm y3 ?_ ?_ (fun k => ?_) (fun k => l.2.2.2.2 k)
      · rw [gI_n (by omega), gI_n (by omega), gI_n (by omega)]; exact l.1
      · rw [gI_n (by omega), gI_n (by omega), gI_y ⟨rfl, rfl⟩]; exact y4
      · rw [gI_n (by omega), gI_y ⟨rfl, rfl⟩, gI_n (by omega)]; exact y5
      · rw [gI_n (by omega), gI_n (by omega), gI_n (by omega)]; exact l.2.1
      · rw [gI_n (by omega), gI_n (by omega), gI_n (by omega)]; exact l.2.2.1
      · rw [gI_n (by omega), gI_n (by omega), gI_n (by omega)]; exact l.2.2.2.1 k
