/-! ===== the class: read, and the copy of what was read ===== -/
def ps0 : PS := (0, 0, fun _ => [], fun _ => noW, 0)
theorem PIv_0 : PIv ps0 := ⟨by decide, by decide, fun z => absurd (show 2 ≤ 0 from z) (by omega), fun z => absurd (show 0 = 1 from z) (by omega), fun z => absurd (show 0 = 3 from z) (by omega), fun w hw => absurd (show w < 0 from hw) (by omega)⟩
theorem w18_s {M : MM} {T : Nat → Nat} {n : Nat} {P : Int32 → MM → Prop} (hL : Lay M) (hB : TB M n T) (hX : ∀ M2 f q s', Fr sRD M M2 → (f, q, s') = prs T n (n + 1) ps0 0 → (f ≠ 0 → mI M2 2 4 = jI (q : Int)) → (f = 0 → s'.1 = 0) → CPs M2 s' → PIv s' → P (jI (f : Int)) M2) : w18 2 (some 1) (jI (n : Int)) M P := by
  refine ⟨kd_2 hL, kd_2 hL, kd_2 hL, n + 2, ?_⟩
  exact w18_20_s hL hB n 0 0 ps0 _ (by omega) (by omega) (by omega) (Fr_sI (Fr_sI (Fr_sI Fr_r (sB_t1 (by omega))) (sB_t1 (by omega))) (sB_t1 (by omega))) (by rw [gI_n (by omega), gI_y ⟨rfl, rfl⟩]; rfl) ⟨gI_y ⟨rfl, rfl⟩, by rw [gI_n (by omega), gI_n (by omega), gI_y ⟨rfl, rfl⟩]; rfl, fun z => absurd (show 0 = 3 from z) (by omega), fun z => absurd (show 2 ≤ 0 from z) (by omega), fun w hw => absurd (show w < 0 from hw) (by omega)⟩ PIv_0 hX
def sCy : Nat → Nat → Bool := sB 191 0 0 191 202
theorem w16_88_s {M : MM} {k : Nat} {W : Nat → WY} {Nm : Nat → List Nat} {P : Int32 → MM → Prop} (hL : Lay M) (k4 : k ≤ 4) (h6 : mI M 0 6 = jI (k : Int)) (hg : ∀ w, w < k → gW (W w)) (hT : ∀ w, w < k → TrC M (7 + 3 * w) (W w) ∧ mL M (7 + 3 * w) 0 = jL (nv 256 96 (Nm w) : Int)) (hX : ∀ M', Fr sCy M M' → (∀ w, w < k → TrC M' (191 + 3 * w) (W w) ∧ mL M' (191 + 3 * w) 0 = jL (nv 256 96 (Nm w) : Int)) → P (jI (k : Int)) (sI (sI M' 20 3 0) 0 10 0)) : ∀ (m w : Nat) (M' : MM), w + m = k → Fr sCy M M' → (∀ u, u < w → TrC M' (191 + 3 * u) (W u) ∧ mL M' (191 + 3 * u) 0 = jL (nv 256 96 (Nm u) : Int)) → w16_88 (m + 1) 0 (jI (w : Int)) M' P := by
  intro m
  induction m with
  | zero =>
    intro w M' e hF hI
    obtain rfl : w = k := by omega
    have hL' := hF.1 hL
    have e6 : mI M' 0 6 = jI (w : Int) := (Fr_I hF (sB_f (by omega) (by omega))).trans h6
    refine ⟨kd_0 hL', br_t (by rw [e6, jI_le (by omega) (by omega) (by omega) (by omega)]; omega) ⟨kd_0 hL', 20, rf_0_7 hL', kd_20 hL', kd_20 hL', kd_0 hL', kd_0 hL', kd_0 hL', ?_⟩⟩
    rw [gI_n (by omega), e6]
    exact hX M' hF hI
  | succ m ih =>
    intro w M' e hF hI
    have hL' := hF.1 hL
    have e6 : mI M' 0 6 = jI (k : Int) := (Fr_I hF (sB_f (by omega) (by omega))).trans h6
    have q := hT w (by omega)
    have ga := hg w (by omega)
    have g1 := ga.1
    have tT : isT (191 + 3 * w) = true := isT_way (by omega)
    refine ⟨kd_0 hL', br_f (by rw [e6, jI_le (by omega) (by omega) (by omega) (by omega)]; omega) ⟨kd_0 hL', 19, rf_0_5 hL', i19 hL' (by omega), kd_0 hL', 2, rf_0_2 hL', kd_2 hL', 3, rf_2_0 hL', by rw [← nI_j]; exact in_3 hL' (by omega), 191 + 3 * w, by rw [jI_cn (by omega)]; exact rf_19 hL' (by omega), kd_T hL' tT, ?_⟩⟩
    rw [jI_cn (by omega), rf_3 hL' (by omega)]
    refine w31_s hL' (isT_rd (by omega)) tT (Or.inl (by omega)) (TrC_fr2 hF (fun x k y1 y2 => sB_f (by omega) (by omega)) q.1) (by omega) ga.2.1 (fun M2 f2 t2 n2 => ?_)
    rw [show (1 : Int32) = jI 1 from rfl, jI_add, c_s1]
    refine ih (w + 1) M2 (by omega) (Fr_t hF (Fr_w f2 (fun x k z => ?_))) (fun u hu => ?_)
    · refine sB_f (fun y => ?_) (fun y => ?_)
      · rw [show sCy x k = true from sB_t2 (by omega)] at z; cases z
      · rw [show sCy x k = true from sB_t2 (by omega)] at z; cases z
    · by_cases c : u = w
      · rw [c]
        exact ⟨t2, n2.trans ((Fr_L hF (sB_f (by omega) (by omega))).trans q.2)⟩
      · have qu := hI u (by omega)
        exact ⟨TrC_k f2 (by unfold aprt; omega) qu.1, (Fr_L f2 (sB_f (by omega) (by omega))).trans qu.2⟩
