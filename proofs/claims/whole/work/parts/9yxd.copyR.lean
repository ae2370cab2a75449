/-! ===== the reference: what was read becomes what is now ===== -/
def sLq : Nat → Nat → Bool := fun x k => sB 203 5 5 204 204 x k || (sB 203 9 9 207 207 x k || sB 203 12 12 207 207 x k)
theorem sLq_0 {k : Nat} : sLq 204 k = true := by unfold sLq; rw [sB_t2 (by omega)]; rfl
theorem sLq_7 {k : Nat} : sLq 207 k = true := by unfold sLq; rw [sB_t2 (o := 203) (c := 9) (d := 9) (a := 207) (b := 207) (by omega), Bool.true_or, Bool.or_true]
theorem sLq_f {x k : Nat} (h : ¬ (x = 203 ∧ (k = 5 ∨ k = 9 ∨ k = 12))) (h1 : x ≠ 204) (h2 : x ≠ 207) : sLq x k = false := by
  unfold sLq
  rw [sB_f (by omega) (by omega), sB_f (by omega) (by omega), sB_f (by omega) (by omega)]; rfl
theorem i205 {M : MM} (h : Lay M) {k : Nat} (q : k < 68) : inb M 205 11 (jI (k : Int)) := by rw [← nI_j]; exact in_205 h q
theorem w165_102_s {M : MM} {k : Nat} {W : Nat → WY} {R : Nat → Int64} {P : Int32 → MM → Prop} (hL : Lay M) (k4 : k ≤ 4) (h6 : mI M 203 6 = jI (k : Int)) (hg : ∀ w, w < k → gW (W w) ∧ RBk M 205 (17 * w) (W w) ∧ mL M 208 w = R w) (hX : ∀ M', Fr sLq M M' → RWs M' k W → (∀ w, w < k → mL M' 207 w = R w) → mI M' 203 12 = 0 → mI M' 203 9 = 0 → P (jI (k : Int)) M') : ∃ n2, w165_102 n2 203 (0 : Int32) M P := by
  have lp2 : ∀ (m c : Nat) (M' : MM), c + m = 4 → Fr sLq M M' → (∀ d, d < 68 → mI M' 204 d = mI M 205 d) → (∀ d, d < c → mL M' 207 d = mL M 208 d) → w165_128 (m + 1) 203 (jI (c : Int)) M' P := by
    intro m
    induction m with
    | zero =>
      intro c M' e hF h4 h7
      have hL' := hF.1 hL
      have e6 : mI M' 203 6 = jI (k : Int) := (Fr_I hF (sLq_f (by omega) (by omega) (by omega))).trans h6
      refine br_t (by rw [show (4 : Int32) = jI 4 from rfl, jI_le (by omega) (by omega) (by omega) (by omega)]; omega) ⟨kd_203 hL', kd_203 hL', kd_203 hL', kd_203 hL', kd_203 hL', kd_203 hL', ?_⟩
      rw [e6, gI_n (by omega), gI_y ⟨rfl, rfl⟩]
      refine hX _ (Fr_sI (Fr_sI (Fr_sI hF rfl) rfl) rfl) ⟨by rw [gI_n (by omega), gI_n (by omega), gI_y ⟨rfl, rfl⟩], k4, fun w hw => ⟨(hg w hw).1, RBk_m (b' := 204) (c' := 17 * w) (hg w hw).2.1 (hg w hw).1.2.1 (fun d hd => by rw [gI_n (by omega), gI_n (by omega), gI_n (by omega)]; exact h4 _ (by omega))⟩⟩ (fun w hw => (h7 w (by omega)).trans (hg w hw).2.2) (by rw [gI_n (by omega), gI_y ⟨rfl, rfl⟩]) (gI_y ⟨rfl, rfl⟩)
    | succ m ih =>
      intro c M' e hF h4 h7
      have hL' := hF.1 hL
      refine br_f (by rw [show (4 : Int32) = jI 4 from rfl, jI_le (by omega) (by omega) (by omega) (by omega)]; omega) ⟨kd_203 hL', kd_203 hL', 208, rf_203_4 hL', by rw [← nI_j]; exact in_208 hL' (by omega), 207, rf_203_3 hL', by rw [← nI_j]; exact in_207 hL' (by omega), ?_⟩
      rw [jI_cn (by omega), show (1 : Int32) = jI 1 from rfl, jI_add, c_s1]
      refine ih (c + 1) _ (by omega) (Fr_sL hF sLq_7) (fun d hd => by rw [gI_sL]; exact h4 d hd) (fun d hd => ?_)
      by_cases x : d = c
      · rw [gL_y ⟨rfl, x⟩, x]
        exact Fr_L hF (sLq_f (by omega) (by omega) (by omega))
      · rw [gL_n (by omega)]; exact h7 d (by omega)
  have lp : ∀ (m c : Nat) (M' : MM), c + m = 68 → Fr sLq M M' → (∀ d, d < c → mI M' 204 d = mI M 205 d) → w165_102 (m + 1) 203 (jI (c : Int)) M' P := by
    intro m
    induction m with
    | zero =>
      intro c M' e hF h4
      exact br_t (by rw [show (68 : Int32) = jI 68 from rfl, jI_le (by omega) (by omega) (by omega) (by omega)]; omega) ⟨5, lp2 4 0 M' (by omega) hF (fun d hd => h4 d (by omega)) (fun d hd => by omega)⟩
    | succ m ih =>
      intro c M' e hF h4
      have hL' := hF.1 hL
      refine br_f (by rw [show (68 : Int32) = jI 68 from rfl, jI_le (by omega) (by omega) (by omega) (by omega)]; omega) ⟨kd_203 hL', kd_203 hL', 205, rf_203_1 hL', i205 hL' (by omega), 204, rf_203_0 hL', i204 hL' (by omega), ?_⟩
      rw [jI_cn (by omega), show (1 : Int32) = jI 1 from rfl, jI_add, c_s1]
      refine ih (c + 1) _ (by omega) (Fr_sI hF sLq_0) (fun d hd => ?_)
      by_cases x : d = c
      · rw [gI_y ⟨rfl, x⟩, x]
        exact Fr_I hF (sLq_f (by omega) (by omega) (by omega))
      · rw [gI_n (by omega)]; exact h4 d (by omega)
  exact ⟨69, lp 68 0 M (by omega) Fr_r (fun d hd => by omega)⟩
