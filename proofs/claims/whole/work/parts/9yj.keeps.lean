/-! ===== acts kept in the reference; undo ===== -/
def sKp : Nat → Nat → Bool := sB 203 12 12 206 206
def sRt : Nat → Nat → Bool := fun x k => sB 203 9 9 204 204 x k || sB 203 12 12 206 206 x k
theorem sRt_i {x k : Nat} (h : sRt x k = false) : ¬ (x = 203 ∧ (k = 9 ∨ k = 12)) ∧ x ≠ 204 ∧ x ≠ 206 := by
  unfold sRt at h
  have h' := Bool.or_eq_false_iff.mp h
  refine ⟨fun z => ?_, fun z => ?_, fun z => ?_⟩
  · obtain ⟨rfl, c | c⟩ := z
    · subst c; exact absurd h'.1 (by rw [sB_t1 (by omega)]; decide)
    · subst c; exact absurd h'.2 (by rw [sB_t1 (by omega)]; decide)
  · exact absurd h'.1 (by rw [sB_t2 (by omega)]; decide)
  · exact absurd h'.2 (by rw [sB_t2 (by omega)]; decide)
theorem sRt_f {x k : Nat} (h : ¬ (x = 203 ∧ (k = 9 ∨ k = 12))) (h1 : x ≠ 204) (h2 : x ≠ 206) : sRt x k = false := by
  unfold sRt
  rw [sB_f (by omega) (by omega), sB_f (by omega) (by omega)]; rfl
theorem sRt_9 : sRt 203 9 = true := rfl
theorem sRt_4 {k : Nat} : sRt 204 k = true := by unfold sRt; rw [sB_t2 (by omega)]; rfl
/-- a way in a row of ints, from place c on -/
def RBk (M : MM) (b c : Nat) (a : WY) : Prop := mI M b c = jI (wn a : Int) ∧ ∀ i, i < wn a → mI M b (c + 1 + 2 * i) = jI (wx a i) ∧ mI M b (c + 2 + 2 * i) = jI (wy a i)
theorem RBk_m {M M' : MM} {b b' c c' : Nat} {a : WY} (h : RBk M b c a) (a8 : wn a ≤ 8) (e : ∀ d, d < 17 → mI M' b' (c' + d) = mI M b (c + d)) : RBk M' b' c' a := by
  refine ⟨(e 0 (by omega)).trans h.1, fun i hi => ⟨?_, ?_⟩⟩
  · have := e (1 + 2 * i) (by omega)
    rw [← Nat.add_assoc, ← Nat.add_assoc] at this
    exact this.trans (h.2 i hi).1
  · have := e (2 + 2 * i) (by omega)
    rw [← Nat.add_assoc, ← Nat.add_assoc] at this
    exact this.trans (h.2 i hi).2
def RAc (M : MM) (k A : Nat) (S : Nat → Nat → WY) : Prop := mI M 203 12 = jI (A : Int) ∧ A ≤ 10 ∧ ∀ j, j < A → ∀ w, w < k → gW (S (j + 1) w) ∧ RBk M 206 (68 * (A - 1 - j) + 17 * w) (S (j + 1) w)
def RA (M : MM) (k A : Nat) (S : Nat → Nat → WY) : Prop := RWs M k (S 0) ∧ RAc M k A S
theorem RWs_b {M : MM} {k w : Nat} {W : Nat → WY} (h : RWs M k W) (hw : w < k) : RBk M 204 (17 * w) (W w) := (h.2.2 w hw).2
theorem RAc_fr {T : Nat → Nat → Bool} {M M' : MM} {k A : Nat} {S : Nat → Nat → WY} (hF : Fr T M M') (h1 : T 203 12 = false) (h2 : ∀ k, T 206 k = false) (h : RAc M k A S) : RAc M' k A S :=
  ⟨(Fr_I hF h1).trans h.1, h.2.1, fun j hj w hw => ⟨(h.2.2 j hj w hw).1, RBk_m (h.2.2 j hj w hw).2 (h.2.2 j hj w hw).1.2.1 (fun d _ => Fr_I hF (h2 _))⟩⟩
theorem RA_fr {T : Nat → Nat → Bool} {M M' : MM} {k A : Nat} {S : Nat → Nat → WY} (hF : Fr T M M') (h1 : T 203 12 = false) (h2 : ∀ k, T 206 k = false) (h3 : T 203 5 = false) (h4 : ∀ k, T 204 k = false) (h : RA M k A S) : RA M' k A S := ⟨RWs_fr hF h3 h4 h.1, RAc_fr hF h1 h2 h.2⟩
theorem RA_s {M : MM} {k A : Nat} {S : Nat → Nat → WY} {v : Int32} (h : RA M k A S) : RA (sI M 203 9 v) k A S := RA_fr (Fr_sI (S := sB 203 9 9 1 0) Fr_r (sB_t1 (by omega))) (sB_f (by omega) (by omega)) (fun k => sB_f (by omega) (by omega)) (sB_f (by omega) (by omega)) (fun k => sB_f (by omega) (by omega)) h
theorem FrR_9 {M : MM} {v : Int32} : Fr sRt M (sI M 203 9 v) := Fr_sI Fr_r sRt_9
theorem i206 {M : MM} (h : Lay M) {k : Nat} (q : k < 680) : inb M 206 11 (jI (k : Int)) := by rw [← nI_j]; exact in_206 h q
theorem w286_50_s {M : MM} {B : Nat} {P : MM → Prop} (hL : Lay M) (hB : mI M 203 12 = jI (B : Int)) (b9 : B ≤ 9) (hX : ∀ M', Fr sKp M M' → mI M' 203 12 = jI ((B + 1 : Nat) : Int) → (∀ c, c < 68 → mI M' 206 (68 * B + c) = mI M 204 c) → (∀ c, c < 68 * B → mI M' 206 c = mI M 206 c) → P M') : w286_50 203 M P := by
  have lp : ∀ (n c : Nat) (M' : MM), c + n = 68 → Fr (sB 206 0 0 206 206) M M' → (∀ d, d < c → mI M' 206 (68 * B + d) = mI M 204 d) → (∀ d, d < 68 * B → mI M' 206 d = mI M 206 d) → w286_52 (n + 1) 203 (jI (c : Int)) M' P := by
    intro n
    induction n with
    | zero =>
      intro c M' e hF i1 i2
      have hL' := hF.1 hL
      have eB : mI M' 203 12 = jI (B : Int) := (Fr_I hF (sB_f (by omega) (by omega))).trans hB
      refine br_t (by rw [show (68 : Int32) = jI 68 from rfl, jI_le (by omega) (by omega) (by omega) (by omega)]; omega) ⟨kd_203 hL', kd_203 hL', ?_⟩
      rw [eB, show (1 : Int32) = jI 1 from rfl, jI_add, c_s1]
      refine hX _ (Fr_sI (Fr_w hF (fun x k z => ?_)) (sB_t1 (by omega))) (gI_y ⟨rfl, rfl⟩) (fun d hd => ?_) (fun d hd => ?_)
      · refine sB_f (fun y => ?_) (fun y => ?_)
        · rw [show sKp x k = true from sB_t2 (by omega)] at z; cases z
        · rw [show sKp x k = true from sB_t2 (by omega)] at z; cases z
      · rw [gI_n (by omega)]; exact i1 d (by omega)
      · rw [gI_n (by omega)]; exact i2 d hd
    | succ n ih =>
      intro c M' e hF i1 i2
      have hL' := hF.1 hL
      have eB : mI M' 203 12 = jI (B : Int) := (Fr_I hF (sB_f (by omega) (by omega))).trans hB
      have e1 : jI 68 * jI (B : Int) + jI (c : Int) = jI ((68 * B + c : Nat) : Int) := by rw [jI_mul, jI_add]; exact congrArg jI (by omega)
      have e2 : jI (c : Int) + 1 = jI ((c + 1 : Nat) : Int) := by rw [show (1 : Int32) = jI 1 from rfl, jI_add, c_s1]
      refine br_f (by rw [show (68 : Int32) = jI 68 from rfl, jI_le (by omega) (by omega) (by omega) (by omega)]; omega) ⟨kd_203 hL', kd_203 hL', kd_203 hL', 204, rf_203_0 hL', i204 hL' (by omega), 206, rf_203_2 hL', ?_⟩
      rw [eB, show (68 : Int32) = jI 68 from rfl, e1, e2, jI_cn (by omega), jI_cn (by omega)]
      refine ⟨i206 hL' (by omega), ih (c + 1) _ (by omega) (Fr_sI hF (sB_t2 (by omega))) (fun d hd => ?_) (fun d hd => ?_)⟩
      · by_cases x : d = c
        · rw [gI_y ⟨rfl, by omega⟩, x]
          exact Fr_I hF (sB_f (by omega) (by omega))
        · rw [gI_n (by omega)]; exact i1 d (by omega)
      · rw [gI_n (by omega)]; exact i2 d hd
  exact ⟨69, lp 68 0 M (by omega) Fr_r (fun d hd => by omega) (fun d _ => rfl)⟩
theorem w286_s {M : MM} {k A : Nat} {S : Nat → Nat → WY} {W' : Nat → WY} {P : MM → Prop} (hL : Lay M) (h : RA M k A S) (hX : ∀ M', Fr sKp M M' → RAc M' k (min (A + 1) 10) (psh W' S) → P M') : w286 203 M P := by
  obtain ⟨hW, h1, a10, h2⟩ := h
  have k4 := hW.2.1
  unfold w286
  rw [h1, show (10 : Int32) = jI 10 from rfl, ne_eq, jI_eq (by omega) (by omega) (by omega) (by omega)]
  refine ⟨kd_203 hL, fun z => w286_50_s hL h1 (by omega) (fun M' hF e1 e2 e3 => hX M' hF ⟨?_, by omega, fun j hj w hw => ?_⟩), fun z => ⟨613, ?_⟩⟩
  · rw [e1]; exact congrArg jI (by omega)
  · cases j with
    | zero =>
      refine ⟨(hW.2.2 w hw).1, RBk_m (RWs_b hW hw) (hW.2.2 w hw).1.2.1 (fun d hd => ?_)⟩
      rw [show 68 * (min (A + 1) 10 - 1 - 0) + 17 * w + d = 68 * A + (17 * w + d) by omega]
      exact e2 _ (by omega)
    | succ j =>
      have q := h2 j (by omega) w hw
      refine ⟨q.1, RBk_m q.2 q.1.2.1 (fun d hd => ?_)⟩
      rw [show 68 * (min (A + 1) 10 - 1 - (j + 1)) + 17 * w + d = 68 * (A - 1 - j) + 17 * w + d by omega]
      exact e3 _ (by omega)
  · obtain rfl : A = 10 := by omega
    have lp : ∀ (n c : Nat) (M' : MM), c + n = 680 → 68 ≤ c → Fr (sB 206 0 0 206 206) M M' → (∀ d, d + 68 < c → mI M' 206 d = mI M 206 (d + 68)) → (∀ d, c ≤ d + 68 → mI M' 206 d = mI M 206 d) → w286_12 (n + 1) 203 (jI (c : Int)) M' P := by
      intro n
      induction n with
      | zero =>
        intro c M' e c1 hF i1 i2
        have hL' := hF.1 hL
        have eB : mI M' 203 12 = jI 10 := (Fr_I hF (sB_f (by omega) (by omega))).trans h1
        refine br_t (by rw [show (680 : Int32) = jI 680 from rfl, jI_le (by omega) (by omega) (by omega) (by omega)]; omega) ⟨kd_203 hL', kd_203 hL', ?_⟩
        rw [eB]
        refine w286_50_s (B := 9) (lay_sI hL') (gI_y ⟨rfl, rfl⟩) (by omega) (fun M2 h2F e1 e2 e3 => hX M2 ?_ ⟨e1, by omega, fun j hj w hw => ?_⟩)
        · refine Fr_t (Fr_sI (Fr_w hF (fun x k z => ?_)) (sB_t1 (by omega))) h2F
          refine sB_f (fun y => ?_) (fun y => ?_)
          · rw [show sKp x k = true from sB_t2 (by omega)] at z; cases z
          · rw [show sKp x k = true from sB_t2 (by omega)] at z; cases z
        · cases j with
          | zero =>
            refine ⟨(hW.2.2 w hw).1, RBk_m (RWs_b hW hw) (hW.2.2 w hw).1.2.1 (fun d hd => ?_)⟩
            rw [show 68 * (min (10 + 1) 10 - 1 - 0) + 17 * w + d = 68 * 9 + (17 * w + d) by omega, e2 _ (by omega), gI_n (by omega)]
            exact Fr_I hF (sB_f (by omega) (by omega))
          | succ j =>
            have q := h2 j (by omega) w hw
            refine ⟨q.1, RBk_m q.2 q.1.2.1 (fun d hd => ?_)⟩
            rw [e3 _ (by omega), gI_n (by omega), i1 _ (by omega)]
            exact congrArg (mI M 206) (by omega)
      | succ n ih =>
        intro c M' e c1 hF i1 i2
        have hL' := hF.1 hL
        have e1 : jI (c : Int) - jI 68 = jI ((c - 68 : Nat) : Int) := by rw [jI_sub]; exact congrArg jI (by omega)
        have e2 : jI (c : Int) + 1 = jI ((c + 1 : Nat) : Int) := by rw [show (1 : Int32) = jI 1 from rfl, jI_add, c_s1]
        refine br_f (by rw [show (680 : Int32) = jI 680 from rfl, jI_le (by omega) (by omega) (by omega) (by omega)]; omega) ⟨kd_203 hL', kd_203 hL', 206, rf_203_2 hL', i206 hL' (by omega), ?_⟩
        rw [show (68 : Int32) = jI 68 from rfl, e1, e2, jI_cn (by omega), jI_cn (by omega)]
        refine ⟨i206 hL' (by omega), ih (c + 1) _ (by omega) (by omega) (Fr_sI hF (sB_t2 (by omega))) (fun d hd => ?_) (fun d hd => ?_)⟩
        · by_cases x : d = c - 68
          · rw [gI_y ⟨rfl, x⟩, i2 c (by omega)]
            exact congrArg (mI M 206) (by omega)
          · rw [gI_n (by omega)]; exact i1 d (by omega)
        · rw [gI_n (by omega)]; exact i2 d (by omega)
    exact lp 612 68 M (by omega) (by omega) Fr_r (fun d hd => by omega) (fun d _ => rfl)
theorem w282_q {M : MM} {k A : Nat} {S : Nat → Nat → WY} {P : Int32 → MM → Prop} (hL : Lay M) (hC : RA M k A S) (hX0 : A = 0 → ∀ M', Fr sRt M M' → mI M' 203 9 = 5 → RA M' k A S → P (-1) M') (hX1 : ∀ B, A = B + 1 → ∀ M', Fr sRt M M' → mI M' 203 9 = 0 → RA M' k B (fun j => S (j + 1)) → P (jI (B : Int)) M') : w282 203 M P := by
  have h1 := hC.2.1
  have a10 := hC.2.2.1
  have k4 := hC.1.2.1
  unfold w282
  rw [h1, show (0 : Int32) = jI 0 from rfl, ne_eq, jI_eq (by omega) (by omega) (by omega) (by omega)]
  refine ⟨kd_203 hL, fun z => ⟨kd_203 hL, kd_203 hL, 69, ?_⟩, fun z => ⟨kd_203 hL, kd_203 hL, hX0 (by omega) _ FrR_9 (gI_y ⟨rfl, rfl⟩) (RA_s hC)⟩⟩
  obtain ⟨B, rfl⟩ : ∃ B, A = B + 1 := ⟨A - 1, by omega⟩
  rw [show (1 : Int32) = jI 1 from rfl, jI_sub, show ((B + 1 : Nat) : Int) - 1 = (B : Int) by omega]
  have lp : ∀ (n c : Nat) (M' : MM), c + n = 68 → Fr (sB 203 12 12 204 204) M M' → mI M' 203 12 = jI (B : Int) → (∀ d, d < c → mI M' 204 d = mI M 206 (68 * B + d)) → w282_25 (n + 1) 203 (jI (c : Int)) M' P := by
    intro n
    induction n with
    | zero =>
      intro c M' e hF eB i1
      have hL' := hF.1 hL
      refine br_t (by rw [show (68 : Int32) = jI 68 from rfl, jI_le (by omega) (by omega) (by omega) (by omega)]; omega) ⟨kd_203 hL', kd_203 hL', kd_203 hL', ?_⟩
      rw [eB]
      refine hX1 B rfl _ (Fr_t (Fr_w hF (fun x k z => by have := sRt_i z; exact sB_f (by omega) (by omega))) FrR_9) (gI_y ⟨rfl, rfl⟩) (RA_s ⟨⟨(Fr_I hF (sB_f (by omega) (by omega))).trans hC.1.1, k4, fun w hw => ?_⟩, ⟨eB, by omega, fun j hj w hw => ?_⟩⟩)
      · have q := hC.2.2.2 0 (by omega) w hw
        refine ⟨q.1, RBk_m (M' := M') (b' := 204) (c' := 17 * w) q.2 q.1.2.1 (fun d hd => ?_)⟩
        rw [i1 _ (by omega)]
        exact congrArg (mI M 206) (by omega)
      · have q := hC.2.2.2 (j + 1) (by omega) w hw
        refine ⟨q.1, RBk_m q.2 q.1.2.1 (fun d hd => ?_)⟩
        rw [show 68 * (B - 1 - j) + 17 * w + d = 68 * (B + 1 - 1 - (j + 1)) + 17 * w + d by omega]
        exact Fr_I hF (sB_f (by omega) (by omega))
    | succ n ih =>
      intro c M' e hF eB i1
      have hL' := hF.1 hL
      have e1 : jI 68 * jI (B : Int) + jI (c : Int) = jI ((68 * B + c : Nat) : Int) := by rw [jI_mul, jI_add]; exact congrArg jI (by omega)
      have e2 : jI (c : Int) + 1 = jI ((c + 1 : Nat) : Int) := by rw [show (1 : Int32) = jI 1 from rfl, jI_add, c_s1]
      refine br_f (by rw [show (68 : Int32) = jI 68 from rfl, jI_le (by omega) (by omega) (by omega) (by omega)]; omega) ⟨kd_203 hL', kd_203 hL', kd_203 hL', 206, rf_203_2 hL', ?_⟩
      rw [eB, show (68 : Int32) = jI 68 from rfl, e1, e2, jI_cn (by omega), jI_cn (by omega)]
      refine ⟨i206 hL' (by omega), 204, rf_203_0 hL', i204 hL' (by omega), ih (c + 1) _ (by omega) (Fr_sI hF (sB_t2 (by omega))) (by rw [gI_n (by omega)]; exact eB) (fun d hd => ?_)⟩
      by_cases x : d = c
      · rw [gI_y ⟨rfl, x⟩, x]
        exact Fr_I hF (sB_f (by omega) (by omega))
      · rw [gI_n (by omega)]; exact i1 d (by omega)
  exact lp 68 0 _ (by omega) (Fr_sI Fr_r (sB_t1 (by omega))) (gI_y ⟨rfl, rfl⟩) (fun d hd => by omega)
