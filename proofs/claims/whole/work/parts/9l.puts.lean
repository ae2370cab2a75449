/-! ===== CRITICALS in the reference ===== -/
def RSq (M : MM) (c : Nat) (A B : Nat → Int) : Prop := mI M 203 49 = jI (c : Int) ∧ ∀ k, k < c → mL M 227 k = jL (A k) ∧ mL M 228 k = jL (B k)
def Rd (c : Nat) (A B : Nat → Int) : Prop := ∀ k, k < c → ft (A k) (B k) = A k ∧ fb (A k) (B k) = B k
def sPc : Nat → Nat → Bool := sB 203 49 49 227 228
theorem i227 {M : MM} (h : Lay M) {k : Nat} (q : k < 640) : inb M 227 12 (jI (k : Int)) := by rw [← nI_j]; exact in_227 h q
theorem i228 {M : MM} (h : Lay M) {k : Nat} (q : k < 640) : inb M 228 12 (jI (k : Int)) := by rw [← nI_j]; exact in_228 h q
theorem ft_i {n d n' d' : Int} (h : gE n d) : ft n d * d' = n' * fb n d ↔ n * d' = n' * d := by
  have g := gA_p (a := n) h.2.2.1
  have e1 : ft n d * gA n d = n := (ft_id h.2.2.1).resolve_right (by have := h.1; omega)
  have e2 := fb_id (a := n) h.2.2.1
  constructor
  · intro e
    calc n * d' = ft n d * gA n d * d' := by rw [e1]
      _ = ft n d * d' * gA n d := by grind
      _ = n' * fb n d * gA n d := by rw [e]
      _ = n' * (fb n d * gA n d) := by grind
      _ = n' * d := by rw [e2]
  · intro e
    refine Int.eq_of_mul_eq_mul_right (Int.ne_of_gt g) ?_
    calc ft n d * d' * gA n d = ft n d * gA n d * d' := by grind
      _ = n * d' := by rw [e1]
      _ = n' * d := e
      _ = n' * (fb n d * gA n d) := by rw [e2]
      _ = n' * fb n d * gA n d := by grind
theorem ft_g {n d : Int} (h : gE n d) : gE (ft n d) (fb n d) := by
  have h1 := ft_p (b := d) h.1 h.2.2.1
  have h2 := ft_le (b := d) h.1
  have h3 := fb_p (a := n) h.2.2.1
  have h4 := fb_le (a := n) h.2.2.1
  unfold gE at *
  omega
theorem ft_r {n d : Int} (h : gE n d) : ft (ft n d) (fb n d) = ft n d ∧ fb (ft n d) (fb n d) = fb n d := by
  have g := ft_g h
  exact fr_eqI g.1 g.2.2.1 h.1 h.2.2.1 (ft_x h.1 h.2.2.1)
theorem w247_106_s {M0 : MM} {c p : Nat} {A B : Nat → Int} {n d : Int} {P : MM → Prop} (hL0 : Lay M0) (hc : mI M0 203 49 = jI (c : Int)) (c6 : c < 639) (hp : p ≤ c)
    (hX : ∀ M', Fr sPc M0 M' → RSq M' (c + 1) (ins p n A) (ins p d B) → P M') :
    ∀ (q m : Nat) (M : MM), p + q = m → m ≤ c → Fr sPc M0 M → mI M 203 49 = jI (c : Int) → (∀ j, j < m → mL M 227 j = jL (A j) ∧ mL M 228 j = jL (B j)) → (∀ j, m < j → j ≤ c → mL M 227 j = jL (A (j - 1)) ∧ mL M 228 j = jL (B (j - 1))) → w247_106 (q + 1) 203 (jL n) (jL d) (jI (p : Int)) (jI (m : Int)) M P := by
  intro q
  induction q with
  | zero =>
    intro m M hm mc hF h49 h1 h2
    have : m = p := by omega
    subst this
    have hL := hF.1 hL0
    have ep : (jI (m : Int)).toNatClampNeg = m := jI_cn (by omega)
    refine br_t (by rw [jI_le (by omega) (by omega) (by omega) (by omega)]; omega) ⟨kd_203 hL, 227, rf_203_47 hL, i227 hL (by omega), kd_203 hL, 228, rf_203_48 (lay_sL hL), i228 hL (by omega), kd_203 hL, kd_203 hL, ?_⟩
    rw [ep, gI_sL, gI_sL, h49, show (1 : Int32) = jI 1 from rfl, jI_add, c_s1]
    refine hX _ (Fr_sI (Fr_sL (Fr_sL hF (sB_t2 (by omega))) (sB_t2 (by omega))) (sB_t1 (by omega))) ⟨gI_y ⟨rfl, rfl⟩, fun k hk => ?_⟩
    rw [gL_sI, gL_sI]
    rcases Nat.lt_trichotomy k m with z | z | z
    · rw [ins_l z, ins_l z, gL_n (by omega), gL_n (by omega), gL_n (by omega), gL_n (by omega)]; exact h1 k z
    · subst z; rw [ins_e, ins_e, gL_n (by omega), gL_y ⟨rfl, rfl⟩, gL_y ⟨rfl, rfl⟩]; exact ⟨rfl, rfl⟩
    · rw [ins_g z, ins_g z, gL_n (by omega), gL_n (by omega), gL_n (by omega), gL_n (by omega)]; exact h2 k z (by omega)
  | succ q ih =>
    intro m M hm mc hF h49 h1 h2
    have hL := hF.1 hL0
    have em : (jI (m : Int)).toNatClampNeg = m := jI_cn (by omega)
    have e1 : jI (m : Int) - 1 = jI ((m - 1 : Nat) : Int) := by rw [show (1 : Int32) = jI 1 from rfl, jI_sub]; congr 1; omega
    have em1 : (jI ((m - 1 : Nat) : Int)).toNatClampNeg = m - 1 := jI_cn (by omega)
    have e2 : jI (m : Int) + (-1) = jI ((m - 1 : Nat) : Int) := by rw [show (-1 : Int32) = jI (-1) from rfl, jI_add]; congr 1; omega
    unfold w247_106 w247_145
    rw [e1, e2, em, em1]
    obtain ⟨r1, r2⟩ := h1 (m - 1) (by omega)
    refine br_f (by rw [jI_le (by omega) (by omega) (by omega) (by omega)]; omega) ⟨kd_203 hL, kd_203 hL, 227, rf_203_47 hL, i227 hL (by omega), i227 hL (by omega), kd_203 hL, kd_203 hL, 228, rf_203_48 (lay_sL hL), i228 hL (by omega), i228 hL (by omega), ?_⟩
    refine ih (m - 1) _ (by omega) (by omega) (Fr_sL (Fr_sL hF (sB_t2 (by omega))) (sB_t2 (by omega))) (by rw [gI_sL, gI_sL]; exact h49) (fun j hj => ?_) (fun j hj jc => ?_)
    · rw [gL_n (by omega), gL_n (by omega), gL_n (by omega), gL_n (by omega)]; exact h1 j (by omega)
    · by_cases e : j = m
      · subst e
        rw [gL_n (by omega), gL_y ⟨rfl, rfl⟩, gL_y ⟨rfl, rfl⟩, gL_n (by omega)]; exact ⟨r1, r2⟩
      · rw [gL_n (by omega), gL_n (by omega), gL_n (by omega), gL_n (by omega)]; exact h2 j (by omega) jc
theorem w247_s {M : MM} {c : Nat} {A B : Nat → Int} {n d : Int} {P : MM → Prop} (hL : Lay M) (hc : RSq M c A B) (hS : Sq c A B) (hR : Rd c A B) (c6 : c < 639) (hE : gE n d)
    (hX : ∀ M' c' A' B', Fr sPc M M' → RSq M' c' A' B' → Sq c' A' B' → Rd c' A' B' → c' ≤ c + 1 → (∀ n' d', Me c' A' B' n' d' ↔ (Me c A B n' d' ∨ n * d' = n' * d)) → P M') : w247 203 (jL n) (jL d) M P := by
  have hE' := hE
  unfold gE at hE'
  obtain ⟨n', d', rfl, rfl, q1, q2, q3, q4⟩ := gFr_n (show gFr n d from ⟨by omega, by omega, by omega, by omega⟩)
  have gp := gA_p (a := (n' : Int)) (b := (d' : Int)) (by omega)
  have gl := gA_le (a := (n' : Int)) (b := (d' : Int)) (by omega)
  have e1 : ft (n' : Int) (d' : Int) = (n' : Int) / gA (n' : Int) (d' : Int) := rfl
  have e2 : fb (n' : Int) (d' : Int) = (d' : Int) / gA (n' : Int) (d' : Int) := rfl
  refine w196_s 30 100 n' d' _ (by omega) (by omega) q3 (by omega) ?_
  rw [← q4]
  have nz : ¬ jL (gA (n' : Int) (d' : Int)) = 0 := fun z => by
    rw [show (0 : Int64) = jL 0 from rfl, jL_eq (by omega) (by omega) (by omega) (by omega)] at z; omega
  refine ⟨nz, nz, kd_203 hL, c + 1, ?_⟩
  rw [jL_div (by omega) (by omega) (by omega) (by omega), jL_div (by omega) (by omega) (by omega) (by omega), ← e1, ← e2, hc.1]
  have gg := ft_g hE
  have rr := ft_r hE
  have ii : ∀ a b, ft (n' : Int) (d' : Int) * b = a * fb (n' : Int) (d' : Int) ↔ (n' : Int) * b = a * (d' : Int) := fun a b => ft_i hE
  generalize ft (n' : Int) (d' : Int) = x at *
  generalize fb (n' : Int) (d' : Int) = y at *
  have gg' := gg
  unfold gE at gg'
  -- put at a place
  have put : ∀ p, p ≤ c → (∀ k, k < p → A k * y < x * B k) → (∀ k, p ≤ k → k < c → x * B k < A k * y) → w247_100 203 (jL x) (jL y) (jI (p : Int)) M P := fun p hp h1 h2 => by
    have ok := ins_ok hS hp gg h1 h2
    refine ⟨kd_203 hL, c - p + 1, ?_⟩
    rw [hc.1]
    refine w247_106_s hL hc.1 c6 hp (fun M' hF hq => hX M' _ _ _ hF hq ok.1 (fun k hk => ?_) (Nat.le_refl _) (fun a b => ?_)) (c - p) c M (by omega) (Nat.le_refl _) Fr_r hc.1 (fun j hj => hc.2 j hj) (fun j hj jc => absurd hj (by omega))
    · rcases Nat.lt_trichotomy k p with z | z | z
      · rw [ins_l z, ins_l z]; exact hR k (by omega)
      · subst z; rw [ins_e, ins_e]; exact rr
      · rw [ins_g z, ins_g z]; exact hR (k - 1) (by omega)
    · rw [ok.2, ii]
  have at64 : ∀ p, p ≤ c → (0 < p → A (p - 1) * y ≤ x * B (p - 1)) → (∀ k, p ≤ k → k < c → x * B k < A k * y) → w247_64 203 (jL x) (jL y) (jI (p : Int)) M P := fun p hp h1 h2 => by
    have le0 : (jI (p : Int) ≤ (0 : Int32)) ↔ p = 0 := by rw [show (0 : Int32) = jI 0 from rfl, jI_le (by omega) (by omega) (by omega) (by omega)]; omega
    have e1 : 0 < p → jI (p : Int) - 1 = jI ((p - 1 : Nat) : Int) := fun z => by rw [show (1 : Int32) = jI 1 from rfl, jI_sub]; congr 1; omega
    refine ⟨fun z => ?_, fun z => ?_⟩
    · have := le0.mp z
      subst this
      exact put 0 hp (fun k hk => absurd hk (by omega)) h2
    · have p0 : 0 < p := Nat.pos_of_ne_zero (fun e => z (le0.mpr e))
      have hp1 : p - 1 < c := by omega
      obtain ⟨r1, r2⟩ := hc.2 (p - 1) hp1
      have g1 := hS.1 (p - 1) hp1
      have g1' := g1
      unfold gE at g1'
      have strict : ¬ (A (p - 1) * y = x * B (p - 1)) → w247_100 203 (jL x) (jL y) (jI (p : Int)) M P := fun ne => put p hp (fun k hk => by
        have l0 : A (p - 1) * y < x * B (p - 1) := by have := h1 p0; omega
        rcases Nat.lt_or_ge k (p - 1) with x' | x'
        · have l1 := hS.2 k (p - 1) x' hp1
          have bk := (hS.1 k (by omega)).2.2.1
          have m1 := Int.mul_lt_mul_of_pos_right l0 bk
          have m2 := Int.mul_lt_mul_of_pos_right l1 gg.2.2.1
          have m3 : A k * y * B (p - 1) < x * B k * B (p - 1) := by
            have x1 : A k * B (p - 1) * y = A k * y * B (p - 1) := by grind
            have x2 : A (p - 1) * B k * y = A (p - 1) * y * B k := by grind
            have x3 : x * B (p - 1) * B k = x * B k * B (p - 1) := by grind
            omega
          exact Int.lt_of_mul_lt_mul_right m3 (Int.le_of_lt g1.2.2.1)
        · have : k = p - 1 := by omega
          subst this; exact l0) h2
      rw [e1 p0, jI_cn (by omega)]
      refine ⟨kd_203 hL, 227, rf_203_47 hL, i227 hL (by omega), ?_⟩
      rw [r1]
      have same : A (p - 1) * y = x * B (p - 1) → A (p - 1) = x ∧ B (p - 1) = y := fun e => by
        have q := fr_eqI g1.1 g1.2.2.1 gg.1 gg.2.2.1 e
        rw [(hR (p - 1) hp1).1, (hR (p - 1) hp1).2, rr.1, rr.2] at q
        exact q
      refine ⟨fun w => strict (fun e => w ((lc_eq _ _).mpr (by rw [(same e).1]))), fun w => ⟨kd_203 hL, 228, rf_203_48 hL, i228 hL (by omega), ?_⟩⟩
      rw [r2]
      refine ⟨fun v => strict (fun e => v ((lc_eq _ _).mpr (by rw [(same e).2]))), fun v => hX M c A B Fr_r hc hS hR (by omega) (fun a b => ⟨Or.inl, ?_⟩)⟩
      have w' := (lc_eq _ _).mp (Classical.not_not.mp w)
      have v' := (lc_eq _ _).mp (Classical.not_not.mp v)
      rw [jL_eq (by omega) (by omega) (by omega) (by omega)] at w' v'
      rintro (q | q)
      · exact q
      · exact ⟨p - 1, hp1, by rw [w', v']; exact (ii a b).mpr q⟩
  have lp : ∀ (p : Nat), p ≤ c → (∀ k, p ≤ k → k < c → x * B k < A k * y) → w247_25 (p + 1) 203 (jL x) (jL y) (jI (p : Int)) M P := by
    intro p
    induction p with
    | zero =>
      intro hp h2
      exact br_t (by decide) (at64 0 hp (fun z => absurd z (by omega)) h2)
    | succ p ih =>
      intro hp h2
      have e1 : jI ((p + 1 : Nat) : Int) - 1 = jI (p : Int) := by rw [show (1 : Int32) = jI 1 from rfl, jI_sub]; congr 1; omega
      have e2 : jI ((p + 1 : Nat) : Int) + (-1) = jI (p : Int) := by rw [show (-1 : Int32) = jI (-1) from rfl, jI_add]; congr 1; omega
      obtain ⟨r1, r2⟩ := hc.2 p (by omega)
      have b1 := pr_b (hS.1 p (by omega)) gg
      have b2 := pr_b gg (hS.1 p (by omega))
      unfold w247_25
      rw [e1, e2, jI_cn (by omega)]
      refine br_f (by rw [show (0 : Int32) = jI 0 from rfl, jI_le (by omega) (by omega) (by omega) (by omega)]; omega) ⟨kd_203 hL, 227, rf_203_47 hL, i227 hL (by omega), kd_203 hL, 228, rf_203_48 hL, i228 hL (by omega), ?_⟩
      rw [r1, r2]
      refine w199_s (by omega) (by omega) (fun r k1 k2 k3 k4 => ?_)
      rw [show (jI r ≤ (0 : Int32)) = (jI r ≤ jI 0) from rfl, jI_le (by omega) (by omega) (by omega) (by omega)]
      refine ⟨fun z => at64 (p + 1) hp (fun _ => ?_) h2, fun z => ih (by omega) (fun k kp kc => ?_)⟩
      · show A p * y ≤ x * B p
        omega
      · by_cases e : k = p
        · subst e; omega
        · exact h2 k (by omega) kc
  exact lp c (Nat.le_refl _) (fun k k1 k2 => absurd k1 (by omega))
