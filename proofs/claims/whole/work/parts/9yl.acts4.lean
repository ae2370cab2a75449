/-! ===== add, turn in the reference ===== -/
theorem w287_q {M : MM} {k A : Nat} {S : Nat → Nat → WY} {l1 l2 l3 l4 : Int32} {P : Int32 → MM → Prop} (hL : Lay M) (hC : RA M k A S) (hX : ∀ M' x r st, Fr sRt M M' → mI M' 203 9 = st → (x, r, st) = addA k (S 0) l1 l2 l3 l4 → RA M' k (acA x A) (acS x S) → P r M') : w287 203 l1 l2 l3 l4 M P := by
  have hW := hC.1
  have k4 := hW.2.1
  have hg : ∀ w, w < k → gW (S 0 w) := fun w hw => (hW.2.2 w hw).1
  unfold addA at hX
  refine w284_s ?_
  cases d0 : (frb l3 0 18 && frb l4 0 18) with
  | false =>
    rw [d0, if_neg (by decide)] at hX
    exact br_f (fun z => z rfl) ⟨kd_203 hL, kd_203 hL, hX _ _ _ _ FrR_9 (gI_y ⟨rfl, rfl⟩) rfl (RA_s hC)⟩
  | true =>
    rw [d0, if_pos rfl] at hX
    obtain ⟨d1, d2⟩ := Bool.and_eq_true_iff.mp d0
    have two : (isWb k l1 && frb l2 0 (jI (wn (S 0 l1.toNatClampNeg) : Int))) = false → w287_36 203 M P := fun e => by
      rw [e, if_neg (by decide)] at hX
      exact ⟨kd_203 hL, kd_203 hL, hX _ _ _ _ FrR_9 (gI_y ⟨rfl, rfl⟩) rfl (RA_s hC)⟩
    refine br_t (by decide) ⟨kd_203 hL, w182_s (RWs_RW hL hW) ?_⟩
    cases c1 : isWb k l1 with
    | false => exact br_t rfl (two (by rw [c1, Bool.false_and]))
    | true =>
      obtain ⟨o, ho, rfl⟩ := isWb_j k4 c1
      have e1 : (jI (o : Int)).toNatClampNeg = o := jI_cn (by omega)
      rw [c1, e1, Bool.true_and] at two
      rw [c1, e1, Bool.true_and] at hX
      have ga := hg o ho
      have a1 := ga.1
      have a2 := ga.2.1
      refine br_f (by decide) ⟨kd_203 hL, w180_q hL hW ho (w166_s ?_)⟩
      cases fr : frb l2 0 (jI (wn (S 0 o) : Int)) with
      | false => exact br_f (fun z => z rfl) (two fr)
      | true =>
        obtain ⟨i, rfl, i0, i1⟩ := frb_j (x := 0) (y := wn (S 0 o)) rfl rfl (by omega) (by omega) (by omega) fr
        obtain ⟨x, rfl, x0, x1⟩ := frb_j (x := 0) (y := 18) rfl rfl (by omega) (by omega) (by omega) d1
        obtain ⟨y, rfl, y0, y1⟩ := frb_j (x := 0) (y := 18) rfl rfl (by omega) (by omega) (by omega) d2
        rw [fr, if_pos (by decide), jI_cn (k := i) (by omega), jI_cn (k := x) (by omega), jI_cn (k := y) (by omega)] at hX
        refine br_t (by decide) ⟨kd_203 hL, w180_q hL hW ho ?_⟩
        rw [show (8 : Int32) = jI 8 from rfl, ne_eq, jI_eq (by omega) (by omega) (by omega) (by omega)]
        refine ⟨fun z3 => ⟨kd_203 hL, ?_⟩, fun z3 => ?_⟩
        · rw [if_neg (by omega)] at hX
          have four : (atP (S 0 o) ((i : Int) - 1) x y || atP (S 0 o) (i : Int) x y) = true → w287_84 203 M P := fun e => by
            rw [if_pos e] at hX
            exact ⟨kd_203 hL, kd_203 hL, hX _ _ _ _ FrR_9 (gI_y ⟨rfl, rfl⟩) rfl (RA_s hC)⟩
          rw [show (1 : Int32) = jI 1 from rfl, jI_sub]
          refine w285_s hL hW ho (by omega) (by omega) (by omega) (by omega) (by omega) (by omega) ?_
          cases b1 : atP (S 0 o) ((i : Int) - 1) x y with
          | true => exact br_t (by decide) (four (by rw [b1]; rfl))
          | false =>
            refine br_f (fun z => z rfl) ⟨kd_203 hL, w285_s hL hW ho (by omega) (by omega) (by omega) (by omega) (by omega) (by omega) ?_⟩
            cases b2 : atP (S 0 o) (i : Int) x y with
            | true => exact br_f (by decide) (four (by rw [b1, b2]; rfl))
            | false =>
              rw [b1, b2, if_neg (by decide)] at hX
              refine br_t rfl ⟨kd_203 hL, w286_s (W' := upW (S 0) o (adW (S 0 o) i x y)) hL hC (fun M1 f1 r1 => ?_)⟩
              have hW1 : RBk M1 204 (17 * o) (S 0 o) := RBk_m (RWs_b hW ho) a2 (fun d _ => Fr_I f1 (sB_f (by omega) (by omega)))
              have hL1 := f1.1 hL
              unfold w174
              dsimp only
              rw [show (17 : Int32) = jI 17 from rfl, jI_mul, show (17 : Int) * (o : Int) = ((17 * o : Nat) : Int) by omega, jI_cn (by omega)]
              refine ⟨kd_203 hL1, 204, rf_203_0 hL1, i204 hL1 (by omega), 2 * (wn (S 0 o) - i) + 1, ?_⟩
              rw [hW1.1, show (2 : Int32) = jI 2 from rfl, jI_mul, show (2 : Int) * (wn (S 0 o) : Int) = ((2 * wn (S 0 o) : Nat) : Int) by omega]
              have lp : ∀ (n c : Nat) (M' : MM), c = 2 * i + n → c ≤ 2 * wn (S 0 o) → Fr sR4 M1 M' → (∀ d, (17 * o + 2 + c < d → d ≤ 17 * o + 2 + 2 * wn (S 0 o) → mI M' 204 d = mI M1 204 (d - 2)) ∧ (¬ (17 * o + 2 + c < d ∧ d ≤ 17 * o + 2 + 2 * wn (S 0 o)) → mI M' 204 d = mI M1 204 d)) → w287_111 (n + 1) 203 (jI (i : Int)) (jI (x : Int)) (jI (y : Int)) (jI ((17 * o : Nat) : Int)) (jI (c : Int)) M' P := by
                intro n
                induction n with
                | zero =>
                  intro c M' e cn hF hI
                  have hL' := hF.1 hL1
                  have en : mI M' 204 (17 * o) = jI (wn (S 0 o) : Int) := ((hI (17 * o)).2 (by omega)).trans hW1.1
                  have z1 : jI ((17 * o : Nat) : Int) + jI 1 + jI (2 * (i : Int)) = jI ((17 * o + 1 + 2 * i : Nat) : Int) := by rw [jI_add, jI_add]; exact congrArg jI (by omega)
                  have z2 : jI ((17 * o : Nat) : Int) + jI 2 + jI (2 * (i : Int)) = jI ((17 * o + 2 + 2 * i : Nat) : Int) := by rw [jI_add, jI_add]; exact congrArg jI (by omega)
                  unfold w287_111
                  rw [show (2 : Int32) = jI 2 from rfl, show (1 : Int32) = jI 1 from rfl, jI_mul, z1, z2, jI_cn (k := 17 * o) (by omega), jI_cn (k := 17 * o + 1 + 2 * i) (by omega), jI_cn (k := 17 * o + 2 + 2 * i) (by omega)]
                  refine br_t (by rw [jI_le (by omega) (by omega) (by omega) (by omega)]; omega) ⟨kd_203 hL', 204, rf_203_0 hL', i204 hL' (by omega), kd_203 hL', 204, rf_203_0 hL', i204 hL' (by omega), kd_203 hL', 204, rf_203_0 hL', i204 hL' (by omega), i204 hL' (by omega), ?_⟩
                  rw [gI_n (by omega), gI_n (by omega), en, jI_add, c_s1]
                  unfold w287_187
                  rw [jI_cn (k := 17 * o) (by omega)]
                  refine ⟨kd_203 hL', 204, rf_203_0 hL', i204 hL' (by omega), kd_203 hL', kd_203 hL', ?_⟩
                  rw [gI_y ⟨rfl, rfl⟩]
                  have fo : Fr sR4 M1 (sI (sI (sI (sI M' 204 (17 * o + 1 + 2 * i) (jI (x : Int))) 204 (17 * o + 2 + 2 * i) (jI (y : Int))) 204 (17 * o) (jI ((wn (S 0 o) + 1 : Nat) : Int))) 203 9 0) := Fr_sI (Fr_sI (Fr_sI (Fr_sI hF (sB_t2 (by omega))) (sB_t2 (by omega))) (sB_t2 (by omega))) (sB_t1 (by omega))
                  have tr : RBk (sI (sI (sI (sI M' 204 (17 * o + 1 + 2 * i) (jI (x : Int))) 204 (17 * o + 2 + 2 * i) (jI (y : Int))) 204 (17 * o) (jI ((wn (S 0 o) + 1 : Nat) : Int))) 203 9 0) 204 (17 * o) (adW (S 0 o) i x y) := by
                    refine ⟨by rw [gI_n (by omega), gI_y ⟨rfl, rfl⟩]; rfl, fun t ht => ?_⟩
                    have ht' : t < wn (S 0 o) + 1 := ht
                    show _ = jI (ad1 i x (wx (S 0 o)) t) ∧ _ = jI (ad1 i y (wy (S 0 o)) t)
                    rcases Nat.lt_trichotomy t i with c | c | c
                    · rw [ad1_l c, ad1_l c]
                      have qt := hW1.2 t (by omega)
                      exact ⟨by rw [gI_n (by omega), gI_n (by omega), gI_n (by omega), gI_n (by omega), (hI _).2 (by omega)]; exact qt.1, by rw [gI_n (by omega), gI_n (by omega), gI_n (by omega), gI_n (by omega), (hI _).2 (by omega)]; exact qt.2⟩
                    · rw [ad1_e c, ad1_e c, c]
                      exact ⟨by rw [gI_n (by omega), gI_n (by omega), gI_n (by omega), gI_y ⟨rfl, rfl⟩], by rw [gI_n (by omega), gI_n (by omega), gI_y ⟨rfl, rfl⟩]⟩
                    · rw [ad1_g c, ad1_g c]
                      have qt := hW1.2 (t - 1) (by omega)
                      rw [show 17 * o + 1 + 2 * (t - 1) = 17 * o + 1 + 2 * t - 2 by omega, show 17 * o + 2 + 2 * (t - 1) = 17 * o + 2 + 2 * t - 2 by omega] at qt
                      exact ⟨by rw [gI_n (by omega), gI_n (by omega), gI_n (by omega), gI_n (by omega), (hI _).1 (by omega) (by omega)]; exact qt.1, by rw [gI_n (by omega), gI_n (by omega), gI_n (by omega), gI_n (by omega), (hI _).1 (by omega) (by omega)]; exact qt.2⟩
                  obtain ⟨s1, s2⟩ := RA_act hC ho f1 r1 fo tr (fun d hd => by rw [gI_n (by omega), gI_n (by omega), gI_n (by omega), gI_n (by omega)]; exact (hI d).2 (by omega)) (ad_g ga (by omega) (by omega) (by omega) (by omega) b1 b2)
                  exact hX _ _ _ _ s2 (gI_y ⟨rfl, rfl⟩) rfl s1
                | succ n ih =>
                  intro c M' e cn hF hI
                  have hL' := hF.1 hL1
                  have z1 : jI ((17 * o : Nat) : Int) + jI (c : Int) = jI ((17 * o + c : Nat) : Int) := by rw [jI_add]; exact congrArg jI (by omega)
                  have z2 : jI ((17 * o : Nat) : Int) + jI 2 + jI (c : Int) = jI ((17 * o + 2 + c : Nat) : Int) := by rw [jI_add, jI_add]; exact congrArg jI (by omega)
                  have z3 : jI (c : Int) + (-1) = jI ((c - 1 : Nat) : Int) := by rw [show (-1 : Int32) = jI (-1) from rfl, jI_add]; exact congrArg jI (by omega)
                  unfold w287_111
                  rw [show (2 : Int32) = jI 2 from rfl, jI_mul]
                  refine br_f (by rw [jI_le (by omega) (by omega) (by omega) (by omega)]; omega) ?_
                  rw [z1, z2, z3, jI_cn (k := 17 * o + c) (by omega), jI_cn (k := 17 * o + 2 + c) (by omega)]
                  refine ⟨kd_203 hL', kd_203 hL', 204, rf_203_0 hL', i204 hL' (by omega), i204 hL' (by omega), ?_⟩
                  rw [(hI (17 * o + c)).2 (by omega)]
                  refine ih (c - 1) _ (by omega) (by omega) (Fr_sI hF (sB_t2 (by omega))) (fun d => ⟨fun y1 y2 => ?_, fun y => ?_⟩)
                  · by_cases x : d = 17 * o + 2 + c
                    · rw [gI_y ⟨rfl, x⟩, x]
                      exact congrArg (mI M1 204) (by omega)
                    · rw [gI_n (by omega)]; exact (hI d).1 (by omega) y2
                  · rw [gI_n (by omega)]; exact (hI d).2 (by omega)
              exact lp (2 * (wn (S 0 o) - i)) (2 * wn (S 0 o)) M1 (by omega) (Nat.le_refl _) Fr_r (fun d => ⟨fun y1 y2 => by omega, fun _ => rfl⟩)
        · rw [if_pos (by omega)] at hX
          exact ⟨kd_203 hL, kd_203 hL, hX _ _ _ _ FrR_9 (gI_y ⟨rfl, rfl⟩) rfl (RA_s hC)⟩
/-- while a way is turned: i pairs are changed -/
def swp (i n : Nat) (f : Nat → Int) (t : Nat) : Int := if t < i ∨ n - 1 - t < i then f (n - 1 - t) else f t
theorem swp_e {i n t : Nat} {f : Nat → Int} (h : n / 2 ≤ i) (ht : t < n) : swp i n f t = f (n - 1 - t) := by
  unfold swp
  by_cases c : t < i ∨ n - 1 - t < i
  · rw [if_pos c]
  · rw [if_neg c, show n - 1 - t = t by omega]
theorem swp_n {i n t : Nat} {f : Nat → Int} (h : t ≠ i) (h2 : t ≠ n - 1 - i) (ht : t < n) (hi : i < n) : swp (i + 1) n f t = swp i n f t := by
  unfold swp
  by_cases c : t < i ∨ n - 1 - t < i
  · rw [if_pos c, if_pos (by omega)]
  · rw [if_neg c, if_neg (by omega)]
theorem swp_1 {i n : Nat} {f : Nat → Int} : swp (i + 1) n f i = f (n - 1 - i) := if_pos (by omega)
theorem swp_2 {i n : Nat} {f : Nat → Int} (h : i < n) : swp (i + 1) n f (n - 1 - i) = f i := by
  unfold swp
  rw [if_pos (by omega), show n - 1 - (n - 1 - i) = i by omega]
theorem swp_a {i n : Nat} {f : Nat → Int} (h : i < n - 1 - i) : swp i n f i = f i := if_neg (by omega)
theorem swp_b {i n : Nat} {f : Nat → Int} (h : i < n - 1 - i) : swp i n f (n - 1 - i) = f (n - 1 - i) := if_neg (by omega)
theorem w289_q {M : MM} {k A : Nat} {S : Nat → Nat → WY} {l1 : Int32} {P : Int32 → MM → Prop} (hL : Lay M) (hC : RA M k A S) (hX : ∀ M' x r st, Fr sRt M M' → mI M' 203 9 = st → (x, r, st) = turA k (S 0) l1 → RA M' k (acA x A) (acS x S) → P r M') : w289 203 l1 M P := by
  have hW := hC.1
  have k4 := hW.2.1
  unfold turA at hX
  refine ⟨kd_203 hL, w182_s (RWs_RW hL hW) ?_⟩
  cases c1 : isWb k l1 with
  | false =>
    rw [c1, if_neg (by decide)] at hX
    exact br_f (fun z => z rfl) ⟨kd_203 hL, kd_203 hL, hX _ _ _ _ FrR_9 (gI_y ⟨rfl, rfl⟩) rfl (RA_s hC)⟩
  | true =>
    rw [c1, if_pos rfl] at hX
    obtain ⟨o, ho, rfl⟩ := isWb_j k4 c1
    have e3 : (jI (o : Int)).toNatClampNeg = o := jI_cn (by omega)
    rw [e3] at hX
    have ga := (hW.2.2 o ho).1
    have a1 := ga.1
    have a2 := ga.2.1
    refine br_t (by decide) ⟨kd_203 hL, w286_s (W' := upW (S 0) o (tw (S 0 o))) hL hC (fun M1 f1 r1 => ?_)⟩
    have hL1 := f1.1 hL
    have hW1s : RWs M1 k (S 0) := RWs_fr f1 (sB_f (by omega) (by omega)) (fun k => sB_f (by omega) (by omega)) hW
    have hW1 : RBk M1 204 (17 * o) (S 0 o) := RWs_b hW1s ho
    refine ⟨kd_203 hL1, w180_q hL1 hW1s ho ⟨wn (S 0 o) / 2 + 1, ?_⟩⟩
    have lp : ∀ (m i : Nat) (M' : MM), i + m = wn (S 0 o) / 2 → Fr sR4 M1 M' → mI M' 204 (17 * o) = jI (wn (S 0 o) : Int) → (∀ t, t < wn (S 0 o) → mI M' 204 (17 * o + 1 + 2 * t) = jI (swp i (wn (S 0 o)) (wx (S 0 o)) t) ∧ mI M' 204 (17 * o + 2 + 2 * t) = jI (swp i (wn (S 0 o)) (wy (S 0 o)) t)) → (∀ c, c < 17 * o ∨ 17 * o + 17 ≤ c → mI M' 204 c = mI M1 204 c) → w289_26 (m + 1) 203 (jI (o : Int)) (jI (wn (S 0 o) : Int)) (jI (i : Int)) M' P := by
      intro m
      induction m with
      | zero =>
        intro i M' e hF hn hI hO
        have hL' := hF.1 hL1
        unfold w289_26
        rw [show (2 : Int32) = jI 2 from rfl, jI_div (by omega) (by omega) (by omega) (by omega)]
        refine ⟨by decide, br_t (by rw [jI_le (by omega) (by omega) (by omega) (by omega)]; omega) ⟨kd_203 hL', kd_203 hL', ?_⟩⟩
        have tr : RBk (sI M' 203 9 0) 204 (17 * o) (tw (S 0 o)) := by
          refine ⟨by rw [gI_n (by omega)]; exact hn, fun t ht => ?_⟩
          have ht' : t < wn (S 0 o) := ht
          have q := hI t ht'
          rw [swp_e (by omega) ht', swp_e (by omega) ht'] at q
          exact ⟨by rw [gI_n (by omega)]; exact q.1, by rw [gI_n (by omega)]; exact q.2⟩
        obtain ⟨s1, s2⟩ := RA_act hC ho f1 r1 (Fr_sI hF (sB_t1 (by omega))) tr (fun d hd => by rw [gI_n (by omega)]; exact hO d hd) (tw_g ga)
        exact hX _ _ _ _ s2 (gI_y ⟨rfl, rfl⟩) rfl s1
      | succ m ih =>
        intro i M' e hF hn hI hO
        have hL' := hF.1 hL1
        have qa := hI i (by omega)
        have qb := hI (wn (S 0 o) - 1 - i) (by omega)
        rw [swp_a (by omega), swp_a (by omega)] at qa
        rw [swp_b (by omega), swp_b (by omega)] at qb
        unfold w289_26
        rw [show (2 : Int32) = jI 2 from rfl, jI_div (by omega) (by omega) (by omega) (by omega)]
        refine ⟨by decide, br_f (by rw [jI_le (by omega) (by omega) (by omega) (by omega)]; omega) ⟨3, ?_⟩⟩
        have z1 : ∀ c : Nat, jI 17 * jI (o : Int) + jI 2 * jI (i : Int) + jI (c : Int) = jI ((17 * o + c + 2 * i : Nat) : Int) := fun c => by rw [jI_mul, jI_mul, jI_add, jI_add]; exact congrArg jI (by omega)
        have z2 : ∀ c : Nat, jI 17 * jI (o : Int) + jI 2 * (jI (wn (S 0 o) : Int) - jI 1 - jI (i : Int)) + jI (c : Int) = jI ((17 * o + c + 2 * (wn (S 0 o) - 1 - i) : Nat) : Int) := fun c => by rw [jI_mul, jI_sub, jI_sub, jI_mul, jI_add, jI_add]; exact congrArg jI (by omega)
        -- one change of two ints
        have st : ∀ (c n2 : Nat) (M2 : MM), 1 ≤ c → c ≤ 2 → Lay M2 → w289_36 (fun z0 z1 z2 z3 z4 => w289_26 (m + 1) z0 z1 z2 z3 z4 P) n2 203 (jI (o : Int)) (jI (wn (S 0 o) : Int)) (jI (i : Int)) (jI ((c + 1 : Nat) : Int)) (sI (sI M2 204 (17 * o + c + 2 * i) (mI M2 204 (17 * o + c + 2 * (wn (S 0 o) - 1 - i)))) 204 (17 * o + c + 2 * (wn (S 0 o) - 1 - i)) (mI M2 204 (17 * o + c + 2 * i))) P → w289_36 (fun z0 z1 z2 z3 z4 => w289_26 (m + 1) z0 z1 z2 z3 z4 P) (n2 + 1) 203 (jI (o : Int)) (jI (wn (S 0 o) : Int)) (jI (i : Int)) (jI (c : Int)) M2 P := fun c n2 M2 c1 c2 hL2 h => by
          unfold w289_36 w174
          dsimp only
          rw [show (17 : Int32) = jI 17 from rfl, show (2 : Int32) = jI 2 from rfl, show (1 : Int32) = jI 1 from rfl, z1 c, z2 c, jI_cn (k := 17 * o + c + 2 * i) (by omega), jI_cn (k := 17 * o + c + 2 * (wn (S 0 o) - 1 - i)) (by omega)]
          refine br_f (by rw [show (3 : Int32) = jI 3 from rfl, jI_le (by omega) (by omega) (by omega) (by omega)]; omega) ⟨kd_203 hL2, 204, rf_203_0 hL2, i204 hL2 (by omega), kd_203 hL2, kd_203 hL2, 204, rf_203_0 hL2, i204 hL2 (by omega), i204 hL2 (by omega), kd_203 hL2, 204, rf_203_0 hL2, i204 hL2 (by omega), ?_⟩
          unfold w289_104
          rw [show (1 : Int32) = jI 1 from rfl, jI_add, c_s1]
          exact h
        refine st 1 2 M' (by omega) (by omega) hL' (st 2 1 _ (by omega) (by omega) hL' ?_)
        unfold w289_36
        refine br_t (by rw [show (3 : Int32) = jI 3 from rfl, jI_le (by omega) (by omega) (by omega) (by omega)]; omega) ?_
        rw [show (1 : Int32) = jI 1 from rfl, jI_add, c_s1]
        refine ih (i + 1) _ (by omega) (Fr_sI (Fr_sI (Fr_sI (Fr_sI hF (sB_t2 (by omega))) (sB_t2 (by omega))) (sB_t2 (by omega))) (sB_t2 (by omega))) (by rw [gI_n (by omega), gI_n (by omega), gI_n (by omega), gI_n (by omega)]; exact hn) (fun t ht => ?_) (fun c hc => by rw [gI_n (by omega), gI_n (by omega), gI_n (by omega), gI_n (by omega)]; exact hO c hc)
        by_cases t1 : t = i
        · rw [t1, swp_1, swp_1]
          refine ⟨?_, ?_⟩
          · rw [gI_n (by omega), gI_n (by omega), gI_n (by omega), gI_y ⟨rfl, rfl⟩]; exact qb.1
          · rw [gI_n (by omega), gI_y ⟨rfl, rfl⟩, gI_n (by omega), gI_n (by omega)]; exact qb.2
        · by_cases t2 : t = wn (S 0 o) - 1 - i
          · rw [t2, swp_2 (by omega), swp_2 (by omega)]
            refine ⟨?_, ?_⟩
            · rw [gI_n (by omega), gI_n (by omega), gI_y ⟨rfl, rfl⟩]; exact qa.1
            · rw [gI_y ⟨rfl, rfl⟩, gI_n (by omega), gI_n (by omega)]; exact qa.2
          · have q := hI t ht
            rw [swp_n t1 t2 ht (by omega), swp_n t1 t2 ht (by omega)]
            exact ⟨by rw [gI_n (by omega), gI_n (by omega), gI_n (by omega), gI_n (by omega)]; exact q.1, by rw [gI_n (by omega), gI_n (by omega), gI_n (by omega), gI_n (by omega)]; exact q.2⟩
    exact lp (wn (S 0 o) / 2) 0 M1 (by omega) Fr_r hW1.1 (fun t ht => by
      have e0 : ∀ f : Nat → Int, swp 0 (wn (S 0 o)) f t = f t := fun f => if_neg (by omega)
      rw [e0, e0]
      exact hW1.2 t ht) (fun c _ => rfl)
