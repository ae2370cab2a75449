/-! ===== move, add, drop in the reference ===== -/
def sR4 : Nat → Nat → Bool := sB 203 9 9 204 204
theorem RA_act {M M1 M' : MM} {k A o : Nat} {S : Nat → Nat → WY} {a : WY} (h : RA M k A S) (ho : o < k) (f1 : Fr sKp M M1) (c1 : RAc M1 k (min (A + 1) 10) (psh (upW (S 0) o a) S)) (f2 : Fr sR4 M1 M') (t : RBk M' 204 (17 * o) a) (u : ∀ c, c < 17 * o ∨ 17 * o + 17 ≤ c → mI M' 204 c = mI M1 204 c) (g : gW a) : RA M' k (min (A + 1) 10) (psh (upW (S 0) o a) S) ∧ Fr sRt M M' := by
  refine ⟨⟨⟨?_, h.1.2.1, fun w hw => ?_⟩, RAc_fr f2 (sB_f (by omega) (by omega)) (fun k => sB_f (by omega) (by omega)) c1⟩, Fr_t (Fr_w f1 (fun x k z => by have := sRt_i z; exact sB_f (by omega) (by omega))) (Fr_w f2 (fun x k z => by have := sRt_i z; exact sB_f (by omega) (by omega)))⟩
  · exact ((Fr_I f2 (sB_f (by omega) (by omega))).trans (Fr_I f1 (sB_f (by omega) (by omega)))).trans h.1.1
  · show gW (upW (S 0) o a w) ∧ RBk M' 204 (17 * w) (upW (S 0) o a w)
    unfold upW
    by_cases c : w = o
    · subst c; rw [if_pos rfl]; exact ⟨g, t⟩
    · rw [if_neg c]
      have q := (h.1.2.2 w hw).1
      refine ⟨q, RBk_m (RWs_b h.1 hw) q.2.1 (fun d hd => (u _ (by omega)).trans (Fr_I f1 (sB_f (by omega) (by omega))))⟩
theorem w284_s {M : MM} {l3 l4 : Int32} {P : Int32 → MM → Prop} (hP : P (bI (frb l3 0 18 && frb l4 0 18)) M) : w284 l3 l4 M P := by
  refine w166_s ?_
  cases c1 : frb l3 0 18 with
  | false => rw [c1] at hP; exact br_t rfl ⟨Or.inl rfl, hP⟩
  | true =>
    refine br_f (by decide) (w166_s ?_)
    rw [c1] at hP
    cases c2 : frb l4 0 18 with
    | false => rw [c2] at hP; exact br_t rfl ⟨Or.inl rfl, hP⟩
    | true => rw [c2] at hP; exact br_f (by decide) ⟨Or.inr rfl, hP⟩
theorem w285_s {M : MM} {k w : Nat} {W : Nat → WY} {z x y : Int} {P : Int32 → MM → Prop} (hL : Lay M) (hW : RWs M k W) (hw : w < k) (z0 : -2147483648 ≤ z) (z1 : z < 2147483648) (x0 : 0 ≤ x) (x1 : x ≤ 18) (y0 : 0 ≤ y) (y1 : y ≤ 18) (hP : P (bI (atP (W w) z x y)) M) : w285 203 (jI (w : Int)) (jI z) (jI x) (jI y) M P := by
  have ga := (hW.2.2 w hw).1
  have no : atP (W w) z x y = false → w285_34 M P := fun e => ⟨Or.inl rfl, by rw [e] at hP; exact hP⟩
  refine ⟨kd_203 hL, w183_s (RWs_RW hL hW) ?_⟩
  rw [isPb_i hW.2.1 hw ga z0 z1]
  by_cases c : 0 ≤ z ∧ z < wn (W w)
  · rw [decide_eq_true c]
    obtain ⟨i, rfl⟩ : ∃ i : Nat, z = i := ⟨z.toNat, by omega⟩
    have q := ga.2.2.1 i (by omega)
    refine br_f (by decide) ⟨kd_203 hL, w184_q hL hW hw (by omega) ?_⟩
    rw [ne_eq, jI_eq (by omega) (by omega) (by omega) (by omega)]
    refine ⟨fun u => no (decide_eq_false (fun v => u (by have := v.2.2.1; rw [Int.toNat_natCast] at this; exact this))), fun u => ⟨kd_203 hL, w185_q hL hW hw (by omega) ?_⟩⟩
    rw [ne_eq, jI_eq (by omega) (by omega) (by omega) (by omega)]
    refine ⟨fun v => no (decide_eq_false (fun s => v (by have := s.2.2.2; rw [Int.toNat_natCast] at this; exact this))), fun v => ⟨Or.inr rfl, ?_⟩⟩
    rw [show atP (W w) (i : Int) x y = true from decide_eq_true ⟨c.1, c.2, by rw [Int.toNat_natCast]; exact Classical.not_not.mp u, by rw [Int.toNat_natCast]; exact Classical.not_not.mp v⟩] at hP
    exact hP
  · rw [decide_eq_false c]
    exact br_t rfl (no (decide_eq_false (fun s => c ⟨s.1, s.2.1⟩)))
theorem w288_q {M : MM} {k A : Nat} {S : Nat → Nat → WY} {l1 l2 : Int32} {P : Int32 → MM → Prop} (hL : Lay M) (hC : RA M k A S) (hX : ∀ M' x r st, Fr sRt M M' → mI M' 203 9 = st → (x, r, st) = droA k (S 0) l1 l2 → RA M' k (acA x A) (acS x S) → P r M') : w288 203 l1 l2 M P := by
  have hW := hC.1
  have k4 := hW.2.1
  have hg : ∀ w, w < k → gW (S 0 w) := fun w hw => (hW.2.2 w hw).1
  unfold droA at hX
  refine ⟨kd_203 hL, w183_s (RWs_RW hL hW) ?_⟩
  cases c1 : isPb k (cnt (S 0)) l1 l2 with
  | false =>
    rw [c1, if_neg (by decide)] at hX
    exact br_f (fun z => z rfl) ⟨kd_203 hL, kd_203 hL, hX _ _ _ _ FrR_9 (gI_y ⟨rfl, rfl⟩) rfl (RA_s hC)⟩
  | true =>
    rw [c1, if_pos rfl] at hX
    obtain ⟨o, i, rfl, rfl, ho, hi, e1, e2⟩ := isPb_j k4 hg c1
    rw [e1, e2] at hX
    have ga := hg o ho
    have a1 := ga.1
    have a2 := ga.2.1
    refine br_t (by decide) ⟨kd_203 hL, w180_q hL hW ho ?_⟩
    rw [show (2 : Int32) = jI 2 from rfl, ne_eq, jI_eq (by omega) (by omega) (by omega) (by omega)]
    refine ⟨fun z => ⟨kd_203 hL, w275_s hL hW ho hi ?_⟩, fun z => ?_⟩
    · rw [if_neg (by omega)] at hX
      cases c2 : cL (S 0 o) i with
      | false =>
        rw [c2, if_neg (by decide)] at hX
        exact br_f (fun z => z rfl) ⟨kd_203 hL, kd_203 hL, hX _ _ _ _ FrR_9 (gI_y ⟨rfl, rfl⟩) rfl (RA_s hC)⟩
      | true =>
        rw [c2, if_pos rfl] at hX
        refine br_t (by decide) ⟨kd_203 hL, w286_s (W' := upW (S 0) o (lwW (S 0 o) i)) hL hC (fun M1 f1 r1 => ?_)⟩
        have hW1 : RBk M1 204 (17 * o) (S 0 o) := RBk_m (RWs_b hW ho) a2 (fun d _ => Fr_I f1 (sB_f (by omega) (by omega)))
        have hL1 := f1.1 hL
        unfold w174
        rw [show (17 : Int32) = jI 17 from rfl, show (1 : Int32) = jI 1 from rfl, jI_mul, jI_mul, jI_add, show (17 : Int) * (o : Int) = ((17 * o : Nat) : Int) by omega, show (1 : Int) + 2 * (i : Int) = ((1 + 2 * i : Nat) : Int) by omega]
        have lp : ∀ (n c : Nat) (M' : MM), c + n = 2 * wn (S 0 o) - 1 → 1 + 2 * i ≤ c → Fr sR4 M1 M' → (∀ d, (17 * o + (1 + 2 * i) ≤ d → d < 17 * o + c → mI M' 204 d = mI M1 204 (d + 2)) ∧ (¬ (17 * o + (1 + 2 * i) ≤ d ∧ d < 17 * o + c) → mI M' 204 d = mI M1 204 d)) → w288_61 (n + 1) 203 (jI ((17 * o : Nat) : Int)) (jI (c : Int)) M' P := by
          intro n
          induction n with
          | zero =>
            intro c M' e ci hF hI
            have hL' := hF.1 hL1
            have en : mI M' 204 (17 * o) = jI (wn (S 0 o) : Int) := ((hI (17 * o)).2 (by omega)).trans hW1.1
            unfold w288_61
            refine ⟨kd_203 hL', 204, rf_203_0 hL', i204 hL' (by omega), ?_⟩
            rw [jI_cn (by omega), en, show (2 : Int32) = jI 2 from rfl, jI_mul, jI_add]
            refine br_t (by rw [jI_lt (by omega) (by omega) (by omega) (by omega)]; omega) ⟨kd_203 hL', 204, rf_203_0 hL', i204 hL' (by omega), i204 hL' (by omega), kd_203 hL', 204, rf_203_0 hL', i204 hL' (by omega), kd_203 hL', kd_203 hL', ?_⟩
            rw [en, gI_y ⟨rfl, rfl⟩, show (1 : Int32) = jI 1 from rfl, jI_sub, show (wn (S 0 o) : Int) - 1 = ((wn (S 0 o) - 1 : Nat) : Int) by omega]
            have fo : Fr sR4 M1 (sI (sI M' 204 (17 * o) (jI ((wn (S 0 o) - 1 : Nat) : Int))) 203 9 0) := Fr_sI (Fr_sI hF (sB_t2 (by omega))) (sB_t1 (by omega))
            have tr : RBk (sI (sI M' 204 (17 * o) (jI ((wn (S 0 o) - 1 : Nat) : Int))) 203 9 0) 204 (17 * o) (lwW (S 0 o) i) := by
              refine ⟨by rw [gI_n (by omega), gI_y ⟨rfl, rfl⟩]; rfl, fun t ht => ?_⟩
              have ht' : t < wn (S 0 o) - 1 := ht
              show _ = jI (lw1 i (wx (S 0 o)) t) ∧ _ = jI (lw1 i (wy (S 0 o)) t)
              unfold lw1
              rw [gI_n (by omega), gI_n (by omega), gI_n (by omega), gI_n (by omega)]
              by_cases x : t < i
              · rw [if_pos x, if_pos x, (hI _).2 (by omega), (hI _).2 (by omega)]
                exact hW1.2 t (by omega)
              · rw [if_neg x, if_neg x, (hI _).1 (by omega) (by omega), (hI _).1 (by omega) (by omega)]
                exact hW1.2 (t + 1) (by omega)
            obtain ⟨s1, s2⟩ := RA_act hC ho f1 r1 fo tr (fun d hd => by rw [gI_n (by omega), gI_n (by omega)]; exact (hI d).2 (by omega)) (lw_g ga hi c2)
            exact hX _ _ _ _ s2 (gI_y ⟨rfl, rfl⟩) rfl s1
          | succ n ih =>
            intro c M' e ci hF hI
            have hL' := hF.1 hL1
            have en : mI M' 204 (17 * o) = jI (wn (S 0 o) : Int) := ((hI (17 * o)).2 (by omega)).trans hW1.1
            unfold w288_61
            refine ⟨kd_203 hL', 204, rf_203_0 hL', i204 hL' (by omega), ?_⟩
            rw [jI_cn (k := 17 * o) (by omega), en, show (2 : Int32) = jI 2 from rfl, show (1 : Int32) = jI 1 from rfl, jI_mul, jI_add, jI_add, jI_add, jI_add, c_s1, show ((17 * o : Nat) : Int) + (c : Int) = ((17 * o + c : Nat) : Int) by omega, show ((17 * o + c : Nat) : Int) + 2 = ((17 * o + c + 2 : Nat) : Int) by omega]
            refine br_f (by rw [jI_lt (by omega) (by omega) (by omega) (by omega)]; omega) ⟨kd_203 hL', kd_203 hL', 204, rf_203_0 hL', i204 hL' (by omega), i204 hL' (by omega), ?_⟩
            rw [jI_cn (by omega), jI_cn (by omega), (hI (17 * o + c + 2)).2 (by omega)]
            refine ih (c + 1) _ (by omega) (by omega) (Fr_sI hF (sB_t2 (by omega))) (fun d => ⟨fun y1 y2 => ?_, fun y => ?_⟩)
            · by_cases x : d = 17 * o + c
              · rw [gI_y ⟨rfl, x⟩, x]
              · rw [gI_n (by omega)]; exact (hI d).1 y1 (by omega)
            · rw [gI_n (by omega)]; exact (hI d).2 (by omega)
        exact ⟨2 * wn (S 0 o) - 1 - (1 + 2 * i) + 1, lp (2 * wn (S 0 o) - 1 - (1 + 2 * i)) (1 + 2 * i) M1 (by omega) (Nat.le_refl _) Fr_r (fun d => ⟨fun y1 y2 => by omega, fun _ => rfl⟩)⟩
    · rw [if_pos (by omega)] at hX
      exact ⟨kd_203 hL, kd_203 hL, hX _ _ _ _ FrR_9 (gI_y ⟨rfl, rfl⟩) rfl (RA_s hC)⟩
theorem sq_sw (x y : Int) : (x - y) * (x - y) = (y - x) * (y - x) := by rw [← Int.neg_sub y x, Int.neg_mul_neg]
theorem w283_q {M : MM} {k A : Nat} {S : Nat → Nat → WY} {l1 l2 l3 l4 : Int32} {P : Int32 → MM → Prop} (hL : Lay M) (hC : RA M k A S) (hX : ∀ M' x r st, Fr sRt M M' → mI M' 203 9 = st → (x, r, st) = movA k (S 0) l1 l2 l3 l4 → RA M' k (acA x A) (acS x S) → P r M') : w283 203 l1 l2 l3 l4 M P := by
  have hW := hC.1
  have k4 := hW.2.1
  have hg : ∀ w, w < k → gW (S 0 w) := fun w hw => (hW.2.2 w hw).1
  unfold movA at hX
  refine w284_s ?_
  cases d0 : (frb l3 0 18 && frb l4 0 18) with
  | false =>
    rw [d0, if_neg (by decide)] at hX
    exact br_f (fun z => z rfl) ⟨kd_203 hL, kd_203 hL, hX _ _ _ _ FrR_9 (gI_y ⟨rfl, rfl⟩) rfl (RA_s hC)⟩
  | true =>
    rw [d0, if_pos rfl] at hX
    obtain ⟨d1, d2⟩ := Bool.and_eq_true_iff.mp d0
    refine br_t (by decide) ⟨kd_203 hL, w183_s (RWs_RW hL hW) ?_⟩
    cases c1 : isPb k (cnt (S 0)) l1 l2 with
    | false =>
      rw [c1, if_neg (by decide)] at hX
      exact br_f (fun z => z rfl) ⟨kd_203 hL, kd_203 hL, hX _ _ _ _ FrR_9 (gI_y ⟨rfl, rfl⟩) rfl (RA_s hC)⟩
    | true =>
      rw [c1, if_pos rfl] at hX
      obtain ⟨o, i, rfl, rfl, ho, hi, e1, e2⟩ := isPb_j k4 hg c1
      obtain ⟨x, rfl, x0, x1⟩ := frb_j (x := 0) (y := 18) rfl rfl (by omega) (by omega) (by omega) d1
      obtain ⟨y, rfl, y0, y1⟩ := frb_j (x := 0) (y := 18) rfl rfl (by omega) (by omega) (by omega) d2
      rw [e1, e2, jI_cn (k := x) (by omega), jI_cn (k := y) (by omega)] at hX
      have ga := hg o ho
      have a1 := ga.1
      have a2 := ga.2.1
      have four : nrP (S 0 o) i x y = true → w283_70 203 M P := fun e => by
        rw [if_pos e] at hX
        exact ⟨kd_203 hL, kd_203 hL, hX _ _ _ _ FrR_9 (gI_y ⟨rfl, rfl⟩) rfl (RA_s hC)⟩
      refine br_t (by decide) ⟨kd_203 hL, w285_s hL hW ho (by omega) (by omega) (by omega) (by omega) (by omega) (by omega) ?_⟩
      rw [show (1 : Int32) = jI 1 from rfl, jI_sub, jI_add]
      cases b2 : atP (S 0 o) (i : Int) x y with
      | true => exact br_t (by decide) (four (by unfold nrP; rw [b2, Bool.true_or, Bool.or_true]))
      | false =>
        refine br_f (fun z => z rfl) ⟨kd_203 hL, w285_s hL hW ho (by omega) (by omega) (by omega) (by omega) (by omega) (by omega) ?_⟩
        cases b1 : atP (S 0 o) ((i : Int) - 1) x y with
        | true => exact br_t (by decide) (four (by unfold nrP; rw [b1]; rfl))
        | false =>
          refine br_f (fun z => z rfl) ⟨kd_203 hL, w285_s hL hW ho (by omega) (by omega) (by omega) (by omega) (by omega) (by omega) ?_⟩
          cases b3 : atP (S 0 o) ((i : Int) + 1) x y with
          | true => exact br_f (by decide) (four (by unfold nrP; rw [b1, b2, b3]; rfl))
          | false =>
            have nn : nrP (S 0 o) i x y = false := by unfold nrP; rw [b1, b2, b3]; rfl
            rw [if_neg (by rw [nn]; decide)] at hX
            refine br_t rfl ⟨kd_203 hL, w184_q hL hW ho hi ⟨kd_203 hL, w185_q hL hW ho hi ?_⟩⟩
            refine ⟨kd_203 hL, w286_s (W' := upW (S 0) o (mvW (S 0 o) i x y)) hL hC (fun M1 f1 r1 => ?_)⟩
            have hW1 : RBk M1 204 (17 * o) (S 0 o) := RBk_m (RWs_b hW ho) a2 (fun d _ => Fr_I f1 (sB_f (by omega) (by omega)))
            have hL1 := f1.1 hL
            unfold w174
            have z1 : jI 17 * jI (o : Int) + jI 1 + jI 2 * jI (i : Int) = jI ((17 * o + 1 + 2 * i : Nat) : Int) := by rw [jI_mul, jI_mul, jI_add, jI_add]; exact congrArg jI (by omega)
            have z2 : jI 17 * jI (o : Int) + jI 2 + jI 2 * jI (i : Int) = jI ((17 * o + 2 + 2 * i : Nat) : Int) := by rw [jI_mul, jI_mul, jI_add, jI_add]; exact congrArg jI (by omega)
            dsimp only
            rw [show (17 : Int32) = jI 17 from rfl, show (2 : Int32) = jI 2 from rfl, z1, z2, jI_cn (by omega), jI_cn (by omega)]
            refine ⟨kd_203 hL1, 204, rf_203_0 hL1, i204 hL1 (by omega), kd_203 hL1, 204, rf_203_0 hL1, i204 hL1 (by omega), kd_203 hL1, kd_203 hL1, ?_⟩
            rw [jI_sub, jI_sub, jI_mul, jI_mul, jI_add, sq_sw (wx (S 0 o) i), sq_sw (wy (S 0 o) i)]
            have fo : Fr sR4 M1 (sI (sI (sI M1 204 (17 * o + 1 + 2 * i) (jI (x : Int))) 204 (17 * o + 2 + 2 * i) (jI (y : Int))) 203 9 0) := Fr_sI (Fr_sI (Fr_sI Fr_r (sB_t2 (by omega))) (sB_t2 (by omega))) (sB_t1 (by omega))
            have tr : RBk (sI (sI (sI M1 204 (17 * o + 1 + 2 * i) (jI (x : Int))) 204 (17 * o + 2 + 2 * i) (jI (y : Int))) 203 9 0) 204 (17 * o) (mvW (S 0 o) i x y) := by
              refine ⟨by rw [gI_n (by omega), gI_n (by omega), gI_n (by omega)]; exact hW1.1, fun t ht => ?_⟩
              show _ = jI (if t = i then (x : Int) else wx (S 0 o) t) ∧ _ = jI (if t = i then (y : Int) else wy (S 0 o) t)
              by_cases c : t = i
              · rw [if_pos c, if_pos c, c]
                exact ⟨by rw [gI_n (by omega), gI_n (by omega), gI_y ⟨rfl, rfl⟩], by rw [gI_n (by omega), gI_y ⟨rfl, rfl⟩]⟩
              · rw [if_neg c, if_neg c]
                have qt := hW1.2 t ht
                exact ⟨by rw [gI_n (by omega), gI_n (by omega), gI_n (by omega)]; exact qt.1, by rw [gI_n (by omega), gI_n (by omega), gI_n (by omega)]; exact qt.2⟩
            obtain ⟨s1, s2⟩ := RA_act hC ho f1 r1 fo tr (fun d hd => by rw [gI_n (by omega), gI_n (by omega), gI_n (by omega)]) (mv_g ga hi (by omega) (by omega) nn)
            exact hX _ _ _ _ s2 (gI_y ⟨rfl, rfl⟩) rfl s1
