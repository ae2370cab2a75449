/-! ===== piece: the reference ===== -/
theorem bst_r {M : MM} {v : Nat → Bool} {S : Nat → Int × Int} {e m : Nat} {n d n' d' : Int} {T Sk : MM → Prop} (hv : v e = true) (ha : agv v (bC S) e = some m) (hR : isR S e n d) (hR' : isR S m n' d') (hT : agv v (bC S) (e + 1) = some e → T M) (hS : agv v (bC S) (e + 1) = agv v (bC S) e → Sk M) : w199 (jL n) (jL d) (jL n') (jL d') M (fun r M5 => (r < 0 → T M5) ∧ (¬ (r < 0) → Sk M5)) := by
  have b1 := pr_b hR.1 hR'.1
  have b2 := pr_b hR'.1 hR.1
  refine w199_s (by omega) (by omega) (fun r r1 r2 r3 r4 => ?_)
  rw [show (jI r < (0 : Int32)) = (jI r < jI 0) from rfl, jI_lt (by omega) (by omega) (by omega) (by omega), r3]
  have c := isR_c hR hR'
  have es := agv_1 (c := bC S) hv ha
  rw [← c] at es
  refine ⟨fun z => hT (by rw [es, if_pos (decide_eq_true z)]), fun z => hS (by rw [es, if_neg (fun y => z (of_decide_eq_true y)), ha])⟩
def rbs (M : MM) (S : Nat → Int × Int) (o : Option Nat) : Prop := (o = none ∧ mI M 203 63 = -1) ∨ ∃ m n d, o = some m ∧ isR S m n d ∧ mI M 203 63 = jI ((m / 8 : Nat) : Int) ∧ mI M 203 64 = jI ((m % 8 : Nat) : Int) ∧ mL M 203 65 = jL n ∧ mL M 203 66 = jL d
theorem rbs_fr {A : Nat → Nat → Bool} {M M' : MM} {S : Nat → Int × Int} {o : Option Nat} (hF : Fr A M M') (h0 : ∀ k, 63 ≤ k → k ≤ 66 → A 203 k = false) (h : rbs M S o) : rbs M' S o := by
  rcases h with ⟨h1, h2⟩ | ⟨m, n, d, x1, x2, x3, x4, x5, x6⟩
  · exact Or.inl ⟨h1, (Fr_I hF (h0 _ (by omega) (by omega))).trans h2⟩
  · exact Or.inr ⟨m, n, d, x1, x2, (Fr_I hF (h0 _ (by omega) (by omega))).trans x3, (Fr_I hF (h0 _ (by omega) (by omega))).trans x4, (Fr_L hF (h0 _ (by omega) (by omega))).trans x5, (Fr_L hF (h0 _ (by omega) (by omega))).trans x6⟩
def sPq : Nat → Nat → Bool := sB 203 28 66 212 228
theorem sPq_t {x k : Nat} (h : (x = 203 ∧ 28 ≤ k ∧ k ≤ 66) ∨ (212 ≤ x ∧ x ≤ 228)) : sPq x k = true := by
  rcases h with ⟨rfl, h⟩ | h
  · exact sB_t1 h
  · exact sB_t2 h
theorem sRB_P {x k : Nat} (h : sPq x k = false) : sRB x k = false := by
  refine sB_f (fun z => ?_) (fun z => ?_)
  · rw [sPq_t (by omega)] at h; cases h
  · rw [sPq_t (by omega)] at h; cases h
theorem sSh_P {x k : Nat} (h : sPq x k = false) : sSh x k = false := by
  refine sB_f (fun z => ?_) (fun z => ?_)
  · rw [sPq_t (by omega)] at h; cases h
  · rw [sPq_t (by omega)] at h; cases h
theorem RA1_fr {A : Nat → Nat → Bool} {M M' : MM} {a : WY} (hF : Fr A M M') (h1 : A 203 27 = false) (h2 : ∀ x k, 210 ≤ x → x ≤ 211 → A x k = false) (h : RA1 M a) : RA1 M' a := ⟨(Fr_I hF h1).trans h.1, fun i hi => ⟨(Fr_I hF (h2 _ _ (by omega) (by omega))).trans (h.2 i hi).1, (Fr_I hF (h2 _ _ (by omega) (by omega))).trans (h.2 i hi).2⟩⟩
theorem RA1_q {M M' : MM} {a : WY} (hF : Fr sPq M M') (h : RA1 M a) : RA1 M' a := RA1_fr hF (sB_f (by omega) (by omega)) (fun x k _ _ => sB_f (by omega) (by omega)) h
theorem sPq_Q {x k : Nat} (h : sRQ x k = false) : sPq x k = false := by
  refine sB_f (fun z => ?_) (fun z => ?_)
  · rw [z.1, sRQ_1 (by omega)] at h; cases h
  · rw [sRQ_2 (by omega)] at h; cases h
theorem w261_34_s {M0 : MM} {kk o i : Nat} {W : Nat → WY} {a : WY} {K : Nat → Int32 → Int32 → MM → Prop} {P : MM → Prop} (hL0 : Lay M0) (hW0 : RWs M0 kk W) (ho : o < kk) (hA : RA1 M0 a) (ga : gW a) (hi : i < wn (W o))
    (hX : ∀ M', Fr sPq M0 M' → rbs M' (pcS a (W o)) (agv (pcV (W o)) (bC (pcS a (W o))) (8 * i + wn (W o))) → K 203 (jI (o : Int)) (jI ((i + 1 : Nat) : Int)) M') :
    ∀ (q k : Nat) (M : MM), k + q = wn (W o) → i < k → Fr sPq M0 M → rbs M (pcS a (W o)) (agv (pcV (W o)) (bC (pcS a (W o))) (8 * i + k)) → w261_34 K (q + 1) 203 (jI (o : Int)) (jI (i : Int)) (jI (k : Int)) M P := by
  have gb := (hW0.2.2 o ho).1
  have b2 := gb.2.1
  intro q
  induction q with
  | zero =>
    intro k M hk ik h hb
    have hL := h.1 hL0
    have hW : RWs M kk W := RWs_fr h (sB_f (by omega) (by omega)) (fun q => sB_f (by omega) (by omega)) hW0
    refine ⟨kd_203 hL, w180_q hL hW ho (br_t (by rw [jI_le (by omega) (by omega) (by omega) (by omega)]; omega) ?_)⟩
    rw [show jI (i : Int) + 1 = jI ((i + 1 : Nat) : Int) by rw [show (1 : Int32) = jI 1 from rfl, jI_add, c_s1]]
    rw [show k = wn (W o) by omega] at hb
    exact hX M h hb
  | succ q ih =>
    intro k M hk ik h hb
    have hL := h.1 hL0
    have hW : RWs M kk W := RWs_fr h (sB_f (by omega) (by omega)) (fun q => sB_f (by omega) (by omega)) hW0
    have hk' : k < wn (W o) := by omega
    have ek : jI (k : Int) + 1 = jI ((k + 1 : Nat) : Int) := by rw [show (1 : Int32) = jI 1 from rfl, jI_add, c_s1]
    refine ⟨kd_203 hL, w180_q hL hW ho (br_f (by rw [jI_le (by omega) (by omega) (by omega) (by omega)]; omega) ⟨kd_203 hL, w213_s hL hW ho (by omega) hk' (fun M1 h1 t2 => ?_)⟩)⟩
    have hF1 : Fr sPq M0 M1 := Fr_t h (Fr_w h1 (fun x k => sRB_P))
    have hL1 := hF1.1 hL0
    refine ⟨kd_203 hL1, w245_s hL1 (RAB_i (RA1_q hF1 hA) t2) ga (pc_g gb ik hk') (Or.inl rfl) (fun M2 n d h2 hs f0 f1 _ => ?_)⟩
    have hF2 : Fr sPq M0 M2 := Fr_t hF1 (Fr_w h2 (fun x k => sSh_P))
    have hL2 := hF2.1 hL0
    have hb2 : rbs M2 (pcS a (W o)) (agv (pcV (W o)) (bC (pcS a (W o))) (8 * i + k)) := rbs_fr h2 (fun k _ _ => sB_f (by omega) (by omega)) (rbs_fr h1 (fun k _ _ => sB_f (by omega) (by omega)) hb)
    have hR := isR_s (S := pcS a (W o)) (e := 8 * i + k) hs (pcS_t (by omega))
    have hv := pcV_t (b := W o) (i := i) (k := k) (by omega) ik hk'
    have tk : agv (pcV (W o)) (bC (pcS a (W o))) (8 * i + k + 1) = some (8 * i + k) → w261_90 K (fun z0 z1 z2 z3 z4 => w261_34 K (q + 1) z0 z1 z2 z3 z4 P) 203 (jI (o : Int)) (jI (i : Int)) (jI (k : Int)) M2 P := fun hn => by
      refine ⟨kd_203 hL2, kd_203 hL2, kd_203 hL2, kd_203 hL2, kd_203 hL2, kd_203 hL2, ?_⟩
      unfold w261_117
      rw [ek, gL_n (by omega), gL_sI, gL_sI, gL_sI, gL_sI, f0, f1]
      refine ih (k + 1) _ (by omega) (by omega) (Fr_sL (Fr_sL (Fr_sI (Fr_sI hF2 (sPq_t (by omega))) (sPq_t (by omega))) (sPq_t (by omega))) (sPq_t (by omega))) (Or.inr ⟨8 * i + k, n, d, hn, hR, ?_, ?_, ?_, ?_⟩)
      · rw [gI_sL, gI_sL, gI_n (by omega), gI_y ⟨rfl, rfl⟩, show (8 * i + k) / 8 = i by omega]
      · rw [gI_sL, gI_sL, gI_y ⟨rfl, rfl⟩, show (8 * i + k) % 8 = k by omega]
      · rw [gL_n (by omega), gL_y ⟨rfl, rfl⟩]
      · rw [gL_y ⟨rfl, rfl⟩]
    refine ⟨kd_203 hL2, ?_⟩
    rcases hb2 with ⟨z1, z2⟩ | ⟨m, n', d', z1, hR', z2, z3, z4, z5⟩
    · exact br_t z2 (tk (agv_0 hv z1))
    · refine br_f ?_ ⟨kd_203 hL2, kd_203 hL2, kd_203 hL2, kd_203 hL2, ?_⟩
      · have ml := agv_l z1
        rw [z2, show (-1 : Int32) = jI (-1) from rfl, jI_eq (by omega) (by omega) (by omega) (by omega)]; omega
      rw [f0, f1, z4, z5]
      refine bst_r (T := fun M => w261_90 K (fun z0 z1 z2 z3 z4 => w261_34 K (q + 1) z0 z1 z2 z3 z4 P) 203 (jI (o : Int)) (jI (i : Int)) (jI (k : Int)) M P) (Sk := fun M => w261_117 K (fun z0 z1 z2 z3 z4 => w261_34 K (q + 1) z0 z1 z2 z3 z4 P) 203 (jI (o : Int)) (jI (i : Int)) (jI (k : Int)) M P) hv z1 hR hR' tk (fun hn => ?_)
      show w261_117 _ _ _ _ _ _ _ _
      unfold w261_117
      rw [ek]
      refine ih (k + 1) M2 (by omega) (by omega) hF2 ?_
      rw [show 8 * i + (k + 1) = 8 * i + k + 1 from rfl, hn]
      exact Or.inr ⟨m, n', d', z1, hR', z2, z3, z4, z5⟩
def sPw : Nat → Nat → Bool := sB 203 27 66 210 228
theorem sPw_Q {x k : Nat} (h : sRQ x k = false) : sPw x k = false := by
  refine sB_f (fun z => ?_) (fun z => ?_)
  · rw [z.1, sRQ_1 (by omega)] at h; cases h
  · rw [sRQ_2 (by omega)] at h; cases h
theorem w261_s {M : MM} {kk w o : Nat} {W : Nat → WY} {P : MM → Prop} (hL : Lay M) (hW : RWs M kk W) (hw : w < kk) (ho : o < kk) (hX : ∀ M' n d, Fr sPw M M' → isR (pcS (W w) (W o)) (pcB (W w) (W o)) n d → mI M' 203 63 = jI ((pcB (W w) (W o) / 8 : Nat) : Int) → mI M' 203 64 = jI ((pcB (W w) (W o) % 8 : Nat) : Int) → mL M' 203 65 = jL n → mL M' 203 66 = jL d → P M') : w261 203 (jI (w : Int)) (jI (o : Int)) M P := by
  have ga := (hW.2.2 w hw).1
  have gb := (hW.2.2 o ho).1
  have a1 := ga.1
  have b1 := gb.1
  have b2 := gb.2.1
  have h0 : Fr sPw M (sI M 203 63 (-1)) := Fr_sI Fr_r (sB_t1 (by omega))
  have g0 : mI (sI M 203 63 (-1)) 203 63 = -1 := gI_y ⟨rfl, rfl⟩
  have hL0 := h0.1 hL
  have hW0 : RWs (sI M 203 63 (-1)) kk W := RWs_fr h0 (sB_f (by omega) (by omega)) (fun q => sB_f (by omega) (by omega)) hW
  refine ⟨kd_203 hL, kd_203 hL, ?_⟩
  generalize sI M 203 63 (-1) = M0 at *
  refine w180_q hL0 hW0 hw ⟨kd_203 hL0, ?_⟩
  rw [show jI (wn (W w) : Int) - 1 = jI ((wn (W w) - 1 : Nat) : Int) by rw [show (1 : Int32) = jI 1 from rfl, jI_sub]; congr 1; omega]
  refine w212_s (i0 := 0) hL0 hW0 hw (by omega) (by omega) (fun M1 h1 r1 => ?_)
  have hF1 : Fr sPw M M1 := Fr_t h0 (Fr_w h1 (fun x k z => sB_w (by omega) (by omega) x k z))
  have hL1 := hF1.1 hL
  have hW1 : RWs M1 kk W := RWs_fr hF1 (sB_f (by omega) (by omega)) (fun q => sB_f (by omega) (by omega)) hW
  have hA1 := RA1_c r1 (pc_all ga)
  have hb1 : rbs M1 (pcS (W w) (W o)) (agv (pcV (W o)) (bC (pcS (W w) (W o))) (8 * 0)) := Or.inl ⟨rfl, (Fr_I h1 (sB_f (by omega) (by omega))).trans g0⟩
  have lp : ∀ (q i : Nat) (M' : MM), i + q = wn (W o) → Fr sPq M1 M' → rbs M' (pcS (W w) (W o)) (agv (pcV (W o)) (bC (pcS (W w) (W o))) (8 * i)) → w261_20 (q + 1) 203 (jI (o : Int)) (jI (i : Int)) M' P := by
    intro q
    induction q with
    | zero =>
      intro i M' hi h hb
      have hL' := h.1 hL1
      have hW' : RWs M' kk W := RWs_fr h (sB_f (by omega) (by omega)) (fun q => sB_f (by omega) (by omega)) hW1
      refine ⟨kd_203 hL', w180_q hL' hW' ho (br_t (by rw [jI_le (by omega) (by omega) (by omega) (by omega)]; omega) ?_)⟩
      obtain ⟨m, hm⟩ := agv_so (v := pcV (W o)) (c := bC (pcS (W w) (W o))) (e := 8 * i) (x := 1) (by omega) (pcV_t (i := 0) (k := 1) (by omega) (by omega) (by omega))
      have e64 : agv (pcV (W o)) (bC (pcS (W w) (W o))) 64 = agv (pcV (W o)) (bC (pcS (W w) (W o))) (8 * i) := agv_k (by omega) (fun e x1 x2 => decide_eq_false (by omega))
      have eB : pcB (W w) (W o) = m := by unfold pcB; rw [e64, hm]; rfl
      rw [hm] at hb
      rcases hb with ⟨z, _⟩ | ⟨m', n, d, z, hR, y1, y2, y3, y4⟩
      · cases z
      · cases z
        subst eB
        exact hX M' n d (Fr_t hF1 (Fr_w h (fun x k z => sB_w (by omega) (by omega) x k z))) hR y1 y2 y3 y4
    | succ q ih =>
      intro i M' hi h hb
      have hL' := h.1 hL1
      have hW' : RWs M' kk W := RWs_fr h (sB_f (by omega) (by omega)) (fun q => sB_f (by omega) (by omega)) hW1
      refine ⟨kd_203 hL', w180_q hL' hW' ho (br_f (by rw [jI_le (by omega) (by omega) (by omega) (by omega)]; omega) ⟨wn (W o) - (i + 1) + 1, ?_⟩)⟩
      rw [show jI (i : Int) + 1 = jI ((i + 1 : Nat) : Int) by rw [show (1 : Int32) = jI 1 from rfl, jI_add, c_s1]]
      refine w261_34_s hL1 hW1 ho hA1 ga (by omega) (fun M'' h'' hb'' => ih (i + 1) M'' (by omega) h'' ?_) (wn (W o) - (i + 1)) (i + 1) M' (by omega) (by omega) h ?_
      · rw [agv_k (v := pcV (W o)) (x := 8 * i + wn (W o)) (y := 8 * (i + 1)) (by omega) (fun e x1 x2 => decide_eq_false (by omega))]
        exact hb''
      · rw [agv_k (v := pcV (W o)) (x := 8 * i) (y := 8 * i + (i + 1)) (by omega) (fun e x1 x2 => decide_eq_false (by omega))]
        exact hb
  exact ⟨wn (W o) + 1, lp (wn (W o)) 0 M1 (by omega) Fr_r hb1⟩
theorem w260_q {M : MM} {k : Nat} {W : Nat → WY} {l1 l2 l3 : Int32} {P : Int32 → MM → Prop} (hL : Lay M) (hW : RWs M k W) (hX : ∀ M' r st, Fr sRQ M M' → mI M' 203 9 = st → (r, st) = pieA k W l1 l2 l3 → P r M') : w260 203 l1 l2 l3 M P := by
  have hC := RWs_RW hL hW
  have k4 := hW.2.1
  unfold pieA at hX
  have no : ∀ s0, s0 = piC k l1 l2 l3 → ¬ s0 ≤ 0 → w260_19 203 l1 l2 l3 s0 M P := fun s0 e h => by
    subst e
    rw [if_neg (fun z => h (by rw [z]; decide))] at hX
    exact br_f h ⟨kd_203 hL, kd_203 hL, hX _ _ _ (Fr_s9 Fr_r) (gI_y ⟨rfl, rfl⟩) rfl⟩
  refine w166_s ?_
  cases hf : frb l3 0 1 with
  | false => exact br_f (by decide) (no 1 (by unfold piC; rw [if_neg (by rw [hf]; decide)]) (by decide))
  | true =>
    refine br_t (by decide) ⟨kd_203 hL, w202_s hC ?_⟩
    have e : piC k l1 l2 l3 = chk2 k l1 l2 := by unfold piC; rw [if_pos hf]
    by_cases c : chk2 k l1 l2 = 0
    · rw [if_pos (e.trans c)] at hX
      refine br_t (by rw [c]; decide) ?_
      obtain ⟨w, o, rfl, rfl, hw, ho, hne⟩ := chk2_0 k4 c
      rw [jI_cn (by omega), jI_cn (by omega)] at hX
      refine ⟨kd_203 hL, w261_s hL hW hw ho (fun M1 n d h1 hR y1 y2 y3 y4 => ?_)⟩
      have hL1 := h1.1 hL
      have hF1 : Fr sRQ M M1 := Fr_w h1 (fun x k => sPw_Q)
      refine ⟨fun z => ⟨kd_203 hL1, 203, rfl, kd_203 hL1, kd_203 hL1, ?_⟩, fun z => ⟨kd_203 hL1, 203, rfl, kd_203 hL1, kd_203 hL1, ?_⟩⟩
      · rw [if_neg z] at hX
        rw [y2]; exact hX _ _ _ (Fr_s9 hF1) (gI_y ⟨rfl, rfl⟩) rfl
      · rw [if_pos (Classical.not_not.mp z)] at hX
        rw [y1]; exact hX _ _ _ (Fr_s9 hF1) (gI_y ⟨rfl, rfl⟩) rfl
    · exact no _ e.symm (chk2_n c)
theorem w262_q {M : MM} {k : Nat} {W : Nat → WY} {F : Int × Int} {l1 l2 : Int32} {P : Int32 → MM → Prop} (hL : Lay M) (hW : RWs M k W) (hF : RFr M F) (hX : ∀ M' r st F', Fr sRF M M' → mI M' 203 9 = st → RFr M' F' → (r, st, F') = pcsA k W F l1 l2 → P r M') : w262 203 l1 l2 M P := by
  have hC := RWs_RW hL hW
  have k4 := hW.2.1
  unfold pcsA at hX
  refine ⟨kd_203 hL, w202_s hC ?_⟩
  by_cases c : chk2 k l1 l2 = 0
  · rw [if_pos c] at hX
    refine br_t (by rw [c]; decide) ?_
    obtain ⟨w, o, rfl, rfl, hw, ho, hne⟩ := chk2_0 k4 c
    rw [jI_cn (by omega), jI_cn (by omega)] at hX
    refine ⟨kd_203 hL, w261_s hL hW hw ho (fun M1 n d h1 hR y1 y2 y3 y4 => ?_)⟩
    have hL1 := h1.1 hL
    have hF1 : Fr sRF M M1 := Fr_w h1 (fun x k z => sPw_Q (sRF_Q z))
    have nf := isR_f hR
    rw [← nf.1, ← nf.2] at hX
    refine ⟨kd_203 hL1, kd_203 hL1, kd_203 hL1, kd_203 hL1, ?_⟩
    rw [y3, y4]
    refine w195_s hL1 (gE_F hR.1) ⟨kd_203 hL1, Or.inr rfl, ?_⟩
    refine hX _ _ _ (_, _) (Fr_s9F (Fr_sL (Fr_sL hF1 (sRF_1 (by omega))) (sRF_1 (by omega)))) (gI_y ⟨rfl, rfl⟩) ⟨?_, ?_⟩ rfl
    · rw [gL_sI, gL_n (by omega), gL_y ⟨rfl, rfl⟩]
    · rw [gL_sI, gL_y ⟨rfl, rfl⟩]
  · rw [if_neg c] at hX
    exact br_f (chk2_n c) ⟨kd_203 hL, kd_203 hL, Or.inl rfl, hX _ _ _ F (Fr_s9F Fr_r) (gI_y ⟨rfl, rfl⟩) hF rfl⟩
