/-! ===== turned: both sides ===== -/
def tw (b : WY) : WY := (wn b, fun x => wx b (wn b - 1 - x), fun x => wy b (wn b - 1 - x))
theorem tw_g {b : WY} (h : gW b) : gW (tw b) := by
  have b1 := h.1
  refine ⟨h.1, h.2.1, fun x hx => h.2.2.1 _ (by omega), fun x hx => ?_⟩
  have hx' : x + 1 < wn b := hx
  have q := h.2.2.2 (wn b - 2 - x) (by omega)
  show ¬ (wx b (wn b - 1 - x) = wx b (wn b - 1 - (x + 1)) ∧ wy b (wn b - 1 - x) = wy b (wn b - 1 - (x + 1)))
  rw [show wn b - 1 - x = wn b - 2 - x + 1 by omega, show wn b - 1 - (x + 1) = wn b - 2 - x by omega]
  exact fun z => q ⟨z.1.symm, z.2.symm⟩
theorem w144_s {M : MM} {t u : Nat} {b : WY} {P : MM → Prop} (hL : Lay M) (ht : isT t = true) (hu : isT u = true) (ha : aprt t u) (hB : TrC M t b) (b1 : 1 ≤ wn b) (b8 : wn b ≤ 8) (hX : ∀ M', Fr (sTk u) M M' → TrC M' u (tw b) → mL M' u 0 = mL M t 0 → P M') : w144 u (some t) M P := by
  refine ⟨t, rfl, kd_T hL ht, kd_T hL hu, w25_s (f := fun x => wx b (wn b - 1 - x)) (g := fun x => wy b (wn b - 1 - x)) hL hu (fun M1 h1 t1 n1 => ⟨kd_T (h1.1 hL) ht, wn b + 1, ?_⟩)⟩
  have lp : ∀ (q x : Nat) (M' : MM), x + q = wn b → Fr (sTk u) M M' → TrC M' u (x, (fun x => wx b (wn b - 1 - x)), (fun x => wy b (wn b - 1 - x))) → mL M' u 0 = mL M t 0 → w144_15 (q + 1) u (some t) (jI ((q : Int) - 1)) M' P := by
    intro q
    induction q with
    | zero =>
      intro x M' hx hF hT hn
      refine br_t (by decide) (hX M' hF ?_ hn)
      rw [show x = wn b by omega] at hT
      exact hT
    | succ q ih =>
      intro x M' hx hF hT hn
      have hL' := hF.1 hL
      have hB' := TrC_k hF ha hB
      have e0 : jI (((q + 1 : Nat) : Int) - 1) = jI (q : Int) := by congr 1; omega
      have e1 : jI (q : Int) + (-1) = jI ((q : Int) - 1) := by rw [show (-1 : Int32) = jI (-1) from rfl, jI_add]; congr 1
      unfold w144_15
      rw [e0, e1]
      refine br_f (by rw [show (0 : Int32) = jI 0 from rfl, jI_lt (by omega) (by omega) (by omega) (by omega)]; omega) ⟨t, rfl, kd_T hL' ht, t + 1, rfx_T hL' ht, inxj hL' ht (by omega), kd_T hL' ht, t + 2, rfy_T hL' ht, inyj hL' ht (by omega), kd_T hL' hu, ?_⟩
      have qb := hB'.2 q (by omega)
      rw [jI_cn (by omega), qb.1, qb.2]
      have := w29_s (f := fun x => wx b (wn b - 1 - x)) (g := fun x => wy b (wn b - 1 - x)) (P := fun M4 => w144_15 (q + 1) u (some t) (jI ((q : Int) - 1)) M4 P) hL' hu hT (by omega) (fun M2 h2 t2 n2 => ih (x + 1) M2 (by omega) (Fr_t hF h2) t2 (n2.trans hn))
      rw [show wn b - 1 - x = q by omega] at this
      exact this
  rw [(TrC_k h1 ha hB).1, show (1 : Int32) = jI 1 from rfl, jI_sub]
  exact lp (wn b) 0 M1 (by omega) h1 t1 n1
theorem isSh_F {kind : Int32} {a b : WY} {n d : Int} (h : isSh kind a b n d) : ft n d = ft (shF kind a b).1 (shF kind a b).2 ∧ fb n d = fb (shF kind a b).1 (shF kind a b).2 := isSh_f h (shF_s h)
noncomputable def tuA (k : Nat) (W : Nat → WY) (F : Int × Int) (l1 l2 l3 : Int32) : Int32 × Int32 × Int × Int :=
  if shC k l1 l2 l3 = 0 then (1, 0, ft (shF l3 (W l1.toNatClampNeg) (tw (W l2.toNatClampNeg))).1 (shF l3 (W l1.toNatClampNeg) (tw (W l2.toNatClampNeg))).2, fb (shF l3 (W l1.toNatClampNeg) (tw (W l2.toNatClampNeg))).1 (shF l3 (W l1.toNatClampNeg) (tw (W l2.toNatClampNeg))).2) else (0, shC k l1 l2 l3, F)
theorem w143_q {M : MM} {k : Nat} {W : Nat → WY} {F : Int × Int} {l1 l2 l3 : Int32} {P : Int32 → MM → Prop} (hL : Lay M) (hW : CWs M k W) (hF : CFr M F) (hX : ∀ M' r st F', Fr sCF M M' → mI M' 0 10 = st → CFr M' F' → (r, st, F') = tuA k W F l1 l2 l3 → P r M') : w143 0 l1 l2 l3 M P := by
  have hC := CWs_CW hL hW
  have k4 := hW.2.1
  refine w94_s ⟨kd_0 hL, w62_s hC ?_⟩
  have e : (if frb l3 0 2 = true then chk2 k l1 l2 else 1) = shC k l1 l2 l3 := rfl
  rw [e]
  have h1 : Fr sCF M (sI M 0 10 (shC k l1 l2 l3)) := Fr_s0F Fr_r
  have g1 : mI (sI M 0 10 (shC k l1 l2 l3)) 0 10 = shC k l1 l2 l3 := gI_y ⟨rfl, rfl⟩
  refine ⟨kd_0 hL, kd_0 hL, ?_⟩
  rw [g1]
  unfold tuA at hX
  by_cases c : shC k l1 l2 l3 = 0
  · rw [if_pos c] at hX
    refine br_t c ?_
    obtain ⟨hk, _, _, w, o, rfl, rfl, hw, ho, hne⟩ := shC_0 k4 c
    rw [jI_cn (by omega), jI_cn (by omega)] at hX ⊢
    have hL1 := h1.1 hL
    have hW1 := CWs_F h1 hW
    have ga := (hW.2.2 w hw).1
    have gb := (hW.2.2 o ho).1
    have b1 := gb.1
    generalize sI M 0 10 (shC k (jI (w : Int)) (jI (o : Int)) l3) = M1 at *
    refine ⟨kd_0 hL1, kd_0 hL1, 19, rf_0_5 hL1, i19 hL1 (by omega), 185, rf_0_17 hL1, kd_T hL1 isT_185, ?_⟩
    rw [rf_19 hL1 (by omega)]
    refine w144_s hL1 (isT_way (by omega)) isT_185 (Or.inr (by omega)) (hW1.2.2 o ho).2 (by omega) gb.2.1 (fun M2 h2 t2 _ => ?_)
    have hL2 := h2.1 hL1
    have hF2 : Fr sPi M1 M2 := Fr_w h2 (fun x k => sTk_P)
    have hW2 := CWs_P hF2 hW1
    refine ⟨kd_0 hL2, kd_0 hL2, 19, rf_0_5 hL2, i19 hL2 (by omega), kd_0 hL2, kd_0 hL2, 58, rf_0_15 hL2, kd_58 hL2, ?_⟩
    rw [rf_19 hL2 (by omega), rf_0_17 hL2, rf_0_12 hL2]
    refine w106_s hL2 (isT_way (by omega)) isT_185 (hW2.2.2 w hw).2 t2 ga (tw_g gb) hk (fun M3 n d h3 hs f0 f1 => ?_)
    have hL3 := h3.1 hL2
    have nf := isSh_F hs
    rw [← nf.1, ← nf.2] at hX
    refine ⟨kd_0 hL3, kd_0 hL3, ?_⟩
    rw [rf_0_12 hL3]
    exact w55_s hL3 (Or.inl rfl) f0 f1 (gE_F hs.1) (fun M4 h4 s4 t0 t1 => ⟨Or.inr rfl, hX _ _ _ (_, _) (Fr_t h1 (Fr_t (Fr_w hF2 (fun x k z => sPi_Q (sCF_Q z))) (Fr_t (Fr_w h3 (fun x k h => sFi_F h)) h4))) s4 ⟨t0, t1⟩ rfl⟩)
  · rw [if_neg c] at hX
    exact br_f c (hX _ _ _ F h1 g1 hF rfl)
/-! the reference -/
theorem w214_p {M : MM} {kk o p t : Nat} {W : Nat → WY} {f g : Nat → Int} {P : MM → Prop} (hL : Lay M) (hW : RWs M kk W) (ho : o < kk) (hp : p < wn (W o)) (ht : t < 8) (hB : RB1 M (t, f, g)) (ef : f t = wx (W o) p) (eg : g t = wy (W o) p) (hX : ∀ M', Fr sRB M M' → RB1 M' (t + 1, f, g) → P M') : w214 203 (jI (o : Int)) (jI (p : Int)) M P := by
  refine w214_s hL hW ho hp ht hB.1 (hX _ (Fr_sI (Fr_sI (Fr_sI Fr_r (sB_t2 (by omega))) (sB_t2 (by omega))) (sB_t1 (by omega))) ⟨gI_y ⟨rfl, rfl⟩, fun i hi => ?_⟩)
  have hi' : i < t + 1 := hi
  show mI _ 212 i = jI (f i) ∧ mI _ 213 i = jI (g i)
  by_cases e : i = t
  · subst e
    refine ⟨?_, ?_⟩
    · rw [gI_n (by omega), gI_n (by omega), gI_y ⟨rfl, rfl⟩, ef]
    · rw [gI_n (by omega), gI_y ⟨rfl, rfl⟩, eg]
  · have q := hB.2 i (show i < t by omega)
    refine ⟨?_, ?_⟩
    · rw [gI_n (by omega), gI_n (by omega), gI_n (by omega)]; exact q.1
    · rw [gI_n (by omega), gI_n (by omega), gI_n (by omega)]; exact q.2
theorem w276_q {M : MM} {k : Nat} {W : Nat → WY} {F : Int × Int} {l1 l2 l3 : Int32} {P : Int32 → MM → Prop} (hL : Lay M) (hW : RWs M k W) (hF : RFr M F) (hX : ∀ M' r st F', Fr sRF M M' → mI M' 203 9 = st → RFr M' F' → (r, st, F') = tuA k W F l1 l2 l3 → P r M') : w276 203 l1 l2 l3 M P := by
  have hC := RWs_RW hL hW
  have k4 := hW.2.1
  unfold tuA at hX
  have no : ∀ s0, s0 = shC k l1 l2 l3 → ¬ s0 ≤ 0 → w276_19 203 l1 l2 l3 s0 M P := fun s0 e h => by
    subst e
    rw [if_neg (fun z => h (by rw [z]; decide))] at hX
    exact br_f h ⟨kd_203 hL, kd_203 hL, Or.inl rfl, hX _ _ _ F (Fr_s9F Fr_r) (gI_y ⟨rfl, rfl⟩) hF rfl⟩
  refine w166_s ?_
  cases hf : frb l3 0 2 with
  | false => exact br_f (by decide) (no 1 (by unfold shC; rw [if_neg (by rw [hf]; decide)]) (by decide))
  | true =>
    refine br_t (by decide) ⟨kd_203 hL, w202_s hC ?_⟩
    have e : shC k l1 l2 l3 = chk2 k l1 l2 := by unfold shC; rw [if_pos hf]
    by_cases c : chk2 k l1 l2 = 0
    · rw [if_pos (e.trans c)] at hX
      refine br_t (by rw [c]; decide) ?_
      obtain ⟨hk, _, _, w, o, rfl, rfl, hw, ho, hne⟩ := shC_0 k4 (e.trans c)
      rw [jI_cn (by omega), jI_cn (by omega)] at hX
      have ga := (hW.2.2 w hw).1
      have gb := (hW.2.2 o ho).1
      have a1 := ga.1
      have b1 := gb.1
      have b2 := gb.2.1
      refine ⟨kd_203 hL, w180_q hL hW hw ⟨kd_203 hL, ?_⟩⟩
      rw [show jI (wn (W w) : Int) - 1 = jI ((wn (W w) - 1 : Nat) : Int) by rw [show (1 : Int32) = jI 1 from rfl, jI_sub]; congr 1; omega]
      refine w212_s (i0 := 0) hL hW hw (by omega) (by omega) (fun M1 h1 r1 => ?_)
      have hL1 := h1.1 hL
      have h2 : Fr sRB M1 (sI M1 203 28 0) := Fr_sI Fr_r (sB_t1 (by omega))
      have hL2 := h2.1 hL1
      have hFa : Fr sPw M (sI M1 203 28 0) := Fr_t (Fr_w h1 (fun x k z => sB_w (by omega) (by omega) x k z)) (Fr_w h2 (fun x k z => sB_w (by omega) (by omega) x k z))
      have rB : RB1 (sI M1 203 28 0) (0, (fun x => wx (W o) (wn (W o) - 1 - x)), (fun x => wy (W o) (wn (W o) - 1 - x))) := ⟨gI_y ⟨rfl, rfl⟩, fun i hi => absurd (show i < 0 from hi) (by omega)⟩
      have hA2 : RA1 (sI M1 203 28 0) (W w) := RA1_fr h2 (sB_f (by omega) (by omega)) (fun x k _ _ => sB_f (by omega) (by omega)) (RA1_c r1 (pc_all ga))
      refine ⟨kd_203 hL1, kd_203 hL2, ?_⟩
      generalize sI M1 203 28 0 = M2 at *
      refine w180_q hL2 (RWs_P hFa hW) ho ⟨wn (W o) + 1, ?_⟩
      have lp : ∀ (q x : Nat) (M' : MM), x + q = wn (W o) → Fr sRB M2 M' → RB1 M' (x, (fun x => wx (W o) (wn (W o) - 1 - x)), (fun x => wy (W o) (wn (W o) - 1 - x))) → w276_60 (q + 1) 203 (jI (o : Int)) l3 (jI ((q : Int) - 1)) M' P := by
        intro q
        induction q with
        | zero =>
          intro x M' hx h' hB
          have hL' := h'.1 hL2
          rw [show x = wn (W o) by omega] at hB
          refine br_t (by decide) ⟨kd_203 hL', w245_s hL' (RAB_i (RA1_fr h' (sB_f (by omega) (by omega)) (fun x k _ _ => sB_f (by omega) (by omega)) hA2) (show RB1 M' (tw (W o)) from hB)) ga (tw_g gb) hk (fun M3 n d h3 hs f0 f1 _ => ?_)⟩
          have hL3 := h3.1 hL'
          have hF3 : Fr sPw M M3 := Fr_t hFa (Fr_t (Fr_w h' (fun x k z => sB_w (by omega) (by omega) x k z)) (Fr_w h3 (fun x k z => sB_w (by omega) (by omega) x k z)))
          have hF3' : Fr sRF M M3 := Fr_w hF3 (fun x k z => sPw_Q (sRF_Q z))
          have nf := isSh_F hs
          rw [← nf.1, ← nf.2] at hX
          refine ⟨kd_203 hL3, kd_203 hL3, kd_203 hL3, kd_203 hL3, ?_⟩
          rw [f0, f1]
          refine w195_s hL3 (gE_F hs.1) ⟨kd_203 hL3, Or.inr rfl, ?_⟩
          refine hX _ _ _ (_, _) (Fr_s9F (Fr_sL (Fr_sL hF3' (sRF_1 (by omega))) (sRF_1 (by omega)))) (gI_y ⟨rfl, rfl⟩) ⟨?_, ?_⟩ rfl
          · rw [gL_sI, gL_n (by omega), gL_y ⟨rfl, rfl⟩]
          · rw [gL_sI, gL_y ⟨rfl, rfl⟩]
        | succ q ih =>
          intro x M' hx h' hB
          have hL' := h'.1 hL2
          have hW' : RWs M' k W := RWs_P (Fr_t hFa (Fr_w h' (fun x k z => sB_w (by omega) (by omega) x k z))) hW
          have e0 : jI (((q + 1 : Nat) : Int) - 1) = jI (q : Int) := by congr 1; omega
          have e1 : jI (q : Int) + (-1) = jI ((q : Int) - 1) := by rw [show (-1 : Int32) = jI (-1) from rfl, jI_add]; congr 1
          unfold w276_60
          rw [e0, e1]
          exact br_f (by rw [show (0 : Int32) = jI 0 from rfl, jI_lt (by omega) (by omega) (by omega) (by omega)]; omega) ⟨kd_203 hL', w214_p hL' hW' ho (by omega) (by omega) hB (by show wx (W o) (wn (W o) - 1 - x) = _; congr 1; omega) (by show wy (W o) (wn (W o) - 1 - x) = _; congr 1; omega) (fun M3 h3 hB3 => ih (x + 1) M3 (by omega) (Fr_t h' h3) hB3)⟩
      rw [show (1 : Int32) = jI 1 from rfl, jI_sub]
      exact lp (wn (W o)) 0 M2 (by omega) Fr_r rB
    · exact no _ e.symm (chk2_n c)
