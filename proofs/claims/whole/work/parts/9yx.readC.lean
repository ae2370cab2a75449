/-! ===== the class reads a text ===== -/
def sRD : Nat → Nat → Bool := sB 2 1 8 7 18
theorem sRD_1 {x k : Nat} (z : sRD x k = false) : sRd x k = false := by
  refine sRd_f (fun y => ?_) (fun y => ?_)
  · rw [y.1, show sRD 2 k = true from sB_t1 (by omega)] at z; cases z
  · rw [show sRD x k = true from sB_t2 y] at z; cases z
theorem sRD_2 {x k : Nat} (z : sRD x k = false) : sSc x k = false := by
  refine sB_f (fun y => ?_) (by omega)
  rw [y.1, show sRD 2 k = true from sB_t1 (by omega)] at z; cases z
theorem CPs_fr {M M' : MM} {s : PS} (k4 : s.2.1 ≤ 4) (hF : Fr sSc M M') (h : CPs M s) : CPs M' s :=
  ⟨(Fr_I hF (sB_f (by omega) (by omega))).trans h.1, (Fr_I hF (sB_f (by omega) (by omega))).trans h.2.1, fun x => (Fr_I hF (sB_f (by omega) (by omega))).trans (h.2.2.1 x), fun x => ((hF.2 2 2 (sB_f (by omega) (by omega))).2.2).trans (h.2.2.2.1 x), fun w hw => ⟨TrC_fr2 hF (fun x k y1 y2 => sB_f (by omega) (by omega)) (h.2.2.2.2 w hw).1, (Fr_L hF (sB_f (by omega) (by omega))).trans (h.2.2.2.2 w hw).2⟩⟩
theorem w18_20_s {M : MM} {T : Nat → Nat} {n : Nat} {P : Int32 → MM → Prop} (hL : Lay M) (hB : TB M n T) : ∀ (m p r : Nat) (s : PS) (M' : MM), n ≤ p + m → p ≤ n → r ≤ p → Fr sRD M M' → mI M' 2 5 = jI (p : Int) → CPs M' s → PIv s → (∀ M2 f q s', Fr sRD M M2 → (f, q, s') = prs T n (m + 1) s p → (f ≠ 0 → mI M2 2 4 = jI (q : Int)) → (f = 0 → s'.1 = 0) → CPs M2 s' → PIv s' → P (jI (f : Int)) M2) → w18_20 (m + 2) 2 (some 1) (jI (n : Int)) 0 (jI (r : Int)) M' P := by
  have n7 := hB.1
  intro m
  induction m with
  | zero =>
    intro p r s M' e pn rp hF h5 hS hI hX
    have hL' := hF.1 hL
    have hB' : TB M' n T := ⟨hB.1, fun i hi => ⟨(Fr_I hF (sB_f (by omega) (by omega))).trans (hB.2 i hi).1, (hB.2 i hi).2⟩⟩
    have sb := sk_b (T := T) pn
    have e4 : tk T n (sk T n p) = 4 := (tk_4).2.mpr (by omega)
    refine br_f (by rw [jI_lt (by omega) (by omega) (by omega) (by omega)]; omega) (br_f (fun z => z rfl) ⟨kd_2 hL', w19_s hL' hB' pn h5 (fun M1 f1 c1 => ⟨kd_2 (f1.1 hL'), ?_⟩)⟩)
    have hL1 := f1.1 hL'
    have hF1 : Fr sRD M M1 := Fr_t hF (Fr_w f1 (fun x k => sRD_2))
    have hS1 := CPs_fr hI.2.1 f1 hS
    have a3 := hI.1
    obtain ⟨c4, c5, c6, c7, c8⟩ := c1
    rw [c6, hS1.1, e4, show (4 : Int32) = jI 4 from rfl]
    refine br_f (fun z => z rfl) ⟨kd_2 hL1, ?_⟩
    rw [show (0 : Int32) = jI 0 from rfl, ne_eq, jI_eq (by omega) (by omega) (by omega) (by omega)]
    unfold prs at hX
    refine ⟨fun z => ⟨kd_2 hL1, ?_⟩, fun z => ?_⟩
    · rw [if_neg (by omega)] at hX
      refine w22_s (kd := 4) (v := nl T (sk T n p) (te T n (sk T n p) - sk T n p)) (R := wl T (sk T n p) (te T n (sk T n p) - sk T n p)) hL1 hS1 hI ⟨by rw [c6, e4], by omega, fun x => absurd x (by omega), fun x => absurd x (by omega)⟩ (fun M2 f s' f2 ef cs => ?_)
      have e2 : f = 2 := by have := stT_4 (s := s) (v := nl T (sk T n p) (te T n (sk T n p) - sk T n p)) (R := wl T (sk T n p) (te T n (sk T n p) - sk T n p)) (by omega); rw [← ef] at this; exact this
      rw [e4, ← ef, if_neg (show ¬ f = 0 by omega)] at hX
      rw [show (1 : Int32) = jI 1 from rfl, jI_add, c_s1]
      have pv : PIv s' := by have := PIv_s (kd := 4) (v := nl T (sk T n p) (te T n (sk T n p) - sk T n p)) (R := wl T (sk T n p) (te T n (sk T n p) - sk T n p)) hI (fun x => absurd x (by omega)); rw [← ef] at this; exact this
      have hh := hX M2 f (sk T n p) s' (Fr_t hF1 (Fr_w f2 (fun x k => sRD_1))) rfl (fun _ => (Fr_I f2 (sRd_f (by omega) (by omega))).trans c4) (fun x => by omega) cs pv
      unfold w18_20
      refine ⟨fun _ => hh, fun _ => br_t ?_ hh⟩
      rw [show (0 : Int32) = jI 0 from rfl, ne_eq, jI_eq (by omega) (by omega) (by omega) (by omega)]
      omega
    · rw [if_pos ⟨e4, by omega⟩] at hX
      exact hX M1 0 (sk T n p) s hF1 rfl (fun x => absurd rfl x) (fun _ => by omega) hS1 hI
  | succ m ih =>
    intro p r s M' e pn rp hF h5 hS hI hX
    have hL' := hF.1 hL
    have hB' : TB M' n T := ⟨hB.1, fun i hi => ⟨(Fr_I hF (sB_f (by omega) (by omega))).trans (hB.2 i hi).1, (hB.2 i hi).2⟩⟩
    have sb := sk_b (T := T) pn
    have t4 := tk_4 (T := T) (n := n) (q := sk T n p)
    refine br_f (by rw [jI_lt (by omega) (by omega) (by omega) (by omega)]; omega) (br_f (fun z => z rfl) ⟨kd_2 hL', w19_s hL' hB' pn h5 (fun M1 f1 c1 => ⟨kd_2 (f1.1 hL'), ?_⟩)⟩)
    have hL1 := f1.1 hL'
    have hF1 : Fr sRD M M1 := Fr_t hF (Fr_w f1 (fun x k => sRD_2))
    have hS1 := CPs_fr hI.2.1 f1 hS
    have a3 := hI.1
    obtain ⟨c4, c5, c6, c7, c8⟩ := c1
    unfold prs at hX
    have tok : ¬ (tk T n (sk T n p) = 4 ∧ s.1 = 0) → w18_53 (fun z0 z1 z2 z3 z4 z5 => w18_20 (m + 2) z0 z1 z2 z3 z4 z5 P) 2 (some 1) (jI (n : Int)) (jI (r : Int)) M1 P := fun nz => by
      rw [if_neg nz] at hX
      refine ⟨kd_2 hL1, w22_s (kd := tk T n (sk T n p)) (v := nl T (sk T n p) (te T n (sk T n p) - sk T n p)) (R := wl T (sk T n p) (te T n (sk T n p) - sk T n p)) hL1 hS1 hI ⟨c6, t4.1, fun x => ⟨tk_1 x, c7 x⟩, fun x => ⟨tk_2 x, c8 x⟩⟩ (fun M2 f s' f2 ef cs => ?_)⟩
      have pv : PIv s' := by have := PIv_s (kd := tk T n (sk T n p)) (v := nl T (sk T n p) (te T n (sk T n p) - sk T n p)) (R := wl T (sk T n p) (te T n (sk T n p) - sk T n p)) hI (fun x => tk_1 x); rw [← ef] at this; exact this
      have hF2 : Fr sRD M M2 := Fr_t hF1 (Fr_w f2 (fun x k => sRD_1))
      have f7 : f ≤ 6 := by
        have : (stT s (tk T n (sk T n p)) (nl T (sk T n p) (te T n (sk T n p) - sk T n p)) (wl T (sk T n p) (te T n (sk T n p) - sk T n p))).1 ≤ 6 := by
          unfold stT st0 st1 st2 st3
          repeat' split
          all_goals (dsimp only; omega)
        rw [← ef] at this; exact this
      rw [← ef] at hX
      rw [show (1 : Int32) = jI 1 from rfl, jI_add, c_s1]
      by_cases z : f = 0
      · rw [if_pos z] at hX
        have k0 : tk T n (sk T n p) ≠ 0 := fun x => by rw [x] at ef; have := stT_0 (s := s) (v := nl T (sk T n p) (te T n (sk T n p) - sk T n p)) (R := wl T (sk T n p) (te T n (sk T n p) - sk T n p)); rw [← ef] at this; have h1 : f = 1 := this; omega
        have k4' : tk T n (sk T n p) ≠ 4 := fun x => by
          rw [x] at ef
          have := stT_4 (s := s) (v := nl T (sk T n p) (te T n (sk T n p) - sk T n p)) (R := wl T (sk T n p) (te T n (sk T n p) - sk T n p)) (fun y => nz ⟨x, y⟩)
          rw [← ef] at this
          have h1 : f = 2 := this
          omega
        have qn : sk T n p < n := by have := t4.2; omega
        have tb := te_b qn k0
        rw [z]
        exact ih (te T n (sk T n p)) (r + 1) s' M2 (by omega) (by omega) (by omega) hF2 ((Fr_I f2 (sRd_f (by omega) (by omega))).trans c5) cs pv hX
      · rw [if_neg z] at hX
        have hh := hX M2 f (sk T n p) s' hF2 rfl (fun _ => (Fr_I f2 (sRd_f (by omega) (by omega))).trans c4) (fun x => absurd x z) cs pv
        unfold w18_20
        refine ⟨fun _ => hh, fun _ => br_t ?_ hh⟩
        rw [show (0 : Int32) = jI 0 from rfl, ne_eq, jI_eq (by omega) (by omega) (by omega) (by omega)]
        omega
    rw [c6, show (4 : Int32) = jI 4 from rfl, ne_eq, jI_eq (by omega) (by omega) (by omega) (by omega)]
    refine ⟨fun z => tok (by omega), fun z => ⟨kd_2 hL1, ?_⟩⟩
    rw [hS1.1, show (0 : Int32) = jI 0 from rfl, ne_eq, jI_eq (by omega) (by omega) (by omega) (by omega)]
    refine ⟨fun y => tok (by omega), fun y => ?_⟩
    rw [if_pos ⟨by omega, by omega⟩] at hX
    exact hX M1 0 (sk T n p) s hF1 rfl (fun x => absurd rfl x) (fun _ => by omega) hS1 hI
