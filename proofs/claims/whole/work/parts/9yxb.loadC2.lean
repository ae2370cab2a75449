/-! ===== load in the class ===== -/
def sLd : Nat → Nat → Bool := fun x k => sB 0 1 6 1 18 x k || (sB 0 10 10 20 20 x k || sB 0 10 10 191 202 x k)
theorem sLd_f {x k : Nat} (h : ¬ (x = 0 ∧ ((1 ≤ k ∧ k ≤ 6) ∨ k = 10))) (h1 : ¬ (1 ≤ x ∧ x ≤ 18)) (h2 : x ≠ 20) (h3 : ¬ (191 ≤ x ∧ x ≤ 202)) : sLd x k = false := by
  unfold sLd
  rw [sB_f (by omega) h1, sB_f (by omega) (by omega), sB_f (by omega) h3]; rfl
theorem sLd_0 {k : Nat} (h : 1 ≤ k ∧ k ≤ 6) : sLd 0 k = true := by unfold sLd; rw [sB_t1 h]; rfl
theorem sLd_10 : sLd 0 10 = true := rfl
theorem sLd_20 {k : Nat} : sLd 20 k = true := by unfold sLd; rw [sB_t2 (o := 0) (c := 10) (d := 10) (a := 20) (b := 20) (by omega), Bool.true_or, Bool.or_true]
theorem sLd_r {x k : Nat} (z : sLd x k = false) : sRD x k = false := by
  refine sB_f (fun y => ?_) (fun y => ?_)
  · have : sLd x k = true := by unfold sLd; rw [sB_t2 (o := 0) (c := 1) (d := 6) (a := 1) (b := 18) (by omega)]; rfl
    rw [this] at z; cases z
  · have : sLd x k = true := by unfold sLd; rw [sB_t2 (o := 0) (c := 1) (d := 6) (a := 1) (b := 18) (by omega)]; rfl
    rw [this] at z; cases z
theorem sLd_y {x k : Nat} (z : sLd x k = false) : sCy x k = false := by
  have key : 191 ≤ x ∧ x ≤ 202 → False := fun y => by
    have : sLd x k = true := by unfold sLd; rw [sB_t2 (o := 0) (c := 10) (d := 10) (a := 191) (b := 202) y, Bool.or_true, Bool.or_true]
    rw [this] at z; cases z
  exact sB_f (fun y => key (by omega)) key
theorem w16_q {M : MM} {k q A t : Nat} {S : Nat → Nat → WY} {O : Nat → Nat} {N : Nat → Int64} {T : Nat → Nat} {l1 : Int32} {P : Int32 → MM → Prop} (hL : Lay M) (hC : CA M k q A S O N) (hT : CTp M t T) (hBT : BT t T) (hX1 : (¬ ∃ n : Nat, n ≤ t ∧ l1 = jI (n : Int)) → ∀ M', Fr sCQ M M' → mI M' 0 10 = 1 → P (-1) M')
    (hX2 : ∀ (n : Nat) M' (f pl : Nat) (s' : PS), n ≤ t → l1 = jI (n : Int) → Fr sLd M M' → mI M' 0 1 = 0 → mI M' 0 3 = jI (f : Int) → mI M' 0 4 = jI (pl : Int) → mI M' 0 6 = mI M 0 6 → mI M' 0 10 = 9 → (f, pl, s') = prs T n (n + 1) ps0 0 → f ≠ 0 → CA M' k q A S O N → P (-1) M')
    (hX3 : ∀ (n : Nat) M' (pl : Nat) (s' : PS), n ≤ t → l1 = jI (n : Int) → Fr sLd M M' → mI M' 0 1 = 0 → mI M' 0 3 = 0 → mI M' 0 4 = -1 → mI M' 0 10 = 0 → (0, pl, s') = prs T n (n + 1) ps0 0 → PIv s' → s'.1 = 0 → CA M' s'.2.1 q 0 (fun _ => s'.2.2.2.1) O (fun w => jL (nv 256 96 (s'.2.2.1 w) : Int)) → P (jI (s'.2.1 : Int)) M') : w16 0 l1 M P := by
  have t7 := hT.2.1
  have no : (¬ ∃ n : Nat, n ≤ t ∧ l1 = jI (n : Int)) → w16_12 0 M P := fun z => ⟨kd_0 hL, kd_0 hL, hX1 z _ (Fr_s0 Fr_r) (gI_y ⟨rfl, rfl⟩)⟩
  unfold w16
  rw [hT.1]
  refine ⟨fun z => no (fun ⟨n, hn, e⟩ => ?_), fun z => ⟨kd_0 hL, fun y => ⟨kd_0 hL, kd_0 hL, kd_0 hL, 2, rf_0_2 hL, kd_2 hL, ?_⟩, fun y => no (fun ⟨n, hn, e⟩ => ?_)⟩⟩
  · rw [e, show (0 : Int32) = jI 0 from rfl, jI_lt (by omega) (by omega) (by omega) (by omega)] at z; omega
  · have y0 := Int32.le_iff_toInt_le.mp (Int32.not_lt.mp z)
    have y1 := Int32.le_iff_toInt_le.mp y
    rw [jI_toInt (by omega) (by omega)] at y1
    have y0' : (0 : Int) ≤ l1.toInt := y0
    obtain ⟨n, hn, rfl⟩ : ∃ n : Nat, n ≤ t ∧ l1 = jI (n : Int) := ⟨l1.toInt.toNat, by omega, Int32.toInt_inj.mp (by rw [jI_toInt (by omega) (by omega)]; omega)⟩
    have fa : Fr sLd M (sI M 0 1 0) := Fr_sI Fr_r (sLd_0 (by omega))
    rw [show mR (sI M 0 1 0) 0 0 = some 1 from rf_0_0 hL]
    refine w18_s (T := T) (fa.1 hL) ⟨by omega, fun i hi => ⟨by rw [gI_n (by omega)]; exact hT.2.2 i (by omega), hBT i (by omega)⟩⟩ (fun M2 f pl s' f2 ef e4 e0 cs pv => ?_)
    have hL2 := f2.1 (fa.1 hL)
    have fb : Fr sLd M (sI M2 0 3 (jI (f : Int))) := Fr_sI (Fr_t fa (Fr_w f2 (fun x k => sLd_r))) (sLd_0 (by omega))
    have h01 : mI M2 0 1 = 0 := (Fr_I f2 (sB_f (by omega) (by omega))).trans (gI_y ⟨rfl, rfl⟩)
    have f6 : f < 1000 := by
      have key : ∀ (m : Nat) (s : PS) (p : Nat), (prs T n m s p).1 < 1000 := by
        intro m
        induction m with
        | zero => intro s p; exact (by decide : (2 : Nat) < 1000)
        | succ m ih =>
          intro s p
          unfold prs
          split
          · exact (by decide : (0 : Nat) < 1000)
          · split
            · exact ih _ _
            · dsimp only
              unfold stT st0 st1 st2 st3
              repeat' split
              all_goals (dsimp only; omega)
      have := key (n + 1) ps0 0
      rw [← ef] at this; exact this
    refine ⟨kd_0 hL2, kd_0 hL2, ?_⟩
    rw [gI_y ⟨rfl, rfl⟩, show (0 : Int32) = jI 0 from rfl, ne_eq, jI_eq (by omega) (by omega) (by omega) (by omega)]
    refine ⟨fun u => ⟨kd_0 hL2, 2, rf_0_2 hL2, kd_2 hL2, kd_2 hL2, ?_⟩, fun u => ?_⟩
    · rw [gI_n (by omega), e4 (by omega)]
      refine ⟨0, rfl, kd_0 hL2, kd_0 hL2, br_f ?_ ⟨kd_0 hL2, kd_0 hL2, ?_⟩⟩
      · rw [gI_n (by omega), gI_y ⟨rfl, rfl⟩, show (0 : Int32) = jI 0 from rfl, jI_eq (by omega) (by omega) (by omega) (by omega)]; omega
      · have fz : Fr sLd M (sI (sI (sI M2 0 3 (jI (f : Int))) 0 4 (jI (pl : Int))) 0 10 9) := Fr_sI (Fr_sI fb (sLd_0 (by omega))) sLd_10
        have fy : Fr (sB 0 1 10 1 18) M2 (sI (sI (sI M2 0 3 (jI (f : Int))) 0 4 (jI (pl : Int))) 0 10 9) := Fr_sI (Fr_sI (Fr_sI Fr_r (sB_t1 (by omega))) (sB_t1 (by omega))) (sB_t1 (by omega))
        have c2 : CA (sI (sI (sI M2 0 3 (jI (f : Int))) 0 4 (jI (pl : Int))) 0 10 9) k q A S O N := by
          refine CA_s (CA_fr (T := sB 0 3 4 1 0) (Fr_sI (Fr_sI Fr_r (sB_t1 (by omega))) (sB_t1 (by omega))) (fun x k y1 y2 => sB_f (by omega) (by omega)) (fun x k y1 y2 => sB_f (by omega) (by omega)) (sB_f (by omega) (by omega)) (CA_fr f2 (fun x k y1 y2 => sB_f (by omega) (by omega)) (fun x k y1 y2 => sB_f (by omega) (by omega)) (sB_f (by omega) (by omega)) (CA_fr (T := sB 0 1 1 1 0) (Fr_sI Fr_r (sB_t1 (by omega))) (fun x k y1 y2 => sB_f (by omega) (by omega)) (fun x k y1 y2 => sB_f (by omega) (by omega)) (sB_f (by omega) (by omega)) hC)))
        exact hX2 n _ f pl s' hn rfl fz (by rw [gI_n (by omega), gI_n (by omega), gI_n (by omega)]; exact h01) (by rw [gI_n (by omega), gI_n (by omega), gI_y ⟨rfl, rfl⟩]) (by rw [gI_n (by omega), gI_y ⟨rfl, rfl⟩]) (c2.1.1.trans hC.1.1.symm) (gI_y ⟨rfl, rfl⟩) ef (by omega) c2
    · have f0 : f = 0 := by omega
      subst f0
      have s0 := e0 rfl
      have k4 := pv.2.1
      have hg : ∀ w, w < s'.2.1 → gW (s'.2.2.2.1 w) := fun w hw => by
        have i6 := pv.2.2.2.2.2 w hw
        exact ⟨by have := i6.2.2; omega, i6.2.1.1, i6.2.1.2.1, i6.2.1.2.2⟩
      refine ⟨0, rfl, kd_0 hL2, kd_0 hL2, br_t (by rw [gI_n (by omega), gI_y ⟨rfl, rfl⟩]; rfl) ⟨kd_0 hL2, 2, rf_0_2 hL2, kd_2 hL2, kd_0 hL2, s'.2.1 + 1, ?_⟩⟩
      have e1 : mI (sI (sI M2 0 3 (jI ((0 : Nat) : Int))) 0 4 (-1)) 2 1 = jI (s'.2.1 : Int) := by rw [gI_n (by omega), gI_n (by omega)]; exact cs.2.1
      rw [e1]
      have f3 : Fr sLd M (sI (sI (sI M2 0 3 (jI ((0 : Nat) : Int))) 0 4 (-1)) 0 6 (jI (s'.2.1 : Int))) := Fr_sI (Fr_sI fb (sLd_0 (by omega))) (sLd_0 (by omega))
      have h20 : mI (sI (sI (sI M2 0 3 (jI ((0 : Nat) : Int))) 0 4 (-1)) 0 6 (jI (s'.2.1 : Int))) 20 2 = jI (q : Int) := by
        rw [gI_n (by omega), gI_n (by omega), gI_n (by omega), Fr_I f2 (sB_f (by omega) (by omega)), gI_n (by omega)]
        exact hC.2.2.1.1
      refine w16_88_s (M := sI (sI (sI M2 0 3 (jI ((0 : Nat) : Int))) 0 4 (-1)) 0 6 (jI (s'.2.1 : Int))) (W := s'.2.2.2.1) (Nm := s'.2.2.1) hL2 k4 (gI_y ⟨rfl, rfl⟩) hg (fun w hw => ⟨TrC_fr2 (S := sB 0 3 6 1 0) (Fr_sI (Fr_sI (Fr_sI Fr_r (sB_t1 (by omega))) (sB_t1 (by omega))) (sB_t1 (by omega))) (fun x k y1 y2 => sB_f (by omega) (by omega)) (cs.2.2.2.2 w hw).1, (cs.2.2.2.2 w hw).2⟩) (fun M4 f4 h4 => ?_) s'.2.1 0 _ (by omega) Fr_r (fun u hu => by omega)
      have ff : Fr sLd M (sI (sI M4 20 3 0) 0 10 0) := Fr_sI (Fr_sI (Fr_t f3 (Fr_w f4 (fun x k => sLd_y))) sLd_20) sLd_10
      have fe : Fr (sB 20 3 3 1 0) M4 (sI M4 20 3 0) := Fr_sI Fr_r (sB_t1 (by omega))
      refine hX3 n _ pl s' hn rfl ff ?_ ?_ ?_ (gI_y ⟨rfl, rfl⟩) ef pv s0 (CA_s ⟨⟨?_, k4, fun w hw => ⟨hg w hw, TrC_fr2 fe (fun x k y1 y2 => sB_f (by omega) (by omega)) (h4 w hw).1⟩⟩, fun w hw => (h4 w hw).2, ⟨?_, hC.2.2.1.2.1, gI_y ⟨rfl, rfl⟩, by omega, fun j hj => by omega⟩, fun j hj => by omega⟩)
      · rw [gI_n (by omega), gI_n (by omega), Fr_I f4 (sB_f (by omega) (by omega)), gI_n (by omega), gI_n (by omega), gI_n (by omega)]; exact h01
      · rw [gI_n (by omega), gI_n (by omega), Fr_I f4 (sB_f (by omega) (by omega)), gI_n (by omega), gI_n (by omega), gI_y ⟨rfl, rfl⟩]; rfl
      · rw [gI_n (by omega), gI_n (by omega), Fr_I f4 (sB_f (by omega) (by omega)), gI_n (by omega), gI_y ⟨rfl, rfl⟩]
      · rw [gI_n (by omega), Fr_I f4 (sB_f (by omega) (by omega)), gI_y ⟨rfl, rfl⟩]
      · rw [gI_n (by omega), Fr_I f4 (sB_f (by omega) (by omega))]; exact h20
  · rw [e, jI_le (by omega) (by omega) (by omega) (by omega)] at y; omega
