/-! ===== hops: the path by hops ===== -/
def hstp (a b : WY) (V : Int) (s : Nat × Nat) : Nat × Nat := if (s.1 + 1 < wn a ∧ s.2 + 1 < wn b) ∧ hv a b (s.1 + 1) (s.2 + 1) ≤ V then (s.1 + 1, s.2 + 1) else if s.1 + 1 < wn a ∧ hv a b (s.1 + 1) s.2 ≤ V then (s.1 + 1, s.2) else (s.1, s.2 + 1)
def hEnd (a b : WY) (s : Nat × Nat) : Prop := s.1 + 1 = wn a ∧ s.2 + 1 = wn b
def hOk (a b : WY) (V : Int) (s : Nat × Nat) : Prop := s.1 < wn a ∧ s.2 < wn b ∧ hv a b s.1 s.2 ≤ V
theorem hstp_ok {a b : WY} {V : Int} {s : Nat × Nat} (h : hOk a b V s) (he : ¬ hEnd a b s) : hOk a b V (hstp a b V s) ∧ s.1 + s.2 < (hstp a b V s).1 + (hstp a b V s).2 := by
  obtain ⟨h1, h2, h3⟩ := h
  have hE := hv_e a b s.1 s.2
  unfold nxM at hE
  unfold hstp hOk
  unfold hEnd at he
  by_cases c1 : (s.1 + 1 < wn a ∧ s.2 + 1 < wn b) ∧ hv a b (s.1 + 1) (s.2 + 1) ≤ V
  · rw [if_pos c1]; dsimp only; exact ⟨⟨c1.1.1, c1.1.2, c1.2⟩, by omega⟩
  · rw [if_neg c1]
    by_cases c2 : s.1 + 1 < wn a ∧ hv a b (s.1 + 1) s.2 ≤ V
    · rw [if_pos c2]; dsimp only; exact ⟨⟨c2.1, h2, c2.2⟩, by omega⟩
    · rw [if_neg c2]; dsimp only
      by_cases d1 : s.1 + 1 < wn a
      · rw [if_pos d1] at hE
        have c2' : ¬ hv a b (s.1 + 1) s.2 ≤ V := fun z => c2 ⟨d1, z⟩
        by_cases d2 : s.2 + 1 < wn b
        · rw [if_pos d2] at hE
          have c1' : ¬ hv a b (s.1 + 1) (s.2 + 1) ≤ V := fun z => c1 ⟨⟨d1, d2⟩, z⟩
          exact ⟨⟨h1, d2, by omega⟩, by omega⟩
        · rw [if_neg d2] at hE; omega
      · rw [if_neg d1] at hE
        have d2 : s.2 + 1 < wn b := by omega
        rw [if_pos d2] at hE
        exact ⟨⟨h1, d2, by omega⟩, by omega⟩
def hit (a b : WY) (V : Int) : Nat → Nat × Nat → Nat × Nat
  | 0, s => s
  | t + 1, s => hstp a b V (hit a b V t s)
theorem hit_s (a b : WY) (V : Int) : ∀ t s, hit a b V (t + 1) s = hit a b V t (hstp a b V s)
  | 0, _ => rfl
  | t + 1, s => by
    show hstp a b V (hit a b V (t + 1) s) = hstp a b V (hit a b V t (hstp a b V s))
    rw [hit_s a b V t s]
def hT (a b : WY) (V : Int) : Nat → Nat × Nat → Nat
  | 0, _ => 0
  | f + 1, s => if s.1 + 1 = wn a ∧ s.2 + 1 = wn b then 0 else hT a b V f (hstp a b V s) + 1
theorem hT_ok {a b : WY} {V : Int} : ∀ f s, hOk a b V s → wn a + wn b - 2 - (s.1 + s.2) ≤ f → hT a b V f s ≤ f ∧ hEnd a b (hit a b V (hT a b V f s) s) ∧ ∀ t, t ≤ hT a b V f s → hOk a b V (hit a b V t s) ∧ (t < hT a b V f s → ¬ hEnd a b (hit a b V t s)) := by
  intro f
  induction f with
  | zero =>
    intro s h hf
    have e : hEnd a b s := by
      unfold hOk at h
      unfold hEnd
      omega
    refine ⟨Nat.le_refl _, e, fun t ht => ?_⟩
    have ht0 : t ≤ 0 := ht
    rw [show t = 0 by omega]
    exact ⟨h, fun z => absurd z (Nat.lt_irrefl 0)⟩
  | succ f ih =>
    intro s h hf
    have hu : hT a b V (f + 1) s = if s.1 + 1 = wn a ∧ s.2 + 1 = wn b then 0 else hT a b V f (hstp a b V s) + 1 := rfl
    by_cases e : hEnd a b s
    · rw [hu, if_pos (show s.1 + 1 = wn a ∧ s.2 + 1 = wn b from e)]
      refine ⟨by omega, e, fun t ht => ?_⟩
      rw [show t = 0 by omega]
      exact ⟨h, fun z => absurd z (Nat.lt_irrefl 0)⟩
    · rw [hu, if_neg (show ¬ (s.1 + 1 = wn a ∧ s.2 + 1 = wn b) from e)]
      have hn := hstp_ok h e
      obtain ⟨i1, i2, i3⟩ := ih (hstp a b V s) hn.1 (by omega)
      refine ⟨by omega, by rw [hit_s]; exact i2, fun t ht => ?_⟩
      cases t with
      | zero => exact ⟨h, fun _ => e⟩
      | succ t =>
        rw [hit_s]
        have := i3 t (by omega)
        exact ⟨this.1, fun z => this.2 (by omega)⟩
/-! the class: w119 -/
def sJ8 : Nat → Nat → Bool := sB 175 7 8 1 0
theorem sJ8_f {x k : Nat} (h : ¬ (x = 175 ∧ 7 ≤ k ∧ k ≤ 8)) : sJ8 x k = false := sB_f h (by omega)
/-- what the class's path stands on -/
def JP (M : MM) (a b : WY) : Prop := mI M 175 5 = jI ((wn a : Int) - 1) ∧ mI M 175 6 = jI ((wn b : Int) - 1) ∧ ∀ i' j', i' < wn a → j' < wn b → mI M 177 (8 * i' + j') = jI (hv a b i' j')
theorem JP_fr {M M' : MM} {a b : WY} (hF : Fr sJ8 M M') (h : JP M a b) : JP M' a b :=
  ⟨(Fr_I hF (sJ8_f (by omega))).trans h.1, (Fr_I hF (sJ8_f (by omega))).trans h.2.1, fun i j hi hj => (Fr_I hF (sJ8_f (by omega))).trans (h.2.2 i j hi hj)⟩
theorem JP_V {M : MM} {a b : WY} (ga : gW a) (gb : gW b) (h : JP M a b) (i j : Nat) : hvA M 177 (hv a b) (wn a) (wn b) i j := fun i' j' h1 h2 _ => by
  have z := hv_z ga gb h1 h2
  exact ⟨h.2.2 i' j' h1 h2, by omega, by omega⟩
theorem w99_p {M : MM} {a b : WY} {P : Int32 → MM → Prop} (hL : Lay M) (ga : gW a) (gb : gW b) (h : JP M a b) (hP : P (jI (hv a b 0 0)) M) : w99 175 M P := by
  have a1 := ga.1
  have b1 := gb.1
  refine ⟨kd_175 hL, 177, rf_175_1 hL, i177 (k := 0) hL (by omega), ?_⟩
  rw [show (0 : Int32).toNatClampNeg = 8 * 0 + 0 from rfl, h.2.2 0 0 (by omega) (by omega)]
  exact hP
theorem w119_46_s {M0 M : MM} {a b : WY} {s : Nat × Nat} {l2 l3 : Int32} {k19 : Nat → Int32 → Int32 → MM → Prop} {P : Int32 → MM → Prop} (hL0 : Lay M0) (hF : Fr sJ8 M0 M) (hJ0 : JP M0 a b) (ga : gW a) (gb : gW b) (h7 : mI M 175 7 = jI (s.1 : Int)) (h8 : mI M 175 8 = jI (s.2 : Int)) (hs : hOk a b (hv a b 0 0) s) (he : ¬ hEnd a b s)
    (hX : ∀ M', Fr sJ8 M0 M' → mI M' 175 7 = jI ((hstp a b (hv a b 0 0) s).1 : Int) → mI M' 175 8 = jI ((hstp a b (hv a b 0 0) s).2 : Int) → k19 175 (l2 + 1) l3 M') : w119_46 k19 175 l2 l3 M P := by
  have a1 := ga.1
  have b1 := gb.1
  have a2 := ga.2.1
  have b2 := gb.2.1
  have hL := hF.1 hL0
  have hJ := JP_fr hF hJ0
  obtain ⟨s1, s2, s3⟩ := hs
  have hz := hv_z ga gb (show 0 < wn a by omega) (show 0 < wn b by omega)
  have ei : jI (s.1 : Int) + 1 = jI ((s.1 + 1 : Nat) : Int) := by rw [show (1 : Int32) = jI 1 from rfl, jI_add, c_s1]
  have ej : jI (s.2 : Int) + 1 = jI ((s.2 + 1 : Nat) : Int) := by rw [show (1 : Int32) = jI 1 from rfl, jI_add, c_s1]
  have bV : ∀ i' j', 0 ≤ okV (wn a) (wn b) (hv a b) i' j' ∧ okV (wn a) (wn b) (hv a b) i' j' ≤ 2147483647 := fun i' j' => by
    unfold okV
    by_cases c : i' < wn a ∧ j' < wn b
    · rw [if_pos c]; have := hv_z ga gb c.1 c.2; omega
    · rw [if_neg c]; omega
  have ho : ∀ k : Nat, k < 64 → inb M 177 11 (jI (k : Int)) := fun k hk => i177 hL hk
  have fin : ∀ i' j' : Nat, hstp a b (hv a b 0 0) s = (i', j') → k19 175 (l2 + 1) l3 (sI (sI M 175 7 (jI (i' : Int))) 175 8 (jI (j' : Int))) := fun i' j' e => by
    rw [e] at hX
    refine hX _ (Fr_sI (Fr_sI hF (sB_t1 (by omega))) (sB_t1 (by omega))) ?_ (gI_y ⟨rfl, rfl⟩)
    rw [gI_n (by omega), gI_y ⟨rfl, rfl⟩]
  refine ⟨kd_175 hL, kd_175 hL, kd_175 hL, kd_175 hL, ?_⟩
  rw [rf_175_1 hL, h7, h8]
  refine br_t (by decide) (br_t (by decide) ?_)
  rw [ei, ej]
  have v0 := bV (s.1 + 1) (s.2 + 1)
  refine w98_28_s (i0 := s.1) (j0 := s.2) hL hJ.1 hJ.2.1 a2 b2 ho (JP_V ga gb hJ _ _) (by omega) (by omega) (by omega) ⟨kd_175 hL, w99_p hL ga gb hJ ?_⟩
  rw [jI_lt (by omega) (by omega) (by omega) (by omega)]
  have hb : okV (wn a) (wn b) (hv a b) (s.1 + 1) (s.2 + 1) ≤ hv a b 0 0 ↔ ((s.1 + 1 < wn a ∧ s.2 + 1 < wn b) ∧ hv a b (s.1 + 1) (s.2 + 1) ≤ hv a b 0 0) := by
    unfold okV
    by_cases c : s.1 + 1 < wn a ∧ s.2 + 1 < wn b
    · rw [if_pos c]; exact ⟨fun z => ⟨c, z⟩, fun z => z.2⟩
    · rw [if_neg c]; exact ⟨fun z => by omega, fun z => absurd z.1 c⟩
  have hb1 : okV (wn a) (wn b) (hv a b) (s.1 + 1) s.2 ≤ hv a b 0 0 ↔ (s.1 + 1 < wn a ∧ hv a b (s.1 + 1) s.2 ≤ hv a b 0 0) := by
    unfold okV
    by_cases c : s.1 + 1 < wn a
    · rw [if_pos ⟨c, s2⟩]; exact ⟨fun z => ⟨c, z⟩, fun z => z.2⟩
    · rw [if_neg (fun z => c z.1)]; exact ⟨fun z => by omega, fun z => absurd z.1 c⟩
  refine ⟨fun z => ?_, fun z => ?_⟩
  · have nb : ¬ ((s.1 + 1 < wn a ∧ s.2 + 1 < wn b) ∧ hv a b (s.1 + 1) (s.2 + 1) ≤ hv a b 0 0) := fun y => by have := hb.mpr y; omega
    refine br_f (fun y => y rfl) ⟨kd_175 hL, kd_175 hL, kd_175 hL, kd_175 hL, ?_⟩
    rw [rf_175_1 hL, h7, h8]
    refine br_t (by decide) (br_f (by decide) ?_)
    rw [ei]
    have v1 := bV (s.1 + 1) s.2
    refine w98_28_s (i0 := s.1) (j0 := s.2) hL hJ.1 hJ.2.1 a2 b2 ho (JP_V ga gb hJ _ _) (by omega) (by omega) (by omega) ⟨kd_175 hL, w99_p hL ga gb hJ ?_⟩
    rw [jI_lt (by omega) (by omega) (by omega) (by omega)]
    refine ⟨fun y => ?_, fun y => ?_⟩
    · have n1 : ¬ (s.1 + 1 < wn a ∧ hv a b (s.1 + 1) s.2 ≤ hv a b 0 0) := fun x => by have := hb1.mpr x; omega
      have f := fin s.1 (s.2 + 1) (by unfold hstp; rw [if_neg nb, if_neg n1])
      refine br_f (fun x => x rfl) (br_t rfl ⟨kd_175 hL, 175, rfl, kd_175 hL, br_t rfl ⟨kd_175 hL, 175, rfl, kd_175 hL, ?_⟩⟩)
      rw [h7, gI_n (by omega), h8, ej]
      exact f
    · have n1 := hb1.mp (by omega)
      have f := fin (s.1 + 1) s.2 (by unfold hstp; rw [if_neg nb, if_pos n1])
      refine br_f (fun x => x rfl) (br_f (by decide) ⟨kd_175 hL, 175, rfl, kd_175 hL, br_f (by decide) ⟨kd_175 hL, 175, rfl, kd_175 hL, ?_⟩⟩)
      rw [h7, gI_n (by omega), h8, ei]
      exact f
  · have nb := hb.mp (by omega)
    have f := fin (s.1 + 1) (s.2 + 1) (by unfold hstp; rw [if_pos nb])
    refine br_t (by decide) (br_t (by decide) ⟨kd_175 hL, 175, rfl, kd_175 hL, br_t rfl ⟨kd_175 hL, 175, rfl, kd_175 hL, ?_⟩⟩)
    rw [h7, gI_n (by omega), h8, ei, ej]
    exact f
