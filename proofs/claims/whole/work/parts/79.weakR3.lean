/-! WEAK: the reference, and ENOUGH by WEAK on both sides -/
def flt (f : Nat → Nat → Bool) : Nat → Bool := fun p => f (p / 8) (p % 8)
theorem w242_35_s {M0 M1 : MM} {a b : WY} {n d : Int} {P : Int32 → MM → Prop} (hL1 : Lay M1) (hR : RAB M1 a b) (hA : FAll M0 a b n d M1) (ga : gW a) (gb : gW b) (hX : ∀ (M' : MM) (e : Bool), Fr sSw M1 M' → (e = true ↔ Sto (wn a) (wn b) (geo a b n d) (wn a - 2) (wn b - 2)) → P (bI e) M') :
    ∀ (q r : Nat) (M : MM) (fl : Bool) (f0 f : Nat → Nat → Bool), r + q = 65 → RV M1 (wn a) (wn b) (geo a b n d) f0 M fl f allD → f 0 0 = true → r ≤ cdN (flt f0) 64 → w242_35 (q + 1) 203 (bI fl) M P := by
  have a1 := ga.1
  have a2 := ga.2.1
  have b1 := gb.1
  have b2 := gb.2.1
  intro q
  induction q with
  | zero =>
    intro r M fl f0 f hr h h0 hc
    have := cdN_le (flt f0) 64
    omega
  | succ q ih =>
    intro r M fl f0 f hr h h0 hc
    have hL := h.1.1 hL1
    cases fl with
    | false =>
      have e28 : mI M 203 28 = jI (wn b : Int) := (Fr_I h.1 (sSw_f (by omega))).trans hR.2.1
      have e27 : mI M 203 27 = jI (wn a : Int) := (Fr_I h.1 (sSw_f (by omega))).trans hR.1
      refine br_t rfl ⟨kd_203 hL, kd_203 hL, kd_203 hL, 225, rf_203_45 hL, ?_⟩
      rw [e27, e28, show (8 : Int32) * (jI (wn a : Int) - 2) + jI (wn b : Int) - 2 = jI ((8 * (wn a - 2) + (wn b - 2) : Nat) : Int) by rw [show (8 : Int32) = jI 8 from rfl, show (2 : Int32) = jI 2 from rfl, jI_sub, jI_mul, jI_add, jI_sub]; congr 1; omega]
      refine ⟨i225 hL (by omega), ?_⟩
      rw [jI_cn (by omega), h.2.1 (wn a - 2) (wn b - 2) (by omega) (by omega)]
      exact ⟨bI_01 _, hX M _ h.1 (SV_fix h.2.2.1 (h.2.2.2.1 rfl) h0)⟩
    | true =>
      have hlt : cdN (flt f0) 64 < cdN (flt f) 64 := by
        refine cdN_lt 64 (fun p _ => h.2.2.1.1 _ _) ?_
        obtain ⟨i, j, q1, q2, q3, q4⟩ := h.2.2.2.2 rfl
        refine ⟨8 * i + j, by omega, ?_, ?_⟩
        · show f0 ((8 * i + j) / 8) ((8 * i + j) % 8) = false
          rw [show (8 * i + j) / 8 = i by omega, show (8 * i + j) % 8 = j by omega]; exact q3
        · show f ((8 * i + j) / 8) ((8 * i + j) % 8) = true
          rw [show (8 * i + j) / 8 = i by omega, show (8 * i + j) % 8 = j by omega]; exact q4
      have h' : RV M1 (wn a) (wn b) (geo a b n d) f M false f (dnE 0 0 false) := ⟨h.1, h.2.1, ⟨fun _ _ q => q, h.2.2.1.2.1, fun i j d1 => absurd d1 (by unfold dnE; simp), fun i j d1 => absurd d1 (by unfold dnE; simp)⟩, fun _ _ _ => rfl, fun z => (by cases z)⟩
      refine br_f (by decide) ⟨wn a - 1 + 1, ?_⟩
      exact w242_43_s (k35 := fun z0 z1 z2 => w242_35 (q + 1) z0 z1 z2 P) hL1 hR hA ga gb (fun M' fl' f' hy => ih (r + 1) M' fl' f f' (by omega) hy (hy.2.2.1.1 _ _ h0) (by omega)) (wn a - 1) 0 M false f (by omega) h'
theorem w242_6_s {M0 M1 : MM} {a b : WY} {n d : Int} {P : Int32 → MM → Prop} (hL1 : Lay M1) (hR : RAB M1 a b) (hA : FAll M0 a b n d M1) (ga : gW a) (gb : gW b) (hX : ∀ (M' : MM) (e : Bool), Fr sSw M1 M' → (e = true ↔ Sto (wn a) (wn b) (geo a b n d) (wn a - 2) (wn b - 2)) → P (bI e) M') :
    ∀ (q p : Nat) (M : MM), p + q = 64 → Fr sSw M1 M → (∀ s, s < p → mI M 225 s = bI (decide (s = 0))) → w242_6 (q + 1) 203 (jI (p : Int)) M P := by
  have a1 := ga.1
  have b1 := gb.1
  intro q
  induction q with
  | zero =>
    intro p M hp hF h
    refine br_t ?_ ⟨66, ?_⟩
    · rw [show (64 : Int32) = jI 64 from rfl, jI_le (by omega) (by omega) (by omega) (by omega)]; omega
    refine w242_35_s hL1 hR hA ga gb hX 65 0 M true (fun _ _ => false) (fun i j => decide (8 * i + j = 0)) (by omega) ⟨hF, fun i j hi hj => h _ (by omega), ⟨fun _ _ z => (by cases z), fun i j z => ?_, fun i j _ _ _ _ z => ?_, fun i j _ _ _ _ z => ?_⟩, fun z => (by cases z), fun _ => ⟨0, 0, by omega, by omega, rfl, rfl⟩⟩ rfl (by omega)
    · have := of_decide_eq_true z
      rw [show i = 0 by omega, show j = 0 by omega]
      exact ⟨by omega, by omega, Sto_0⟩
    · rcases z with z | z <;> cases z
    · rcases z with z | z <;> cases z
  | succ q ih =>
    intro p M hp hF h
    have hL := hF.1 hL1
    have nx : ∀ v : Bool, v = decide (p = 0) → w242_26 (fun z0 z1 z2 => w242_6 (q + 1) z0 z1 z2 P) 203 (jI (p : Int)) (mR M 203 45) (jI (p : Int)) (bI v) M P := fun v hv => by
      refine ⟨225, rf_203_45 hL, i225 hL (by omega), ?_⟩
      rw [jI_cn (by omega), b_a1, show (1 : Int32) = jI 1 from rfl, jI_add, c_s1]
      refine ih (p + 1) _ (by omega) (Fr_sI hF (sB_t2 (by omega))) (fun s hs => ?_)
      by_cases e : s = p
      · rw [gI_y ⟨rfl, e⟩, hv, e]
      · rw [gI_n (fun z => e z.2)]; exact h s (by omega)
    refine br_f ?_ ⟨kd_203 hL, fun z => ?_, fun z => ?_⟩
    · rw [show (64 : Int32) = jI 64 from rfl, jI_le (by omega) (by omega) (by omega) (by omega)]; omega
    · refine nx false (decide_eq_false (fun y => z ?_)).symm
      rw [y]; rfl
    · have z' : jI (p : Int) = jI 0 := Classical.not_not.mp z
      rw [jI_eq (by omega) (by omega) (by omega) (by omega)] at z'
      exact nx true (decide_eq_true (by omega)).symm
def sWk : Nat → Nat → Bool := sB 203 31 33 214 225
theorem Fr_Aw {M M' : MM} (h : Fr sFA M M') : Fr sWk M M' := Fr_w h (sB_w (o := 203) (c := 31) (d := 33) (a := 214) (b := 224) (by omega) (by omega))
theorem Fr_Sw {M M' : MM} (h : Fr sSw M M') : Fr sWk M M' := Fr_w h (sB_w (o := 203) (c := 1) (d := 0) (a := 225) (b := 225) (by omega) (by omega))
theorem w242_s {M : MM} {a b : WY} {n d : Int} {P : Int32 → MM → Prop} (hL : Lay M) (hR : RAB M a b) (hD : REd M n d) (ga : gW a) (gb : gW b) (hE : gE n d) (hX : ∀ (M' : MM) (e : Bool), Fr sWk M M' → (e = true ↔ Sto (wn a) (wn b) (geo a b n d) (wn a - 2) (wn b - 2)) → P (bI e) M') : w242 203 M P :=
  ⟨kd_203 hL, w216_s hL hR hD ga gb hE (fun M1 h1 => ⟨65, w242_6_s (h1.1.1 hL) (RAB_A h1.1 hR) h1 ga gb (fun M' e hF he => hX M' e (Fr_t (Fr_Aw h1.1) (Fr_Sw hF)) he) 64 0 M1 (by omega) Fr_r (fun s hs => absurd hs (by omega))⟩)⟩
/-- ENOUGH by WEAK -/
def Wk (a b : WY) (n d : Int) : Prop := gN (geo a b n d) 0 0 = true ∧ gN (geo a b n d) (wn a - 1) (wn b - 1) = true ∧ Sto (wn a) (wn b) (geo a b n d) (wn a - 2) (wn b - 2)
theorem w100_1 {M : MM} {a b : WY} {n d : Int} {P : Int32 → MM → Prop} (hL : Lay M) (hM : MS M a b n d) (ga : gW a) (gb : gW b) (hX : ∀ e : Bool, (e = true ↔ Wk a b n d) → P (bI e) M) : w100 59 1 M P := by
  have a1 := ga.1
  have a2 := ga.2.1
  have b1 := gb.1
  have b2 := gb.2.1
  have q0 := (hM.2.2.2 0 0 (by omega) (by omega)).1
  have q9 := (hM.2.2.2 (wn a - 2) (wn b - 1) (by omega) (by omega)).1
  have hk0 : kd M (oL 0 0) 7 := kd_S hL (by omega)
  have hk9 : kd M (oL (wn a - 2) (wn b - 1)) 7 := kd_S hL (by omega)
  refine ⟨kd_59 hL, w82_s (i := 0) (j := 0) hL (by omega) ⟨oL 0 0, rfl, hk0, ?_⟩⟩
  have e0 : mI M (oL 0 0) 7 = bI (gN (geo a b n d) 0 0) := by
    rw [q0.2.2.2.1]
    show bI (decide (qd b 0 a 0 * d ≤ n)) = bI (decide (qd a 0 b 0 * d ≤ n))
    rw [qd_sym]
  rw [e0]
  unfold Wk at hX
  cases h0 : gN (geo a b n d) 0 0 with
  | false =>
    rw [h0] at hX
    exact br_t rfl (hX false ⟨fun z => (by cases z), fun z => (by cases z.1)⟩)
  | true =>
    rw [h0] at hX
    refine br_f (by decide) ⟨kd_59 hL, kd_59 hL, kd_59 hL, ?_⟩
    rw [hM.1, hM.2.1]
    rw [show jI ((wn a : Int) - 1) - 1 = jI ((wn a - 2 : Nat) : Int) by rw [show (1 : Int32) = jI 1 from rfl, jI_sub]; congr 1; omega, show ((wn b : Int) - 1) = ((wn b - 1 : Nat) : Int) by omega]
    refine w82_s hL (by omega) ⟨_, rfl, hk9, ?_⟩
    rw [q9.2.2.2.2.1, te_near ga]
    cases h9 : gN (geo a b n d) (wn a - 1) (wn b - 1) with
    | false =>
      rw [h9] at hX
      exact br_f (by decide) (hX false ⟨fun z => (by cases z), fun z => (by cases z.2.1)⟩)
    | true =>
      rw [h9] at hX
      refine br_t (by decide) (br_f (fun z => z rfl) ⟨kd_59 hL, w101_s hL hM ga gb (fun e he => ⟨bI_01 _, hX e ⟨fun z => ⟨rfl, rfl, he.mp z⟩, fun z => he.mpr z.2.2⟩⟩)⟩)
theorem w239_1 {M : MM} {a b : WY} {n d : Int} {P : Int32 → MM → Prop} (hL : Lay M) (hR : RAB M a b) (hD : REd M n d) (ga : gW a) (gb : gW b) (hE : gE n d) (hX : ∀ (M' : MM) (e : Bool), Fr sWk M M' → (e = true ↔ Wk a b n d) → P (bI e) M') : w239 203 1 M P := by
  refine ⟨kd_203 hL, w240_s hL hR hD ga gb hE ?_⟩
  unfold Wk at hX
  cases h0 : gN (geo a b n d) 0 0 with
  | false =>
    rw [h0] at hX
    exact br_f (fun z => z rfl) (hX M false Fr_r ⟨fun z => (by cases z), fun z => (by cases z.1)⟩)
  | true =>
    cases h9 : gN (geo a b n d) (wn a - 1) (wn b - 1) with
    | false =>
      rw [h9] at hX
      exact br_f (by decide) (hX M false Fr_r ⟨fun z => (by cases z), fun z => (by cases z.2.1)⟩)
    | true =>
      rw [h0, h9] at hX
      refine br_t (by decide) (br_t (by decide) (br_f (fun z => z rfl) ⟨kd_203 hL, w242_s hL hR hD ga gb hE (fun M' e hF he => ⟨bI_01 _, hX M' e hF ⟨fun z => ⟨rfl, rfl, he.mp z⟩, fun z => he.mpr z.2.2⟩⟩)⟩))
