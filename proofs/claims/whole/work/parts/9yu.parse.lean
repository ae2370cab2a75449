/-! ===== a machine that reads tokens; the class follows it ===== -/
theorem nv_i {b a : Nat} : ∀ R R' : List Nat, (∀ c, c ∈ R → c + a < b ∧ 0 < c + a) → (∀ c, c ∈ R' → c + a < b ∧ 0 < c + a) → nv b a R = nv b a R' → R = R' := by
  intro R
  induction R with
  | nil =>
    intro R' _ h' e
    cases R' with
    | nil => rfl
    | cons c r =>
      have h1 := h' c (List.mem_cons_self ..)
      have e' : 0 = (c + a) + b * nv b a r := e
      omega
  | cons c r ih =>
    intro R' h h' e
    have h1 := h c (List.mem_cons_self ..)
    cases R' with
    | nil =>
      have e' : (c + a) + b * nv b a r = 0 := e
      omega
    | cons c' r' =>
      have h2 := h' c' (List.mem_cons_self ..)
      have e' : (c + a) + b * nv b a r = (c' + a) + b * nv b a r' := e
      have m := congrArg (fun z => z % b) e'
      have d := congrArg (fun z => z / b) e'
      simp only [Nat.add_mul_mod_self_left] at m
      rw [Nat.mod_eq_of_lt h1.1, Nat.mod_eq_of_lt h2.1] at m
      have b0 : 0 < b := by omega
      simp only [Nat.add_mul_div_left _ _ b0] at d
      rw [Nat.div_eq_of_lt h1.1, Nat.div_eq_of_lt h2.1, Nat.zero_add, Nat.zero_add] at d
      have ec : c = c' := by omega
      rw [ec, ih r' (fun c hc => h c (List.mem_cons_of_mem _ hc)) (fun c hc => h' c (List.mem_cons_of_mem _ hc)) d]
theorem nv_ic {R R' : List Nat} (h : gNm R) (h' : gNm R') : (jL (nv 256 96 R : Int) = jL (nv 256 96 R' : Int)) ↔ R = R' := by
  have b1 := nv_c h
  have b2 := nv_c h'
  rw [jL_eq (by omega) (by omega) (by omega) (by omega)]
  refine ⟨fun e => nv_i (b := 256) (a := 96) R R' (fun c hc => by have := h.2.2 c hc; omega) (fun c hc => by have := h'.2.2 c hc; omega) (by omega), fun e => by rw [e]⟩
theorem nv_ir {R R' : List Nat} (h : gNm R) (h' : gNm R') : (jL (nv 32 0 R : Int) = jL (nv 32 0 R' : Int)) ↔ R = R' := by
  have b1 := nv_r h
  have b2 := nv_r h'
  rw [jL_eq (by omega) (by omega) (by omega) (by omega)]
  refine ⟨fun e => nv_i (b := 32) (a := 0) R R' (fun c hc => by have := h.2.2 c hc; omega) (fun c hc => by have := h'.2.2 c hc; omega) (by omega), fun e => by rw [e]⟩
def upL (f : Nat → List Nat) (o : Nat) (R : List Nat) : Nat → List Nat := fun w => if w = o then R else f w
def hasN (Nm : Nat → List Nat) (k : Nat) (R : List Nat) : Bool := (List.range k).any (fun w => decide (Nm w = R))
def ptW (a : WY) (x y : Nat) : WY := (wn a + 1, fun t => if t = wn a then (x : Int) else wx a t, fun t => if t = wn a then (y : Int) else wy a t)
def noW : WY := (0, fun _ => 0, fun _ => 0)
/-- awaited (0 way, 1 name, 2 x, 3 y), how many ways, names, ways, x -/
abbrev PS : Type := Nat × Nat × (Nat → List Nat) × (Nat → WY) × Nat
def st0 (s : PS) (kd v : Nat) (R : List Nat) : Nat × PS := if kd = 1 ∧ R = [25, 1, 23] then (if s.2.1 < 4 then (0, (1, s.2)) else (5, s)) else (2, s)
def st1 (s : PS) (kd v : Nat) (R : List Nat) : Nat × PS := if kd = 1 ∧ R ≠ [25, 1, 23] then (if hasN s.2.2.1 s.2.1 R = true then (4, s) else (0, (2, s.2.1 + 1, upL s.2.2.1 s.2.1 R, upW s.2.2.2.1 s.2.1 noW, s.2.2.2.2))) else (2, s)
def st2 (s : PS) (kd v : Nat) (R : List Nat) : Nat × PS := if kd = 3 ∧ 2 ≤ wn (s.2.2.2.1 (s.2.1 - 1)) then (0, (0, s.2)) else if kd ≠ 2 then (2, s) else if 18 < v then (3, s) else if 8 ≤ wn (s.2.2.2.1 (s.2.1 - 1)) then (5, s) else (0, (3, s.2.1, s.2.2.1, s.2.2.2.1, v))
def st3 (s : PS) (kd v : Nat) (R : List Nat) : Nat × PS := if kd ≠ 2 then (2, s) else if 18 < v then (3, s) else if atP (s.2.2.2.1 (s.2.1 - 1)) ((wn (s.2.2.2.1 (s.2.1 - 1)) : Int) - 1) s.2.2.2.2 v = true then (6, s) else (0, (2, s.2.1, s.2.2.1, upW s.2.2.2.1 (s.2.1 - 1) (ptW (s.2.2.2.1 (s.2.1 - 1)) s.2.2.2.2 v), s.2.2.2.2))
def stT (s : PS) (kd v : Nat) (R : List Nat) : Nat × PS := if kd = 0 then (1, s) else if s.1 = 0 then st0 s kd v R else if s.1 = 1 then st1 s kd v R else if s.1 = 2 then st2 s kd v R else st3 s kd v R
/-- a way that is being read -/
def hW (a : WY) : Prop := wn a ≤ 8 ∧ (∀ i, i < wn a → 0 ≤ wx a i ∧ wx a i ≤ 18 ∧ 0 ≤ wy a i ∧ wy a i ≤ 18) ∧ ∀ i, i + 1 < wn a → ¬ (wx a i = wx a (i + 1) ∧ wy a i = wy a (i + 1))
def PIv (s : PS) : Prop := s.1 ≤ 3 ∧ s.2.1 ≤ 4 ∧ (2 ≤ s.1 → 1 ≤ s.2.1) ∧ (s.1 = 1 → s.2.1 < 4) ∧ (s.1 = 3 → wn (s.2.2.2.1 (s.2.1 - 1)) < 8 ∧ s.2.2.2.2 ≤ 18) ∧ ∀ w, w < s.2.1 → gNm (s.2.2.1 w) ∧ hW (s.2.2.2.1 w) ∧ (2 ≤ wn (s.2.2.2.1 w) ∨ (2 ≤ s.1 ∧ w + 1 = s.2.1))
def CPs (M : MM) (s : PS) : Prop := mI M 2 3 = jI (s.1 : Int) ∧ mI M 2 1 = jI (s.2.1 : Int) ∧ (s.1 = 3 → mI M 2 8 = jI (s.2.2.2.2 : Int)) ∧ (2 ≤ s.1 → mR M 2 2 = some (7 + 3 * (s.2.1 - 1))) ∧ ∀ w, w < s.2.1 → TrC M (7 + 3 * w) (s.2.2.2.1 w) ∧ mL M (7 + 3 * w) 0 = jL (nv 256 96 (s.2.2.1 w) : Int)
def sRd : Nat → Nat → Bool := fun x k => sB 2 1 3 7 18 x k || sB 2 8 8 7 18 x k
theorem sRd_1 {k : Nat} (h : 1 ≤ k ∧ k ≤ 3) : sRd 2 k = true := by unfold sRd; rw [sB_t1 h]; rfl
theorem sRd_8 : sRd 2 8 = true := rfl
theorem sRd_t {x k : Nat} (h : 7 ≤ x ∧ x ≤ 18) : sRd x k = true := by unfold sRd; rw [sB_t2 h]; rfl
theorem sRd_f {x k : Nat} (h : ¬ (x = 2 ∧ ((1 ≤ k ∧ k ≤ 3) ∨ k = 8))) (h1 : ¬ (7 ≤ x ∧ x ≤ 18)) : sRd x k = false := by
  unfold sRd
  rw [sB_f (by omega) h1, sB_f (by omega) h1]; rfl
/-- the token that lies there -/
def CTo (M : MM) (kd v : Nat) (R : List Nat) : Prop := mI M 2 6 = jI (kd : Int) ∧ kd ≤ 4 ∧ (kd = 1 → gNm R ∧ mL M 2 7 = jL (nv 256 96 R : Int)) ∧ (kd = 2 → v ≤ 99 ∧ mL M 2 7 = jL (v : Int))
theorem CPs_a {M : MM} {s : PS} {a : Nat} (h : CPs M s) (a1 : a ≤ 1) : CPs (sI M 2 3 (jI (a : Int))) (a, s.2) := by
  refine ⟨gI_y ⟨rfl, rfl⟩, by rw [gI_n (by omega)]; exact h.2.1, fun x => absurd (show a = 3 from x) (by omega), fun x => absurd (show 2 ≤ a from x) (by omega), fun w hw => ⟨TrC_fr2 (S := sB 2 3 3 1 0) (Fr_sI Fr_r (sB_t1 (by omega))) (fun x k y1 y2 => sB_f (by omega) (by omega)) (h.2.2.2.2 w hw).1, (h.2.2.2.2 w hw).2⟩⟩
theorem w23_s {M : MM} {s : PS} {kd v : Nat} {R : List Nat} {P : Int32 → MM → Prop} (hL : Lay M) (hS : CPs M s) (hI : PIv s) (hT : CTo M kd v R) (hX : ∀ M' f s', Fr sRd M M' → (f, s') = st0 s kd v R → CPs M' s' → P (jI (f : Int)) M') : w23 2 M P := by
  unfold st0 at hX
  have k4 := hI.2.1
  have kd4 := hT.2.1
  have no : ¬ (kd = 1 ∧ R = [25, 1, 23]) → w23_19 M P := fun z => by
    rw [if_neg z] at hX
    exact hX M 2 s Fr_r rfl hS
  unfold w23
  rw [hT.1, show (1 : Int32) = jI 1 from rfl, ne_eq, jI_eq (by omega) (by omega) (by omega) (by omega)]
  refine ⟨kd_2 hL, fun z => no (by omega), fun z => ⟨kd_2 hL, ?_⟩⟩
  have g1 := hT.2.2.1 (by omega)
  rw [g1.2, show (0 : Int32) = jI 0 from rfl, lc_eq, show (7823737 : Int64) = jL (nv 256 96 [25, 1, 23] : Int) from rfl, nv_ic g1.1 gN_way]
  refine ⟨fun y => ⟨kd_2 hL, ?_⟩, fun y => no (fun x => y x.2)⟩
  rw [if_pos ⟨by omega, y⟩] at hX
  rw [hS.2.1, show (4 : Int32) = jI 4 from rfl, jI_lt (by omega) (by omega) (by omega) (by omega)]
  refine ⟨fun x => ⟨kd_2 hL, ?_⟩, fun x => ?_⟩
  · rw [if_pos (by omega)] at hX
    exact hX _ 0 _ (Fr_sI Fr_r (sRd_1 (by omega))) rfl (CPs_a (a := 1) hS (Nat.le_refl _))
  · rw [if_neg (by omega)] at hX
    exact hX M 5 s Fr_r rfl hS
theorem w26_s {M : MM} {s : PS} {kd v : Nat} {R : List Nat} {P : Int32 → MM → Prop} (hL : Lay M) (hS : CPs M s) (hI : PIv s) (h2 : s.1 = 2) (hT : CTo M kd v R) (hX : ∀ M' f s', Fr sRd M M' → (f, s') = st2 s kd v R → CPs M' s' → P (jI (f : Int)) M') : w26 2 M P := by
  unfold st2 at hX
  have k4 := hI.2.1
  have k1 := hI.2.2.1 (by omega)
  have kd4 := hT.2.1
  have hl := hS.2.2.2.1 (by omega)
  have tT : isT (7 + 3 * (s.2.1 - 1)) = true := isT_rd (by omega)
  have tr := hS.2.2.2.2 (s.2.1 - 1) (by omega)
  have hw8 := (hI.2.2.2.2.2 (s.2.1 - 1) (by omega)).2.1.1
  have rest : ¬ (kd = 3 ∧ 2 ≤ wn (s.2.2.2.1 (s.2.1 - 1))) → w26_26 2 M P := fun z => by
    rw [if_neg z] at hX
    unfold w26_26
    rw [hT.1, show (2 : Int32) = jI 2 from rfl, jI_eq (by omega) (by omega) (by omega) (by omega)]
    refine ⟨kd_2 hL, fun y => ⟨kd_2 hL, ?_⟩, fun y => ?_⟩
    · rw [if_neg (by omega)] at hX
      have g2 := hT.2.2.2 (by omega)
      rw [g2.2, show (0 : Int32) = jI 0 from rfl, show (18 : Int64) = jL 18 from rfl, lc_le, jL_le (by omega) (by omega) (by omega) (by omega), jL_i]
      refine ⟨fun x => ⟨kd_2 hL, 7 + 3 * (s.2.1 - 1), hl, kd_T hL tT, ?_⟩, fun x => ?_⟩
      · rw [if_neg (by omega)] at hX
        rw [tr.1.1, show (8 : Int32) = jI 8 from rfl, jI_lt (by omega) (by omega) (by omega) (by omega)]
        refine ⟨fun u => ⟨kd_2 hL, kd_2 hL, kd_2 hL, ?_⟩, fun u => ?_⟩
        · rw [if_neg (by omega)] at hX
          refine hX _ 0 _ (Fr_sI (Fr_sI Fr_r sRd_8) (sRd_1 (by omega))) rfl ⟨gI_y ⟨rfl, rfl⟩, by rw [gI_n (by omega), gI_n (by omega)]; exact hS.2.1, fun _ => by rw [gI_n (by omega), gI_y ⟨rfl, rfl⟩], fun _ => hl, fun w hw => ?_⟩
          have q := hS.2.2.2.2 w hw
          exact ⟨TrC_fr2 (S := sB 2 3 8 1 0) (Fr_sI (Fr_sI Fr_r (sB_t1 (by omega))) (sB_t1 (by omega))) (fun x k y1 y2 => sB_f (by omega) (by omega)) q.1, q.2⟩
        · rw [if_pos (by omega)] at hX
          exact hX M 5 s Fr_r rfl hS
      · rw [if_pos (by omega)] at hX
        exact hX M 3 s Fr_r rfl hS
    · rw [if_pos (by omega)] at hX
      exact hX M 2 s Fr_r rfl hS
  unfold w26
  rw [hT.1, show (3 : Int32) = jI 3 from rfl, ne_eq, jI_eq (by omega) (by omega) (by omega) (by omega)]
  refine ⟨kd_2 hL, fun z => rest (by omega), fun z => ⟨kd_2 hL, 7 + 3 * (s.2.1 - 1), hl, kd_T hL tT, ?_⟩⟩
  rw [tr.1.1, show (2 : Int32) = jI 2 from rfl, jI_lt (by omega) (by omega) (by omega) (by omega)]
  refine ⟨fun y => rest (by omega), fun y => ⟨kd_2 hL, ?_⟩⟩
  rw [if_pos ⟨by omega, by omega⟩] at hX
  exact hX _ 0 _ (Fr_sI Fr_r (sRd_1 (by omega))) rfl (CPs_a (a := 0) hS (Nat.zero_le _))
