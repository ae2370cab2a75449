/-! ===== sides: both sides ===== -/
def sm (f : Nat → Int) : Nat → Int
  | 0 => 0
  | n + 1 => sm f n + f n
theorem sm_c {f g : Nat → Int} : ∀ {n : Nat}, (∀ k, k < n → f k = g k) → sm f n = sm g n
  | 0, _ => rfl
  | n + 1, h => by
    show sm f n + f n = sm g n + g n
    rw [sm_c (fun k hk => h k (by omega)), h n (by omega)]
theorem sm_add (f g : Nat → Int) : ∀ n, sm (fun k => f k + g k) n = sm f n + sm g n
  | 0 => rfl
  | n + 1 => by
    show sm (fun k => f k + g k) n + (f n + g n) = sm f n + f n + (sm g n + g n)
    rw [sm_add f g n]; omega
theorem sm_0 {f : Nat → Int} : ∀ {n : Nat}, (∀ k, k < n → f k = 0) → sm f n = 0
  | 0, _ => rfl
  | n + 1, h => by
    show sm f n + f n = 0
    rw [sm_0 (fun k hk => h k (by omega)), h n (by omega)]; rfl
theorem sm_split (f : Nat → Int) (m : Nat) : ∀ n, sm f (m + n) = sm f m + sm (fun k => f (m + k)) n
  | 0 => (Int.add_zero _).symm
  | n + 1 => by
    show sm f (m + n) + f (m + n) = sm f m + (sm (fun k => f (m + k)) n + f (m + n))
    rw [sm_split f m n]; omega
theorem sm_ex (f : Nat → Nat → Int) (m : Nat) : ∀ n, sm (fun i => sm (fun j => f i j) m) n = sm (fun j => sm (fun i => f i j) n) m
  | 0 => (sm_0 (fun _ _ => rfl)).symm
  | n + 1 => by
    show sm (fun i => sm (fun j => f i j) m) n + sm (fun j => f n j) m = sm (fun j => sm (fun i => f i j) n + f n j) m
    rw [sm_ex f m n, sm_add]
theorem sm_bl (f : Nat → Int) : ∀ n, sm f (8 * n) = sm (fun i => sm (fun j => f (8 * i + j)) 8) n
  | 0 => rfl
  | n + 1 => by
    show sm f (8 * n + 8) = sm (fun i => sm (fun j => f (8 * i + j)) 8) n + sm (fun j => f (8 * n + j)) 8
    rw [sm_split, sm_bl f n]
def isSdb (a b : WY) (l : Bool) (i j : Nat) : Bool := if l = true then decide (i < wn a ∧ j + 1 < wn b) else decide (i + 1 < wn a ∧ j < wn b)
theorem isSdb_i {a b : WY} {l : Bool} {i j : Nat} : isSdb a b l i j = true ↔ isSd a b l i j := by
  unfold isSdb isSd
  cases l <;> simp
def pv (a b : WY) (n d : Int) (what : Int32) (l : Bool) (i j : Nat) : Bool := if what = 0 then frB (xL a b l i j) n d (xF a b l i j) (xS a b l i j) else if what = 1 then (lG (geo a b n d) l i j).isSome else fsB n d (xS a b l i j) && teB (xL a b l i j) n d (xF a b l i j) (xS a b l i j)
def cv (a b : WY) (n d : Int) (what : Int32) (l : Bool) (i j : Nat) : Int := if (isSdb a b l i j && pv a b n d what l i j) = true then 1 else 0
/-- a side by its row and point in the class -/
def vRp (a b : WY) (n d : Int) (what : Int32) (r p : Nat) : Int := if r < 7 then cv a b n d what false r p else cv a b n d what true p (r - 7)
/-- a side by its number in the reference -/
def uS (a b : WY) (n d : Int) (what : Int32) (s : Nat) : Int := if s < 64 then cv a b n d what true (s / 8) (s % 8) else cv a b n d what false ((s - 64) / 8) ((s - 64) % 8)
theorem cv_0 {a b : WY} {n d : Int} {what : Int32} {l : Bool} {i j : Nat} (h : ¬ isSd a b l i j) : cv a b n d what l i j = 0 := by
  unfold cv
  rw [if_neg]
  intro z
  exact h (isSdb_i.mp (Bool.and_eq_true_iff.mp z).1)
theorem cv_1 {a b : WY} {n d : Int} {what : Int32} {l : Bool} {i j : Nat} (h : isSd a b l i j) : cv a b n d what l i j = if pv a b n d what l i j = true then 1 else 0 := by
  unfold cv
  rw [isSdb_i.mpr h, Bool.true_and]
theorem cnt_eq {a b : WY} {n d : Int} {what : Int32} (ga : gW a) (gb : gW b) : sm (uS a b n d what) 128 = sm (fun r => sm (vRp a b n d what r) 8) 14 := by
  have a2 := ga.2.1
  have b2 := gb.2.1
  have e1 : sm (uS a b n d what) 128 = sm (fun i => sm (fun j => cv a b n d what true i j) 8) 8 + sm (fun i => sm (fun j => cv a b n d what false i j) 8) 8 := by
    have x0 : sm (uS a b n d what) 128 = sm (uS a b n d what) (8 * 8) + sm (fun k => uS a b n d what (8 * 8 + k)) (8 * 8) := by
      rw [show (128 : Nat) = 8 * 8 + 8 * 8 from rfl, sm_split]
    rw [x0, sm_bl, sm_bl]
    refine congr (congrArg HAdd.hAdd ?_) ?_
    · refine sm_c (fun i hi => sm_c (fun j hj => ?_))
      unfold uS
      rw [if_pos (by omega), show (8 * i + j) / 8 = i by omega, show (8 * i + j) % 8 = j by omega]
    · refine sm_c (fun i hi => sm_c (fun j hj => ?_))
      unfold uS
      rw [if_neg (by omega), show (8 * 8 + (8 * i + j) - 64) / 8 = i by omega, show (8 * 8 + (8 * i + j) - 64) % 8 = j by omega]
  have e2 : sm (fun r => sm (vRp a b n d what r) 8) 14 = sm (fun i => sm (fun j => cv a b n d what false i j) 8) 7 + sm (fun j => sm (fun i => cv a b n d what true i j) 8) 7 := by
    have x0 : sm (fun r => sm (vRp a b n d what r) 8) 14 = sm (fun r => sm (vRp a b n d what r) 8) 7 + sm (fun k => sm (vRp a b n d what (7 + k)) 8) 7 := by
      rw [show (14 : Nat) = 7 + 7 from rfl, sm_split]
    rw [x0]
    refine congr (congrArg HAdd.hAdd ?_) ?_
    · refine sm_c (fun i hi => sm_c (fun j hj => ?_))
      unfold vRp; rw [if_pos hi]
    · refine sm_c (fun i hi => sm_c (fun j hj => ?_))
      unfold vRp; rw [if_neg (by omega), show 7 + i - 7 = i by omega]
  have e3 : sm (fun i => sm (fun j => cv a b n d what false i j) 8) 8 = sm (fun i => sm (fun j => cv a b n d what false i j) 8) 7 := by
    show sm (fun i => sm (fun j => cv a b n d what false i j) 8) 7 + sm (fun j => cv a b n d what false 7 j) 8 = _
    rw [sm_0 (f := fun j => cv a b n d what false 7 j) (fun j _ => cv_0 (fun z => by have z' : 7 + 1 < wn a ∧ j < wn b := z; omega)), Int.add_zero]
  have e4 : sm (fun i => sm (fun j => cv a b n d what true i j) 8) 8 = sm (fun j => sm (fun i => cv a b n d what true i j) 8) 7 := by
    rw [sm_ex]
    show sm (fun j => sm (fun i => cv a b n d what true i j) 8) 7 + sm (fun i => cv a b n d what true i 7) 8 = _
    rw [sm_0 (f := fun i => cv a b n d what true i 7) (fun i _ => cv_0 (fun z => by have z' : i < wn a ∧ 7 + 1 < wn b := z; omega)), Int.add_zero]
  rw [e1, e2, e3, e4]; omega
/-- a row's points end at rN -/
theorem row_end {a b : WY} {n d : Int} {what : Int32} {r : Nat} (ga : gW a) (gb : gW b) : sm (vRp a b n d what r) (rN a b r) = sm (vRp a b n d what r) 8 := by
  have h := rN_le (r := r) ga gb
  have x0 : sm (vRp a b n d what r) 8 = sm (vRp a b n d what r) (rN a b r) + sm (fun k => vRp a b n d what r (rN a b r + k)) (8 - rN a b r) := by
    rw [← sm_split, show rN a b r + (8 - rN a b r) = 8 by omega]
  rw [x0, sm_0 (f := fun k => vRp a b n d what r (rN a b r + k)), Int.add_zero]
  intro k hk
  unfold vRp
  unfold rN rI rE rQ at *
  by_cases h7 : r < 7
  · simp only [if_pos h7] at *
    refine cv_0 (fun z => ?_)
    have z' : r + 1 < wn a ∧ (if r + 1 < wn a then wn b else 0) + k < wn b := z
    rw [if_pos z'.1] at z'
    omega
  · simp only [if_neg h7] at *
    refine cv_0 (fun z => ?_)
    have z' : (if r - 7 + 1 < wn b then wn a else 0) + k < wn a ∧ r - 7 + 1 < wn b := z
    rw [if_pos z'.2] at z'
    omega
theorem vR_b (a b : WY) (n d : Int) (what : Int32) (r p : Nat) : 0 ≤ vRp a b n d what r p ∧ vRp a b n d what r p ≤ 1 := by
  unfold vRp cv
  split <;> split <;> omega
theorem sm_b {f : Nat → Int} (h : ∀ k, 0 ≤ f k ∧ f k ≤ 1) : ∀ n, 0 ≤ sm f n ∧ sm f n ≤ n
  | 0 => ⟨Int.le_refl _, Int.le_refl _⟩
  | n + 1 => by
    have := sm_b h n
    have q := h n
    show 0 ≤ sm f n + f n ∧ sm f n + f n ≤ ((n + 1 : Nat) : Int)
    omega
theorem sm_b8 {f : Nat → Int} (h : ∀ k, 0 ≤ f k ∧ f k ≤ 8) : ∀ n, 0 ≤ sm f n ∧ sm f n ≤ 8 * n
  | 0 => ⟨Int.le_refl _, Int.le_refl _⟩
  | n + 1 => by
    have := sm_b8 h n
    have q := h n
    show 0 ≤ sm f n + f n ∧ sm f n + f n ≤ 8 * ((n + 1 : Nat) : Int)
    omega
/-- a side of the class by row and point -/
theorem MS_rp {M : MM} {a b : WY} {n d : Int} {r p : Nat} (hM : MS M a b n d) (h : p < rN a b r) (hr : r < 14) : ∃ l i j, isSd a b l i j ∧ (∀ what, vRp a b n d what r p = if pv a b n d what l i j = true then 1 else 0) ∧ sdE M (63 + (r * 8 + p)) (xL a b l i j) (xF a b l i j) (xS a b l i j) n d ∧ (mR M (63 + (r * 8 + p)) 10).isSome = (lG (geo a b n d) l i j).isSome := by
  have hin := rN_in h
  unfold rI rE rQ at hin
  unfold vRp
  by_cases h7 : r < 7
  · simp only [if_pos h7] at *
    have q := hM.2.2.2 r p hin.1 hin.2
    refine ⟨false, r, p, hin, fun what => cv_1 hin, q.1, ?_⟩
    rw [show 63 + (r * 8 + p) = oL r p from rfl, q.2, Option.isSome_map]; rfl
  · simp only [if_neg h7] at *
    have q := hM.2.2.1 p (r - 7) hin.2 hin.1
    have e : oF p (r - 7) = 63 + (r * 8 + p) := by unfold oF; omega
    rw [e] at q
    refine ⟨true, p, r - 7, ⟨hin.2, hin.1⟩, fun what => cv_1 ⟨hin.2, hin.1⟩, q.1, ?_⟩
    rw [q.2, Option.isSome_map]; rfl
theorem w92_13_s {M : MM} {a b : WY} {n d : Int} {r : Nat} {what : Int32} {k4 : Nat → Int32 → Int32 → Int32 → MM → Prop} {P : Int32 → MM → Prop} (hL : Lay M) (hM : MS M a b n d) (ga : gW a) (gb : gW b) (hr : r < 14) (C : Int) (c0 : 0 ≤ C) (c1 : C ≤ 1000) (hX : k4 59 what (jI (C + sm (vRp a b n d what r) 8)) (jI ((r + 1 : Nat) : Int)) M) :
    ∀ (q p : Nat), p + q = rN a b r → w92_13 k4 (q + 1) 59 what (jI (C + sm (vRp a b n d what r) p)) (jI (r : Int)) (jI (p : Int)) M P := by
  have hr8 := rN_le (r := r) ga gb
  intro q
  induction q with
  | zero =>
    intro p hp
    refine ⟨kd_59 hL, w79_s hL hM.1 hM.2.1 ga gb hr ?_⟩
    rw [jI_le (by omega) (by omega) (by omega) (by omega)]
    refine br_t (by omega) ?_
    simp only [jI_lit, jL_lit, jI_add, jI_sub, jI_mul, jI_neg, jL_add, jL_sub, jL_mul, jL_neg, jL_i, c_s1]
    rw [show p = rN a b r by omega, row_end ga gb]
    exact hX
  | succ q ih =>
    intro p hp
    refine ⟨kd_59 hL, w79_s hL hM.1 hM.2.1 ga gb hr ?_⟩
    rw [jI_le (by omega) (by omega) (by omega) (by omega)]
    have hk : kd M (63 + (r * 8 + p)) 7 := kd_S hL (by omega)
    obtain ⟨l, i, j, hsd, hv, hE, hlo⟩ := MS_rp hM (show p < rN a b r by omega) hr
    refine br_f (by omega) ⟨kd_59 hL, 60, rf_59_0 hL, ?_⟩
    simp (disch := omega) only [jI_lit 8, jI_mul, jI_add, c_m8, c_add, inb60 hL, jI_cn, rf_60 hL, kd_sI, kd_sL, kd_sR, true_and, and_true, Option.some.injEq, exists_eq_left', hk]
    have nx := ih (p + 1) (by omega)
    have nx' : w92_13 k4 (q + 1) 59 what (jI (C + (sm (vRp a b n d what r) p + vRp a b n d what r p))) (jI (r : Int)) (jI ((p + 1 : Nat) : Int)) M P := nx
    rw [hv what] at nx'
    have fin : ∀ z : Bool, z = pv a b n d what l i j → (z = false → w92_99 k4 (fun z0 z1 z2 z3 z4 z5 => w92_13 k4 (q + 1) z0 z1 z2 z3 z4 z5 P) 59 what (jI (C + sm (vRp a b n d what r) p)) (jI (r : Int)) (jI (p : Int)) M P) ∧ (z = true → w92_96 k4 (fun z0 z1 z2 z3 z4 z5 => w92_13 k4 (q + 1) z0 z1 z2 z3 z4 z5 P) 59 what (jI (C + sm (vRp a b n d what r) p)) (jI (r : Int)) (jI (p : Int)) M P) := by
      intro z hz
      refine ⟨fun e => ?_, fun e => ?_⟩
      · rw [← hz, e, if_neg (by decide), Int.add_zero] at nx'
        unfold w92_99
        simp only [jI_lit 1, jI_add, c_s1]
        exact nx'
      · rw [← hz, e, if_pos rfl, ← Int.add_assoc] at nx'
        unfold w92_96 w92_99
        simp only [jI_lit 1, jI_add, c_s1]
        exact nx'
    have g58 : ∀ z : Bool, z = (fsB n d (xS a b l i j) && teB (xL a b l i j) n d (xF a b l i j) (xS a b l i j)) → w92_58 k4 (fun z0 z1 z2 z3 z4 z5 => w92_13 k4 (q + 1) z0 z1 z2 z3 z4 z5 P) 59 what (jI (C + sm (vRp a b n d what r) p)) (jI (r : Int)) (jI (p : Int)) (some (63 + (r * 8 + p))) (bI z) M P := by
      intro z hz
      unfold w92_58
      by_cases e0 : what = 0
      · refine br_f (fun y => y e0) ⟨63 + (r * 8 + p), rfl, hk, ?_⟩
        rw [hE.2.2.2.2.2]
        have f2 := fin _ rfl
        unfold pv at f2
        rw [if_pos e0] at f2
        cases hf : frB (xL a b l i j) n d (xF a b l i j) (xS a b l i j) with
        | false => exact br_t rfl (f2.1 hf)
        | true => exact br_f (by decide) (f2.2 hf)
      · refine br_t e0 ?_
        by_cases e1 : what = 1
        · refine br_f (fun y => y e1) ⟨63 + (r * 8 + p), rfl, hk, ?_⟩
          have f2 := fin _ rfl
          unfold pv at f2
          rw [if_neg e0, if_pos e1, ← hlo] at f2
          cases hm : mR M (63 + (r * 8 + p)) 10 with
          | none => rw [hm] at f2; exact ⟨fun _ => f2.1 rfl, fun y => absurd rfl y⟩
          | some t => rw [hm] at f2; exact ⟨fun y => absurd y (by simp), fun _ => f2.2 rfl⟩
        · refine br_t e1 ?_
          have f2 := fin _ rfl
          unfold pv at f2
          rw [if_neg e0, if_neg e1, ← hz] at f2
          cases z with
          | false => exact br_t rfl (f2.1 rfl)
          | true => exact br_f (by decide) (f2.2 rfl)
    rw [hE.2.2.2.1, hE.2.2.2.2.1]
    cases k1 : fsB n d (xS a b l i j) with
    | false => exact br_t rfl (g58 false (by rw [k1]; rfl))
    | true =>
      refine br_f (by decide) ?_
      cases k2 : teB (xL a b l i j) n d (xF a b l i j) (xS a b l i j) with
      | false => exact br_t rfl (g58 false (by rw [k1, k2]; rfl))
      | true => exact br_f (by decide) (g58 true (by rw [k1, k2]; rfl))
