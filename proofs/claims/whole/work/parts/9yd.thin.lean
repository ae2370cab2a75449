/-! ===== thinned: bits and chains ===== -/
theorem smod_d : ∀ c : Nat, c < 64 → ((jI (c : Int)).toInt64 &&& 63).toBitVec.smod 64 = BitVec.ofNat 64 c := by decide
theorem shl_1 {c : Nat} (hc : c < 64) : (1 : Int64) <<< ((jI (c : Int)).toInt64 &&& 63) = lN (2 ^ c) := by
  have hs := smod_d c hc
  generalize (jI (c : Int)).toInt64 &&& 63 = y at hs ⊢
  have g : lN 1 <<< y = lN (1 * 2 ^ c) := g_shl hs hc rfl (by decide)
  rw [Nat.one_mul] at g
  exact g
theorem umod_c : ∀ c : Nat, c < 64 → ((((jI (c : Int)).toInt64.toUInt64 &&& Int64.toUInt64 63) % 64).toBitVec).toNat = c := by decide
theorem bt_shr {x : Int64} {c p : Nat} (hc : c < 64) : bt ((x.toUInt64 >>> ((jI (c : Int)).toInt64.toUInt64 &&& Int64.toUInt64 63)).toInt64) p = bt x (c + p) := by
  have hs := umod_c c hc
  generalize ((jI (c : Int)).toInt64.toUInt64 &&& Int64.toUInt64 63) = s at hs ⊢
  show (x.toBitVec >>> (s % 64).toBitVec).getLsbD p = _
  rw [BitVec.ushiftRight_eq', BitVec.getLsbD_ushiftRight, hs]
  rfl
theorem tst_1 {v : Int64} : (v &&& (1 : Int64)) = 0 ↔ bt v 0 = false := by
  constructor
  · intro h
    have : bt (v &&& 1) 0 = bt 0 0 := congrArg (fun u => bt u 0) h
    rw [bt_and, bt_1, decide_eq_true rfl, Bool.and_true] at this
    exact this.trans (bt_0 0)
  · intro h
    refine bt_ext (fun q _ => ?_)
    rw [bt_and, bt_1, bt_0]
    by_cases e : q = 0
    · rw [e, h, Bool.false_and]
    · rw [decide_eq_false e, Bool.and_false]
/-- which points of a set are there; sets that are chains -/
def sbt (x : Int32) (t : Nat) : Bool := decide (¬ ((x >>> (jI (t : Int) &&& 31)) &&& (1 : Int32)) = 0)
def chW (sp : Nat → Nat → Bool) (x : Int32) : Nat → Option Nat
  | 0 => some 0
  | t + 1 => match chW sp x t with
    | none => none
    | some f => if sbt x (t + 1) = true then (if sp f (t + 1) = true then some (t + 1) else none) else some f
theorem chW_n {sp : Nat → Nat → Bool} {x : Int32} {t : Nat} (h : chW sp x t = none) : chW sp x (t + 1) = none := by
  show (match chW sp x t with
    | none => none
    | some f => if sbt x (t + 1) = true then (if sp f (t + 1) = true then some (t + 1) else none) else some f) = none
  rw [h]
theorem chW_s {sp : Nat → Nat → Bool} {x : Int32} {t f : Nat} (h : chW sp x t = some f) : chW sp x (t + 1) = if sbt x (t + 1) = true then (if sp f (t + 1) = true then some (t + 1) else none) else some f := by
  show (match chW sp x t with
    | none => none
    | some f => if sbt x (t + 1) = true then (if sp f (t + 1) = true then some (t + 1) else none) else some f) = _
  rw [h]
theorem chW_k {sp : Nat → Nat → Bool} {x : Int32} {t u : Nat} (h : chW sp x t = none) (tu : t ≤ u) : chW sp x u = none := by
  obtain ⟨k, rfl⟩ : ∃ k, u = t + k := ⟨u - t, by omega⟩
  clear tu
  induction k with
  | zero => exact h
  | succ k ih => exact chW_n ih
theorem chW_l {sp : Nat → Nat → Bool} {x : Int32} : ∀ {t f : Nat}, chW sp x t = some f → f ≤ t
  | 0, f, h => by cases h; omega
  | t + 1, f, h => by
    cases q : chW sp x t with
    | none => rw [chW_n q] at h; cases h
    | some g =>
      have := chW_l q
      rw [chW_s q] at h
      by_cases c : sbt x (t + 1) = true
      · rw [if_pos c] at h
        by_cases e : sp g (t + 1) = true
        · rw [if_pos e] at h; cases h; omega
        · rw [if_neg e] at h; cases h
      · rw [if_neg c] at h; cases h; omega
/-- how many points a set has, as both sides count -/
def bcF (x : Int32) : Int32 := ((((((((x - (((x.toUInt32 >>> ((1 : Int32).toUInt32 &&& Int32.toUInt32 31)).toInt32) &&& (1431655765 : Int32))) &&& (858993459 : Int32)) + ((((x - (((x.toUInt32 >>> ((1 : Int32).toUInt32 &&& Int32.toUInt32 31)).toInt32) &&& (1431655765 : Int32))).toUInt32 >>> ((2 : Int32).toUInt32 &&& Int32.toUInt32 31)).toInt32) &&& (858993459 : Int32))) + (((((x - (((x.toUInt32 >>> ((1 : Int32).toUInt32 &&& Int32.toUInt32 31)).toInt32) &&& (1431655765 : Int32))) &&& (858993459 : Int32)) + ((((x - (((x.toUInt32 >>> ((1 : Int32).toUInt32 &&& Int32.toUInt32 31)).toInt32) &&& (1431655765 : Int32))).toUInt32 >>> ((2 : Int32).toUInt32 &&& Int32.toUInt32 31)).toInt32) &&& (858993459 : Int32))).toUInt32 >>> ((4 : Int32).toUInt32 &&& Int32.toUInt32 31)).toInt32)) &&& (252645135 : Int32)) + (((((((x - (((x.toUInt32 >>> ((1 : Int32).toUInt32 &&& Int32.toUInt32 31)).toInt32) &&& (1431655765 : Int32))) &&& (858993459 : Int32)) + ((((x - (((x.toUInt32 >>> ((1 : Int32).toUInt32 &&& Int32.toUInt32 31)).toInt32) &&& (1431655765 : Int32))).toUInt32 >>> ((2 : Int32).toUInt32 &&& Int32.toUInt32 31)).toInt32) &&& (858993459 : Int32))) + (((((x - (((x.toUInt32 >>> ((1 : Int32).toUInt32 &&& Int32.toUInt32 31)).toInt32) &&& (1431655765 : Int32))) &&& (858993459 : Int32)) + ((((x - (((x.toUInt32 >>> ((1 : Int32).toUInt32 &&& Int32.toUInt32 31)).toInt32) &&& (1431655765 : Int32))).toUInt32 >>> ((2 : Int32).toUInt32 &&& Int32.toUInt32 31)).toInt32) &&& (858993459 : Int32))).toUInt32 >>> ((4 : Int32).toUInt32 &&& Int32.toUInt32 31)).toInt32)) &&& (252645135 : Int32)).toUInt32 >>> ((8 : Int32).toUInt32 &&& Int32.toUInt32 31)).toInt32)) + ((((((((x - (((x.toUInt32 >>> ((1 : Int32).toUInt32 &&& Int32.toUInt32 31)).toInt32) &&& (1431655765 : Int32))) &&& (858993459 : Int32)) + ((((x - (((x.toUInt32 >>> ((1 : Int32).toUInt32 &&& Int32.toUInt32 31)).toInt32) &&& (1431655765 : Int32))).toUInt32 >>> ((2 : Int32).toUInt32 &&& Int32.toUInt32 31)).toInt32) &&& (858993459 : Int32))) + (((((x - (((x.toUInt32 >>> ((1 : Int32).toUInt32 &&& Int32.toUInt32 31)).toInt32) &&& (1431655765 : Int32))) &&& (858993459 : Int32)) + ((((x - (((x.toUInt32 >>> ((1 : Int32).toUInt32 &&& Int32.toUInt32 31)).toInt32) &&& (1431655765 : Int32))).toUInt32 >>> ((2 : Int32).toUInt32 &&& Int32.toUInt32 31)).toInt32) &&& (858993459 : Int32))).toUInt32 >>> ((4 : Int32).toUInt32 &&& Int32.toUInt32 31)).toInt32)) &&& (252645135 : Int32)) + (((((((x - (((x.toUInt32 >>> ((1 : Int32).toUInt32 &&& Int32.toUInt32 31)).toInt32) &&& (1431655765 : Int32))) &&& (858993459 : Int32)) + ((((x - (((x.toUInt32 >>> ((1 : Int32).toUInt32 &&& Int32.toUInt32 31)).toInt32) &&& (1431655765 : Int32))).toUInt32 >>> ((2 : Int32).toUInt32 &&& Int32.toUInt32 31)).toInt32) &&& (858993459 : Int32))) + (((((x - (((x.toUInt32 >>> ((1 : Int32).toUInt32 &&& Int32.toUInt32 31)).toInt32) &&& (1431655765 : Int32))) &&& (858993459 : Int32)) + ((((x - (((x.toUInt32 >>> ((1 : Int32).toUInt32 &&& Int32.toUInt32 31)).toInt32) &&& (1431655765 : Int32))).toUInt32 >>> ((2 : Int32).toUInt32 &&& Int32.toUInt32 31)).toInt32) &&& (858993459 : Int32))).toUInt32 >>> ((4 : Int32).toUInt32 &&& Int32.toUInt32 31)).toInt32)) &&& (252645135 : Int32)).toUInt32 >>> ((8 : Int32).toUInt32 &&& Int32.toUInt32 31)).toInt32)).toUInt32 >>> ((16 : Int32).toUInt32 &&& Int32.toUInt32 31)).toInt32)) &&& (63 : Int32))
theorem w133_s {M : MM} {x : Int32} {P : Int32 → MM → Prop} (hP : P (bcF x) M) : w133 x M P := hP
def enE (n : Nat) : Int32 := (1 : Int32) ||| ((1 : Int32) <<< (jI ((n - 1 : Nat) : Int) &&& 31))
def thV (sp : Nat → Nat → Bool) (n s : Nat) : Bool := decide ((jI (s : Int) &&& enE n) = enE n) && (chW sp (jI (s : Int)) (n - 1)).isSome
def thC (s m : Nat) : Bool := decide (bcF (jI (s : Int)) < bcF (jI (m : Int)))
def thO (sp : Nat → Nat → Bool) (n : Nat) : Nat := (agv (thV sp n) thC (2 ^ n)).getD 0
set_option maxRecDepth 100000 in
theorem th_b : ∀ n : Nat, n < 9 → 2 ≤ n → enE n = jI ((1 + 2 ^ (n - 1) : Nat) : Int) ∧ (2 : Int32) <<< (jI ((n - 1 : Nat) : Int) &&& 31) = jI ((2 ^ n : Nat) : Int) ∧ (1 : Int32) <<< (jI (n : Int) &&& 31) = jI ((2 ^ n : Nat) : Int) ∧ (∀ s : Nat, s < 1 + 2 ^ (n - 1) → ¬ (jI (s : Int) &&& enE n) = enE n) ∧ (jI ((2 ^ n - 1 : Nat) : Int) &&& enE n) = enE n ∧ (∀ t : Nat, t < n → sbt (jI ((2 ^ n - 1 : Nat) : Int)) t = true) ∧ 2 ^ n ≤ 256 := by decide +kernel
/-- the whole way is a chain -/
theorem th_so {sp : Nat → Nat → Bool} {n : Nat} (h2 : 2 ≤ n) (h8 : n ≤ 8) (hs : ∀ i, i + 1 < n → sp i (i + 1) = true) : ∃ m, agv (thV sp n) thC (2 ^ n) = some m := by
  obtain ⟨_, _, _, _, e5, e6, _⟩ := th_b n (by omega) h2
  have p : 0 < 2 ^ n := Nat.pow_pos (by omega)
  refine agv_so (x := 2 ^ n - 1) (by omega) ?_
  have ch : ∀ t, t < n → chW sp (jI ((2 ^ n - 1 : Nat) : Int)) t = some t := by
    intro t
    induction t with
    | zero => intro _; rfl
    | succ t ih =>
      intro ht
      rw [chW_s (ih (by omega)), if_pos (e6 (t + 1) ht), if_pos (hs t ht)]
  unfold thV
  rw [decide_eq_true e5, ch (n - 1) (by omega)]
  rfl
