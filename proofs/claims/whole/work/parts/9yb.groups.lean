/-! ===== groups: both sides ===== -/
def b2n (b : Bool) : Nat := if b = true then 1 else 0
def idx (a o : Nat) : Nat := if a = 0 then o - 1 else if a = 1 then o + 1 else 5
def mkL (c : Nat) (a o : Nat) : Bool := if a = o then false else Nat.testBit c (idx (min a o) (max a o))
def lkc (L : Nat → Nat → Bool) : Nat := b2n (L 0 1) + 2 * b2n (L 0 2) + 4 * b2n (L 0 3) + 8 * b2n (L 1 2) + 16 * b2n (L 1 3) + 32 * b2n (L 2 3)
theorem lkc_lt (L : Nat → Nat → Bool) : lkc L < 64 := by
  have h : ∀ b : Bool, b2n b ≤ 1 := by decide
  have h1 := h (L 0 1)
  have h2 := h (L 0 2)
  have h3 := h (L 0 3)
  have h4 := h (L 1 2)
  have h5 := h (L 1 3)
  have h6 := h (L 2 3)
  unfold lkc; omega
theorem mkL_b : ∀ b0 b1 b2 b3 b4 b5 : Bool, mkL (b2n b0 + 2 * b2n b1 + 4 * b2n b2 + 8 * b2n b3 + 16 * b2n b4 + 32 * b2n b5) 0 1 = b0 ∧ mkL (b2n b0 + 2 * b2n b1 + 4 * b2n b2 + 8 * b2n b3 + 16 * b2n b4 + 32 * b2n b5) 0 2 = b1 ∧ mkL (b2n b0 + 2 * b2n b1 + 4 * b2n b2 + 8 * b2n b3 + 16 * b2n b4 + 32 * b2n b5) 0 3 = b2 ∧ mkL (b2n b0 + 2 * b2n b1 + 4 * b2n b2 + 8 * b2n b3 + 16 * b2n b4 + 32 * b2n b5) 1 2 = b3 ∧ mkL (b2n b0 + 2 * b2n b1 + 4 * b2n b2 + 8 * b2n b3 + 16 * b2n b4 + 32 * b2n b5) 1 3 = b4 ∧ mkL (b2n b0 + 2 * b2n b1 + 4 * b2n b2 + 8 * b2n b3 + 16 * b2n b4 + 32 * b2n b5) 2 3 = b5 := by decide
theorem mkL_ok (L : Nat → Nat → Bool) {a o : Nat} (ha : a < o) (ho : o < 4) : mkL (lkc L) a o = L a o := by
  obtain ⟨h1, h2, h3, h4, h5, h6⟩ := mkL_b (L 0 1) (L 0 2) (L 0 3) (L 1 2) (L 1 3) (L 2 3)
  have c : (a = 0 ∧ o = 1) ∨ (a = 0 ∧ o = 2) ∨ (a = 0 ∧ o = 3) ∨ (a = 1 ∧ o = 2) ∨ (a = 1 ∧ o = 3) ∨ (a = 2 ∧ o = 3) := by omega
  rcases c with ⟨rfl, rfl⟩ | ⟨rfl, rfl⟩ | ⟨rfl, rfl⟩ | ⟨rfl, rfl⟩ | ⟨rfl, rfl⟩ | ⟨rfl, rfl⟩
  · exact h1
  · exact h2
  · exact h3
  · exact h4
  · exact h5
  · exact h6
theorem mkL_s (c a o : Nat) : mkL c a o = mkL c o a := by
  unfold mkL
  by_cases e : a = o
  · subst e; rfl
  · rw [if_neg e, if_neg (fun z => e z.symm), Nat.min_comm, Nat.max_comm]
/-- the class's links and groups, as numbers -/
def lkS (w o : Nat) : Int32 := ((1 : Int32) <<< (((jI (w : Int) * (4 : Int32)) + jI (o : Int)) &&& 31)) ||| ((1 : Int32) <<< (((jI (o : Int) * (4 : Int32)) + jI (w : Int)) &&& 31))
def lkI (c w : Nat) (x : Int32) : Nat → Int32
  | 0 => x
  | o + 1 => if mkL c w o = true then lkI c w x o ||| lkS w o else lkI c w x o
def lkO (c : Nat) : Nat → Int32
  | 0 => 0
  | w + 1 => lkI c w (lkO c w) w
def gI1 (lk x : Int32) : Nat → Int32
  | 0 => x
  | i + 1 => if ((gI1 lk x i >>> (jI (i : Int) &&& 31)) &&& (1 : Int32)) = 0 then gI1 lk x i else gI1 lk x i ||| ((lk >>> ((jI (i : Int) * (4 : Int32)) &&& 31)) &&& (15 : Int32))
def gR1 (lk : Int32) (k : Nat) (x : Int32) : Nat → Int32
  | 0 => x
  | r + 1 => gI1 lk (gR1 lk k x r) k
def gC1 (c k w : Nat) : Int32 := gR1 (lkO c k) k ((1 : Int32) <<< (jI (w : Int) &&& 31)) 4
/-- the reference's groups, as numbers -/
def hI1 (c : Nat) (was : Int32) (a : Nat) (s : Int32) : Nat → Int32
  | 0 => s
  | o + 1 => if ((was >>> (jI (a : Int) &&& 31)) &&& (1 : Int32)) = 1 ∧ ((was >>> (jI (o : Int) &&& 31)) &&& (1 : Int32)) = 0 ∧ mkL c a o = true then hI1 c was a s o ||| ((1 : Int32) <<< (jI (o : Int) &&& 31)) else hI1 c was a s o
def hO1 (c k : Nat) (was : Int32) : Nat → Int32
  | 0 => was
  | a + 1 => hI1 c was a (hO1 c k was a) k
def hst (c k w : Nat) : Nat → Int32
  | 0 => (1 : Int32) <<< (jI (w : Int) &&& 31)
  | m + 1 => hO1 c k (hst c k w m) k
def nz4 (a n : Int32) : Int32 := n + ((a.toUInt32 >>> ((1 : Int32).toUInt32 &&& Int32.toUInt32 31)).toInt32)
def nz3 (a n : Int32) : Int32 := if a ≤ (4 : Int32) then nz4 a n else nz4 ((a.toUInt32 >>> ((2 : Int32).toUInt32 &&& Int32.toUInt32 31)).toInt32) (n + (2 : Int32))
def nz2 (a n : Int32) : Int32 := if a ≤ (16 : Int32) then nz3 a n else nz3 ((a.toUInt32 >>> ((4 : Int32).toUInt32 &&& Int32.toUInt32 31)).toInt32) (n + (4 : Int32))
def nz1 (a n : Int32) : Int32 := if a ≤ (256 : Int32) then nz2 a n else nz2 ((a.toUInt32 >>> ((8 : Int32).toUInt32 &&& Int32.toUInt32 31)).toInt32) (n + (8 : Int32))
def nz0 (x : Int32) : Int32 := if 0 < ((x ^^^ (-1 : Int32)) &&& (x - (1 : Int32))) then (if ((x ^^^ (-1 : Int32)) &&& (x - (1 : Int32))) ≤ (65536 : Int32) then nz1 ((x ^^^ (-1 : Int32)) &&& (x - (1 : Int32))) (1 : Int32) else nz1 ((((x ^^^ (-1 : Int32)) &&& (x - (1 : Int32))).toUInt32 >>> ((16 : Int32).toUInt32 &&& Int32.toUInt32 31)).toInt32) ((1 : Int32) + (16 : Int32))) else (((x ^^^ (-1 : Int32)) &&& (x - (1 : Int32))) &&& (32 : Int32))
theorem br_if {c : Prop} [Decidable c] {x y : Int32} {P : Int32 → MM → Prop} {M : MM} {A B : Prop} (h : P (if c then x else y) M) (hA : c → P x M → A) (hB : ¬ c → P y M → B) : (c → A) ∧ (¬ c → B) :=
  ⟨fun z => hA z (by rw [if_pos z] at h; exact h), fun z => hB z (by rw [if_neg z] at h; exact h)⟩
theorem w273_s {M : MM} {x : Int32} {P : Int32 → MM → Prop} (hP : P (nz0 x) M) : w273 x M P := by
  have f3 : ∀ a n, P (nz3 a n) M → w273_62 a n M P := fun a n h => br_if h (fun _ h => h) (fun _ h => h)
  have f2 : ∀ a n, P (nz2 a n) M → w273_49 a n M P := fun a n h => br_if h (fun _ h => f3 _ _ h) (fun _ h => f3 _ _ h)
  have f1 : ∀ a n, P (nz1 a n) M → w273_34 a n M P := fun a n h => br_if h (fun _ h => f2 _ _ h) (fun _ h => f2 _ _ h)
  exact br_if hP (fun _ h => br_if h (fun _ h => f1 _ _ h) (fun _ h => f1 _ _ h)) (fun _ h => h)
set_option maxRecDepth 100000 in
theorem grp_b : ∀ c : Nat, c < 64 → ∀ k : Nat, k < 5 → ∀ w : Nat, w < k → hst c k w 4 = gC1 c k w ∧ hst c k w 5 = hst c k w 4 ∧ ((gC1 c k w &&& (((1 : Int32) <<< (jI (w : Int) &&& 31)) - (1 : Int32))) = 0 ↔ nz0 (gC1 c k w) = jI (w : Int)) ∧ ¬ (0 : Int32) = hst c k w 0 := by decide +kernel
