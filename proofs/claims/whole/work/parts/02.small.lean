/-! ===== the small machine: values, locals, memory, one step, a run, a call ===== -/
abbrev VV : Type := Int32 ⊕ Int64 ⊕ Option Nat ⊕ Unit
abbrev LL : Type := List (Option VV)
abbrev MM : Type := List (Nat × Nat) × Nat × (Nat → Nat → Int32) × (Nat → Nat → Int64) × (Nat → Nat → Option Nat)
abbrev EE : Type := Instr × Nat × Nat × Int32
abbrev vI (x : Int32) : VV := .inl x
abbrev vL (x : Int64) : VV := .inr (.inl x)
abbrev vR (x : Option Nat) : VV := .inr (.inr (.inl x))
abbrev vS : VV := .inr (.inr (.inr ()))
def mS (M : MM) : List (Nat × Nat) := M.1
def mT (M : MM) : Nat := M.2.1
def mI (M : MM) : Nat → Nat → Int32 := M.2.2.1
def mL (M : MM) : Nat → Nat → Int64 := M.2.2.2.1
def mR (M : MM) : Nat → Nat → Option Nat := M.2.2.2.2
def up1 {α : Type} (f : Nat → α) (o : Nat) (v : α) : Nat → α := fun a => if a = o then v else f a
def up2 {α : Type} (f : Nat → Nat → α) (o k : Nat) (v : α) : Nat → Nat → α := fun a j => if a = o then (if j = k then v else f a j) else f a j
def sI (M : MM) (o k : Nat) (v : Int32) : MM := (M.1, M.2.1, up2 M.2.2.1 o k v, M.2.2.2.1, M.2.2.2.2)
def sL (M : MM) (o k : Nat) (v : Int64) : MM := (M.1, M.2.1, M.2.2.1, up2 M.2.2.2.1 o k v, M.2.2.2.2)
def sR (M : MM) (o k : Nat) (v : Option Nat) : MM := (M.1, M.2.1, M.2.2.1, M.2.2.2.1, up2 M.2.2.2.2 o k v)
def mN (M : MM) (c n : Nat) : MM := (M.1 ++ [(c, n)], M.2.1 + n, up1 M.2.2.1 M.1.length (fun _ => 0), up1 M.2.2.2.1 M.1.length (fun _ => 0), up1 M.2.2.2.2 M.1.length (fun _ => none))
def sLr (M : MM) (o : Nat) (f : Nat → Int64) : MM := (M.1, M.2.1, M.2.2.1, up1 M.2.2.2.1 o f, M.2.2.2.2)
/-- locals by their places -/
def gt : LL → Nat → Option VV
  | [], _ => none
  | x :: _, 0 => x
  | _ :: r, n + 1 => gt r n
def isL2 : Option VV → Bool
  | some (.inr (.inl _)) => true
  | _ => false
def kil : LL → Nat → LL
  | [], _ => []
  | x :: r, 0 => x :: r
  | x :: r, n + 1 => match n with
    | 0 => cond (isL2 x) (none :: r) (x :: r)
    | _ + 1 => x :: kil r n
def sto : LL → Nat → Option VV → LL
  | [], _, _ => []
  | _ :: r, 0, v => v :: r
  | x :: r, n + 1, v => x :: sto r n v
def sto1 (K : LL) (a : Nat) (v : VV) : LL := sto (kil K a) a (some v)
def sto2 (K : LL) (a : Nat) (v : VV) : LL := sto (sto (kil K a) a (some v)) (a + 1) none
def c2 : VV → Nat
  | .inr (.inl _) => 2
  | _ => 1
def cs : List VV → Nat
  | [] => 0
  | v :: r => c2 v + cs r
/-- the locals with which a method begins -/
def aL : List VV → LL
  | [] => []
  | v :: r => cond (Nat.beq (c2 v) 2) (some v :: none :: aL r) (some v :: aL r)
def aLn (n : Nat) (vs : List VV) : LL := aL vs ++ List.replicate (n - (aL vs).length) none
/-- n arguments off the stack, the last on top: arguments in their order, the rest -/
def pops : Nat → List VV → List VV → Option (List VV × List VV)
  | 0, acc, st => some (acc, st)
  | _ + 1, _, [] => none
  | n + 1, acc, v :: st => pops n (v :: acc) st
def pushO (v : Option VV) (st : List VV) : List VV := match v with
  | none => st
  | some x => x :: st
def inb (M : MM) (o k : Nat) (j : Int32) : Prop := ∃ n, (mS M)[o]? = some (k, n) ∧ vp_in j n
def bz (k : Nat) (x : Int32) : Prop := match k with
  | 3 => x = 0 ∨ x = 1
  | _ => True
/-- tables by numbers: rows in groups, each with the number that it stays below -/
def as1 {α : Type} : List (Nat × α) → Nat → Option α
  | [], _ => none
  | e :: r, x => cond (Nat.beq x e.1) (some e.2) (as1 r x)
def as2 {α : Type} : List (Nat × List (Nat × α)) → Nat → Option α
  | [], _ => none
  | g :: r, x => cond (Nat.blt x g.1) (as1 g.2 x) (as2 r x)
theorem as1_mem {α : Type} {x : Nat} {v : α} : ∀ (l : List (Nat × α)), as1 l x = some v → (x, v) ∈ l
  | [], h => by cases h
  | e :: r, h => by
    unfold as1 at h
    cases hb : Nat.beq x e.1 with
    | true =>
      rw [hb] at h
      have e1 : x = e.1 := Nat.eq_of_beq_eq_true hb
      have e2 : e.2 = v := Option.some.inj h
      rw [e1, ← e2]
      exact List.mem_cons_self
    | false =>
      rw [hb] at h
      exact List.mem_cons_of_mem _ (as1_mem r h)
theorem as2_all {α : Type} {x : Nat} {v : α} (q : Nat → α → Bool) : ∀ (g : List (Nat × List (Nat × α))), g.all (fun c => c.2.all (fun e => q e.1 e.2)) = true → as2 g x = some v → q x v = true
  | [], _, h => by cases h
  | c :: r, ha, h => by
    rw [List.all_cons, Bool.and_eq_true] at ha
    unfold as2 at h
    cases hb : Nat.blt x c.1 with
    | true =>
      rw [hb] at h
      exact List.all_eq_true.mp ha.1 _ (as1_mem c.2 h)
    | false =>
      rw [hb] at h
      exact as2_all q r ha.2 h
