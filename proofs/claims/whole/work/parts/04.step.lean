/-! ===== one step of the small machine, a run, a call ===== -/
def fT (c k : Nat) : Nat := (as2 FTg (c * 100 + k)).getD 9
def fFin (c k : Nat) : Bool := Nat.beq ((as2 FNg (c * 100 + k)).getD 0) 1
def nF (c : Nat) : Nat := (as1 NFg c).getD 0
def rdF (M : MM) (c o k : Nat) : VV := match fT c k with
  | 0 => vI (mI M o k)
  | 1 => vL (mL M o k)
  | 2 => vR (mR M o k)
  | _ => vI (mI M o k)
def wrF (M : MM) (c o k : Nat) (v : VV) (kk : MM → Prop) : Prop := match fT c k with
  | 0 => match v with
    | .inl x => kk (sI M o k x)
    | _ => False
  | 1 => match v with
    | .inr (.inl x) => kk (sL M o k x)
    | _ => False
  | 2 => match v with
    | .inr (.inr (.inl r)) => kk (sR M o k r)
    | _ => False
  | 3 => match v with
    | .inl x => (x = 0 ∨ x = 1) ∧ kk (sI M o k x)
    | _ => False
  | _ => False
def kd (M : MM) (o c : Nat) : Prop := (mS M)[o]? = some (c, nF c)
def nx1 (st : List VV) (f : Int32 → List VV → Prop) : Prop := match st with
  | .inl a :: r => f a r
  | _ => False
def nx2 (st : List VV) (f : Int32 → Int32 → List VV → Prop) : Prop := match st with
  | .inl b :: .inl a :: r => f a b r
  | _ => False
def nl1 (st : List VV) (f : Int64 → List VV → Prop) : Prop := match st with
  | .inr (.inl a) :: r => f a r
  | _ => False
def nl2 (st : List VV) (f : Int64 → Int64 → List VV → Prop) : Prop := match st with
  | .inr (.inl b) :: .inr (.inl a) :: r => f a b r
  | _ => False
def nli (st : List VV) (f : Int64 → Int32 → List VV → Prop) : Prop := match st with
  | .inl b :: .inr (.inl a) :: r => f a b r
  | _ => False
/-- a method's numbers: arguments (the receiver among them), 1 if it has a receiver, locals, class, cells, slots, kind of its answer -/
abbrev MQ7 : Type := Nat × Nat × Nat × Nat × Nat × Nat × Nat
def recvOk (M : MM) (q : MQ7) (as : List VV) (X : Prop) : Prop := cond (Nat.beq q.2.1 1) (match as with
  | .inr (.inr (.inl (some o))) :: _ => kd M o q.2.2.2.1 ∧ X
  | _ => False) X
def callOk (M : MM) (q : MQ7) (sz0 tt0 mc0 ms0 : Nat) (X : Prop) : Prop := cond (Nat.beq q.2.2.2.2.1 0 && Nat.beq q.2.2.2.2.2.1 0) X ((mS M).length + q.2.2.2.2.1 ≤ sz0 + mc0 ∧ mT M + q.2.2.2.2.2.1 ≤ tt0 + ms0 ∧ X)
def zcall (own ix : Nat) (sz0 tt0 mc0 ms0 : Nat) (cw : Nat → List VV → MM → (Option VV → MM → Prop) → Prop) (st : List VV) (M : MM) (kk : List VV → MM → Prop) : Prop :=
  match as2 MLg (own * 1000 + ix) with
  | none => False
  | some (j, _, _) => match as2 MIg j with
    | none => False
    | some q => match pops q.1 [] st with
      | none => False
      | some (as, r) => cond (Nat.ble (cs r) 8) (recvOk M q as (callOk M q sz0 tt0 mc0 ms0 (cw j as M (fun v M' => kk (pushO v r) M')))) False
def zcopy (st : List VV) (M : MM) (kk : List VV → MM → Prop) : Prop := match st with
  | .inl n :: .inl dp :: .inr (.inr (.inl (some a))) :: .inl sp :: .inr (.inr (.inl (some a0))) :: r =>
    cond (Nat.ble (cs r) 8) (∃ n0 n1, (mS M)[a0]? = some (12, n0) ∧ (mS M)[a]? = some (12, n1) ∧ ¬ sp < 0 ∧ ¬ dp < 0 ∧ ¬ n < 0 ∧ sp.toNatClampNeg + n.toNatClampNeg ≤ n0 ∧ dp.toNatClampNeg + n.toNatClampNeg ≤ n1 ∧
      kk r (sLr M a (va_cpy (mL M a0) (mL M a) sp.toNatClampNeg dp.toNatClampNeg n.toNatClampNeg))) False
  | _ => False
def stepW (own : Nat) (isI : Bool) (sz0 tt0 mc0 ms0 : Nat) (sl : Nat) (sx : Nat → Int32) (cw : Nat → List VV → MM → (Option VV → MM → Prop) → Prop) (nx : Nat → LL → List VV → MM → Prop) (rt : Option VV → MM → Prop) (e : EE) (pc : Nat) (K : LL) (st : List VV) (M : MM) : Prop :=
  match e with
  | (ins, len, t, i) => match ins with
    | .bipush _ => nx (pc + len) K (vI i :: st) M
    | .lconst _ => nx (pc + 1) K (vL (cond (Nat.beq t 0) 0 1) :: st) M
    | .ldc ix => match as2 KIg (own * 1000 + ix) with
      | some (v, _) => nx (pc + len) K (vI v :: st) M
      | none => False
    | .ldc2_w ix => match as2 KJg (own * 1000 + ix) with
      | some (v, _) => nx (pc + 3) K (vL v :: st) M
      | none => False
    | .aconst_null => nx (pc + 1) K (vR none :: st) M
    | .iload a => match gt K a with
      | some (.inl x) => nx (pc + len) K (vI x :: st) M
      | _ => False
    | .lload a => match gt K a with
      | some (.inr (.inl x)) => nx (pc + len) K (vL x :: st) M
      | _ => False
    | .aload a => match gt K a with
      | some (.inr (.inr x)) => nx (pc + len) K (.inr (.inr x) :: st) M
      | _ => False
    | .istore a => match st with
      | .inl x :: r => cond (Nat.blt a K.length) (nx (pc + len) (sto1 K a (vI x)) r M) False
      | _ => False
    | .lstore a => match st with
      | .inr (.inl x) :: r => cond (Nat.blt (a + 1) K.length) (nx (pc + len) (sto2 K a (vL x)) r M) False
      | _ => False
    | .astore a => match st with
      | .inr (.inr x) :: r => cond (Nat.blt a K.length) (nx (pc + len) (sto1 K a (.inr (.inr x))) r M) False
      | _ => False
    | .iinc a _ => match gt K a with
      | some (.inl x) => nx (pc + 3) (sto1 K a (vI (x + i))) st M
      | _ => False
    | .iadd => nx2 st fun a b r => nx (pc + 1) K (vI (a + b) :: r) M
    | .isub => nx2 st fun a b r => nx (pc + 1) K (vI (a - b) :: r) M
    | .imul => nx2 st fun a b r => nx (pc + 1) K (vI (a * b) :: r) M
    | .iand => nx2 st fun a b r => nx (pc + 1) K (vI (a &&& b) :: r) M
    | .ior => nx2 st fun a b r => nx (pc + 1) K (vI (a ||| b) :: r) M
    | .ixor => nx2 st fun a b r => nx (pc + 1) K (vI (a ^^^ b) :: r) M
    | .idiv => nx2 st fun a b r => ¬ b = 0 ∧ nx (pc + 1) K (vI (a / b) :: r) M
    | .irem => nx2 st fun a b r => ¬ b = 0 ∧ nx (pc + 1) K (vI (a - a / b * b) :: r) M
    | .ishl => nx2 st fun a b r => nx (pc + 1) K (vI (a <<< (b &&& 31)) :: r) M
    | .ishr => nx2 st fun a b r => nx (pc + 1) K (vI (a >>> (b &&& 31)) :: r) M
    | .iushr => nx2 st fun a b r => nx (pc + 1) K (vI (a.toUInt32 >>> (b.toUInt32 &&& Int32.toUInt32 31)).toInt32 :: r) M
    | .ineg => nx1 st fun a r => nx (pc + 1) K (vI (-a) :: r) M
    | .i2l => nx1 st fun a r => nx (pc + 1) K (vL a.toInt64 :: r) M
    | .i2b => nx1 st fun a r => nx (pc + 1) K (vI a.toInt8.toInt32 :: r) M
    | .l2i => nl1 st fun a r => nx (pc + 1) K (vI a.toInt32 :: r) M
    | .ladd => nl2 st fun a b r => nx (pc + 1) K (vL (a + b) :: r) M
    | .lsub => nl2 st fun a b r => nx (pc + 1) K (vL (a - b) :: r) M
    | .lmul => nl2 st fun a b r => nx (pc + 1) K (vL (a * b) :: r) M
    | .land => nl2 st fun a b r => nx (pc + 1) K (vL (a &&& b) :: r) M
    | .lor => nl2 st fun a b r => nx (pc + 1) K (vL (a ||| b) :: r) M
    | .ldiv => nl2 st fun a b r => ¬ b = 0 ∧ nx (pc + 1) K (vL (a / b) :: r) M
    | .lrem => nl2 st fun a b r => ¬ b = 0 ∧ nx (pc + 1) K (vL (a - a / b * b) :: r) M
    | .lneg => nl1 st fun a r => nx (pc + 1) K (vL (-a) :: r) M
    | .lshl => nli st fun a b r => nx (pc + 1) K (vL (a <<< (b.toInt64 &&& 63)) :: r) M
    | .lshr => nli st fun a b r => nx (pc + 1) K (vL (a >>> (b.toInt64 &&& 63)) :: r) M
    | .lushr => nli st fun a b r => nx (pc + 1) K (vL (a.toUInt64 >>> (b.toInt64.toUInt64 &&& Int64.toUInt64 63)).toInt64 :: r) M
    | .lcmp => nl2 st fun a b r => nx (pc + 1) K (vI (lg_cmp a b) :: r) M
    | .dup => match st with
      | v :: r => cond (Nat.beq (c2 v) 1) (nx (pc + 1) K (v :: v :: r) M) False
      | _ => False
    | .dup2 => match st with
      | v :: w :: r => cond (Nat.beq (c2 v) 1 && Nat.beq (c2 w) 1) (nx (pc + 1) K (v :: w :: v :: w :: r) M) False
      | _ => False
    | .pop => match st with
      | v :: r => cond (Nat.beq (c2 v) 1) (nx (pc + 1) K r M) False
      | _ => False
    | .goto _ => nx t K st M
    | .ifCond c _ => nx1 st fun a r => match c with
      | .eq => (a = 0 → nx t K r M) ∧ (¬ a = 0 → nx (pc + 3) K r M)
      | .ne => (a ≠ 0 → nx t K r M) ∧ (¬ a ≠ 0 → nx (pc + 3) K r M)
      | .lt => (a < 0 → nx t K r M) ∧ (¬ a < 0 → nx (pc + 3) K r M)
      | .ge => (0 ≤ a → nx t K r M) ∧ (¬ 0 ≤ a → nx (pc + 3) K r M)
      | .gt => (0 < a → nx t K r M) ∧ (¬ 0 < a → nx (pc + 3) K r M)
      | .le => (a ≤ 0 → nx t K r M) ∧ (¬ a ≤ 0 → nx (pc + 3) K r M)
    | .if_icmp c _ => nx2 st fun a b r => match c with
      | .eq => (a = b → nx t K r M) ∧ (¬ a = b → nx (pc + 3) K r M)
      | .ne => (a ≠ b → nx t K r M) ∧ (¬ a ≠ b → nx (pc + 3) K r M)
      | .lt => (a < b → nx t K r M) ∧ (¬ a < b → nx (pc + 3) K r M)
      | .ge => (b ≤ a → nx t K r M) ∧ (¬ b ≤ a → nx (pc + 3) K r M)
      | .gt => (b < a → nx t K r M) ∧ (¬ b < a → nx (pc + 3) K r M)
      | .le => (a ≤ b → nx t K r M) ∧ (¬ a ≤ b → nx (pc + 3) K r M)
    | .ifnull _ => match st with
      | .inr (.inr (.inl x)) :: r => (x = none → nx t K r M) ∧ (¬ x = none → nx (pc + 3) K r M)
      | _ => False
    | .ifnonnull _ => match st with
      | .inr (.inr (.inl x)) :: r => (¬ x = none → nx t K r M) ∧ (x = none → nx (pc + 3) K r M)
      | _ => False
    | .tableswitch d lo hi offs => nx1 st fun a r => ((a.toInt < lo ∨ hi < a.toInt) → ((pc : Int) + d = ((pc : Int) + d).toNat ∧ nx ((pc : Int) + d).toNat K r M)) ∧ (¬ a.toInt < lo → ¬ hi < a.toInt → ∃ off : Int, offs[(a.toInt - lo).toNat]? = some off ∧ (pc : Int) + off = ((pc : Int) + off).toNat ∧ nx ((pc : Int) + off).toNat K r M)
    | .getfield ix => match as2 FLg (own * 1000 + ix) with
      | some (c, k, _, _) => match st with
        | .inr (.inr (.inl (some o))) :: r => kd M o c ∧ nx (pc + 3) K (rdF M c o k :: r) M
        | _ => False
      | none => False
    | .putfield ix => match as2 FLg (own * 1000 + ix) with
      | some (c, k, ne, _) => match st with
        | v :: .inr (.inr (.inl (some o))) :: r => cond (cond (fFin c k) (isI && (Nat.beq own c && Nat.beq ne 0)) true) (kd M o c ∧ wrF M c o k v (fun M' => nx (pc + 3) K r M')) False
        | _ => False
      | none => False
    | .iaload => match st with
      | .inl j :: .inr (.inr (.inl (some o))) :: r => inb M o 11 j ∧ nx (pc + 1) K (vI (mI M o j.toNatClampNeg) :: r) M
      | .inl j :: .inr (.inr (.inr _)) :: r => vp_in j sl ∧ nx (pc + 1) K (vI (sx j.toNatClampNeg) :: r) M
      | _ => False
    | .laload => match st with
      | .inl j :: .inr (.inr (.inl (some o))) :: r => inb M o 12 j ∧ nx (pc + 1) K (vL (mL M o j.toNatClampNeg) :: r) M
      | _ => False
    | .baload => match st with
      | .inl j :: .inr (.inr (.inl (some o))) :: r => cond (Nat.beq t 13 || Nat.beq t 14) (inb M o t j ∧ nx (pc + 1) K (vI (mI M o j.toNatClampNeg) :: r) M) False
      | _ => False
    | .aaload => match st with
      | .inl j :: .inr (.inr (.inl (some o))) :: r => cond (Nat.beq t 15 || Nat.beq t 16) (inb M o t j ∧ nx (pc + 1) K (vR (mR M o j.toNatClampNeg) :: r) M) False
      | _ => False
    | .iastore => match st with
      | .inl x :: .inl j :: .inr (.inr (.inl (some o))) :: r => inb M o 11 j ∧ nx (pc + 1) K r (sI M o j.toNatClampNeg x)
      | _ => False
    | .lastore => match st with
      | .inr (.inl x) :: .inl j :: .inr (.inr (.inl (some o))) :: r => inb M o 12 j ∧ nx (pc + 1) K r (sL M o j.toNatClampNeg x)
      | _ => False
    | .bastore => match st with
      | .inl x :: .inl j :: .inr (.inr (.inl (some o))) :: r => cond (Nat.beq t 13) (inb M o 13 j ∧ nx (pc + 1) K r (sI M o j.toNatClampNeg x.toInt8.toInt32)) (cond (Nat.beq t 14) (inb M o 14 j ∧ nx (pc + 1) K r (sI M o j.toNatClampNeg (x &&& 1))) False)
      | _ => False
    | .aastore => match st with
      | .inr (.inr (.inl (some v))) :: .inl j :: .inr (.inr (.inl (some o))) :: r => cond (Nat.beq t 15 || Nat.beq t 16) (inb M o t j ∧ kd M v (t - 8) ∧ nx (pc + 1) K r (sR M o j.toNatClampNeg (some v))) False
      | _ => False
    | .arraylength => match st with
      | .inr (.inr (.inr _)) :: r => nx (pc + 1) K (vI (Int32.ofNat sl) :: r) M
      | _ => False
    | .newarray ty => nx1 st fun n r => ¬ n < 0 ∧ n.toNatClampNeg ≤ 1000000 ∧ (mS M).length + 1 ≤ sz0 + mc0 ∧ mT M + n.toNatClampNeg ≤ tt0 + ms0 ∧ (match ty with
      | .int => nx (pc + 2) K (vR (some (mS M).length) :: r) (mN M 11 n.toNatClampNeg)
      | .long => nx (pc + 2) K (vR (some (mS M).length) :: r) (mN M 12 n.toNatClampNeg)
      | .byte => nx (pc + 2) K (vR (some (mS M).length) :: r) (mN M 13 n.toNatClampNeg)
      | .boolean => nx (pc + 2) K (vR (some (mS M).length) :: r) (mN M 14 n.toNatClampNeg)
      | _ => False)
    | .anewarray ix => nx1 st fun n r => match as2 KLg (own * 1000 + ix) with
      | some (c, _) => cond (Nat.beq c 7 || Nat.beq c 8) (¬ n < 0 ∧ n.toNatClampNeg ≤ 1000000 ∧ (mS M).length + 1 ≤ sz0 + mc0 ∧ mT M + n.toNatClampNeg ≤ tt0 + ms0 ∧ nx (pc + 3) K (vR (some (mS M).length) :: r) (mN M (c + 8) n.toNatClampNeg)) False
      | none => False
    | .new ix => match as2 KLg (own * 1000 + ix) with
      | some (c, _) => (mS M).length + 1 ≤ sz0 + mc0 ∧ mT M + nF c ≤ tt0 + ms0 ∧ nx (pc + 3) K (vR (some (mS M).length) :: st) (mN M c (nF c))
      | none => False
    | .invokevirtual ix => zcall own ix sz0 tt0 mc0 ms0 cw st M (fun st' M' => nx (pc + 3) K st' M')
    | .invokestatic ix => cond (Nat.beq t 999) (zcopy st M (fun st' M' => nx (pc + 3) K st' M')) (zcall own ix sz0 tt0 mc0 ms0 cw st M (fun st' M' => nx (pc + 3) K st' M'))
    | .invokespecial ix => cond (Nat.beq t 998) (match st with
      | .inr (.inr (.inl (some _))) :: r => cond (Nat.ble (cs r) 8) (nx (pc + 3) K r M) False
      | _ => False) (zcall own ix sz0 tt0 mc0 ms0 cw st M (fun st' M' => nx (pc + 3) K st' M'))
    | .ireturn => match st with
      | [.inl x] => rt (some (vI x)) M
      | _ => False
    | .lreturn => match st with
      | [.inr (.inl x)] => rt (some (vL x)) M
      | _ => False
    | .areturn => match st with
      | [.inr (.inr (.inl x))] => rt (some (vR x)) M
      | _ => False
    | .return_ => match st with
      | [] => rt none M
      | _ => False
    | _ => False
def runN (own : Nat) (isI : Bool) (sz0 tt0 mc0 ms0 : Nat) (sl : Nat) (sx : Nat → Int32) (cw : Nat → List VV → MM → (Option VV → MM → Prop) → Prop) (rt : Option VV → MM → Prop) (tb : Nat → Option EE) : Nat → Nat → LL → List VV → MM → Prop
  | 0 => fun _ _ _ _ => False
  | n + 1 => fun pc K st M => match tb pc with
    | some e => stepW own isI sz0 tt0 mc0 ms0 sl sx cw (runN own isI sz0 tt0 mc0 ms0 sl sx cw rt tb n) rt e pc K st M
    | none => False
/-- what an answer must be: its kind (0 none, 1 int, 2 long, 3 reference, 4 boolean) -/
def retOk (k : Nat) (v : Option VV) : Prop := match k with
  | 0 => v = none
  | 1 => ∃ x, v = some (vI x)
  | 2 => ∃ x, v = some (vL x)
  | 3 => ∃ x, v = some (vR x)
  | 4 => ∃ x, v = some (vI x) ∧ (x = 0 ∨ x = 1)
  | _ => False
def rtW (q : MQ7) (M : MM) (post : Option VV → MM → Prop) : Option VV → MM → Prop := fun v M' => retOk q.2.2.2.2.2.2 v ∧ (mS M').length = (mS M).length + q.2.2.2.2.1 ∧ mT M' = mT M + q.2.2.2.2.2.1 ∧ post v M'
def callW (TBS : Nat → Option (Bool × (Nat → Option EE))) (sl : Nat) (sx : Nat → Int32) : Nat → Nat → List VV → MM → (Option VV → MM → Prop) → Prop
  | 0 => fun _ _ _ _ => False
  | d + 1 => fun j as M post => match as2 MIg j with
    | none => False
    | some q => match TBS j with
      | none => False
      | some (isI, tb) => ∃ n, runN q.2.2.2.1 isI (mS M).length (mT M) q.2.2.2.2.1 q.2.2.2.2.2.1 sl sx (callW TBS sl sx d) (rtW q M post) tb n 0 (aLn q.2.2.1 as) [] M
