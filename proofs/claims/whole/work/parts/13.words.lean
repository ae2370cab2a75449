/-! ===== the words that links and methods need are among the tables' ===== -/
def tbk (k : Nat) : List Cond := match k with
  | 0 => k2_sels lw_privs
  | 1 => tables_1_1
  | 2 => tables_1_2
  | 3 => tables_1_3
  | 4 => tables_1_4
  | 5 => tables_1_5
  | 6 => tables_1_6
  | 7 => tables_1_7
  | 8 => tables_1_8
  | _ => []
theorem tbk_in {k : Nat} {w : Cond} (h : w ∈ tbk k) : w ∈ lw_tbl := by
  unfold lw_tbl tables_1
  simp only [List.mem_append]
  unfold tbk at h
  split at h
  · exact Or.inl h
  · exact Or.inr (Or.inl h)
  · exact Or.inr (Or.inr (Or.inl h))
  · exact Or.inr (Or.inr (Or.inr (Or.inl h)))
  · exact Or.inr (Or.inr (Or.inr (Or.inr (Or.inl h))))
  · exact Or.inr (Or.inr (Or.inr (Or.inr (Or.inr (Or.inl h)))))
  · exact Or.inr (Or.inr (Or.inr (Or.inr (Or.inr (Or.inr (Or.inl h))))))
  · exact Or.inr (Or.inr (Or.inr (Or.inr (Or.inr (Or.inr (Or.inr (Or.inl h)))))))
  · exact Or.inr (Or.inr (Or.inr (Or.inr (Or.inr (Or.inr (Or.inr (Or.inr h)))))))
  · cases h
/-- the word at a place of lw_tbl -/
def wPl (i : Nat) : Option Cond := cond (Nat.blt i 107) ((tbk 0)[i]?) ((tbk ((i - 107) / 240 + 1))[(i - 107) % 240]?)
theorem wPl_in {i : Nat} {w : Cond} (h : wPl i = some w) : w ∈ lw_tbl := by
  unfold wPl at h
  cases hb : Nat.blt i 107 with
  | true => rw [hb] at h; exact tbk_in (List.mem_of_getElem? h)
  | false => rw [hb] at h; exact tbk_in (List.mem_of_getElem? h)
def wAt (i : Nat) (w : Cond) : Bool := decide (wPl i = some w) && goodWord w
def wAtN (i : Nat) (w : Cond) : Bool := decide (wPl i = some w)
theorem wAt_ok {i : Nat} {w : Cond} (h : wAt i w = true) : w ∈ lw_good := by
  unfold wAt at h
  rw [Bool.and_eq_true, decide_eq_true_eq] at h
  exact List.mem_filter.mpr ⟨wPl_in h.1, h.2⟩
theorem wAtN_ok {i : Nat} {w : Cond} (h : wAtN i w = true) : w ∈ lw_tbl := by
  unfold wAtN at h
  rw [decide_eq_true_eq] at h
  exact wPl_in h
def chkFL (key : Nat) (v : Nat × Nat × Nat × Nat) : Bool := Nat.blt v.1 11 && (Nat.blt v.2.1 (nF v.1) && cond (Nat.beq v.2.2.1 0) (wAt v.2.2.2 (.fieldLink (cN (key / 1000)) (key % 1000) (TXX v.1 v.2.1).1 (TXX v.1 v.2.1).2.1 (TXX v.1 v.2.1).2.2.1)) (wAtN v.2.2.2 (.fieldLinkNest (cN (key / 1000)) (key % 1000) (TXX v.1 v.2.1).1 (TXX v.1 v.2.1).2.1 (TXX v.1 v.2.1).2.2.1 "TwoLeash")))
theorem allFL : FLg.all (fun c => c.2.all (fun e => chkFL e.1 e.2)) = true := by decide +kernel
def chkML (key : Nat) (v : Nat × Nat × Nat) : Bool := match as2 YYg v.1 with
  | some y => cond (Nat.beq v.2.1 0) (wAt v.2.2 (.methodLink (cN (key / 1000)) (key % 1000) y.1)) (wAtN v.2.2 (.methodLinkNest (cN (key / 1000)) (key % 1000) y.1 "TwoLeash"))
  | none => false
theorem allML : MLg.all (fun c => c.2.all (fun e => chkML e.1 e.2)) = true := by decide +kernel
def chkOL (key : Nat) (v : Nat) : Bool := wAt v (.methodLink (cN (key / 1000)) (key % 1000) Lib.objectInit)
theorem allOL : OLg.all (fun c => c.2.all (fun e => chkOL e.1 e.2)) = true := by decide +kernel
def chkAL (key : Nat) (v : Nat) : Bool := wAt v (.methodLink (cN (key / 1000)) (key % 1000) arraycopyName)
theorem allAL : ALg.all (fun c => c.2.all (fun e => chkAL e.1 e.2)) = true := by decide +kernel
def chkKL (key : Nat) (v : Nat × Nat) : Bool := Nat.blt v.1 11 && wAt v.2 (.classLink (cN (key / 1000)) (key % 1000) (RXX v.1))
theorem allKL : KLg.all (fun c => c.2.all (fun e => chkKL e.1 e.2)) = true := by decide +kernel
def chkKI (key : Nat) (v : Int32 × Nat) : Bool := wAt v.2 (.constant (cN (key / 1000)) (key % 1000) v.1)
theorem allKI : KIg.all (fun c => c.2.all (fun e => chkKI e.1 e.2)) = true := by decide +kernel
def chkKJ (key : Nat) (v : Int64 × Nat) : Bool := wAt v.2 (.constantLong (cN (key / 1000)) (key % 1000) v.1)
theorem allKJ : KJg.all (fun c => c.2.all (fun e => chkKJ e.1 e.2)) = true := by decide +kernel
def retChk (k : Nat) (ret : Option FieldType) : Bool := match k, ret with
  | 0, none => true
  | 1, some .int => true
  | 2, some .long => true
  | 3, some (.object _) => true
  | 3, some (.array _) => true
  | 4, some .boolean => true
  | _, _ => false
def chkYY (j : Nat) (v : MethodName × ByteArray × Option FieldType × Nat × Nat × Nat × Nat) : Bool := match as2 MIg j with
  | none => false
  | some q => wAt v.2.2.2.1 (.code v.1 v.2.1 q.2.2.1 v.2.2.1) && (wAt v.2.2.2.2.2.2 (.initialized v.1.cls) && (plainFor v.1 && (decide (v.1.cls ≠ "java/lang/invoke/MethodHandle") && (decide (v.1.cls ≠ "java/lang/invoke/VarHandle") && (decide ((parseMethodDescriptor v.1.desc).map (fun d => d.parameters.length) = some (q.1 - q.2.1)) && (decide (v.1.cls = cN q.2.2.2.1) && (Nat.ble q.2.2.1 40 && (retChk q.2.2.2.2.2.2 v.2.2.1 &&
    cond (Nat.beq q.2.1 1) (Nat.blt q.2.2.2.1 11 && (Nat.ble 1 q.1 && (wAt v.2.2.2.2.1 (.instanceMethod v.1) && cond (Nat.beq v.2.2.2.2.2.1 0) (decide (v.1.name = "<init>")) (decide (v.1.name ≠ "<init>") && wAt (v.2.2.2.2.2.1 - 1) (.selects v.1.cls v.1 v.1))))) (Nat.beq q.2.1 0 && wAt v.2.2.2.2.1 (.static v.1))))))))))
def chkC (c : Nat) : Bool := decide (Cond.instantiable (RXX c) (nF c) ∈ lw_tbl) && (goodWord (Cond.instantiable (RXX c) (nF c)) && (decide (Cond.initialized (RXX c) ∈ lw_tbl) && goodWord (Cond.initialized (RXX c))))
theorem allC : (List.range 11).all chkC = true := by decide +kernel
def chkO : Bool := decide (Cond.instanceMethod Lib.objectInit ∈ lw_tbl) && (goodWord (Cond.instanceMethod Lib.objectInit) && (decide (Cond.code Lib.objectInit ⟨#[0xb1]⟩ 1 none ∈ lw_tbl) && (goodWord (Cond.code Lib.objectInit ⟨#[0xb1]⟩ 1 none) && (decide (Cond.native arraycopyName ∈ lw_tbl) && (goodWord (Cond.native arraycopyName) && (decide (Cond.static arraycopyName ∈ lw_tbl) && (goodWord (Cond.static arraycopyName) && (decide (Cond.initialized "java/lang/System" ∈ lw_tbl) && goodWord (Cond.initialized "java/lang/System")))))))))
theorem chkO_ok : chkO = true := by decide +kernel
def chkAC : Bool := [ArrayType.int, .long, .byte, .boolean].all (fun a => decide (Cond.arrayClass (newarray.typeOf a) ∈ lw_tbl) && goodWord (Cond.arrayClass (newarray.typeOf a)))
theorem chkAC_ok : chkAC = true := by decide +kernel
