/-! ===== a row of a method's table against its bytes ===== -/
def kdChk (k own ix : Nat) : Bool := match as2 MLg (own * 1000 + ix) with
  | none => true
  | some v => match as2 MIg v.1 with
    | none => true
    | some q => match as2 YYg v.1 with
      | none => true
      | some y => match k with
        | 0 => Nat.beq q.2.1 1 && (!(Nat.beq y.2.2.2.2.2.1 0) && Nat.beq v.2.1 0)
        | 1 => Nat.beq q.2.1 0 && Nat.beq v.2.1 0
        | _ => Nat.beq q.2.1 1 && (Nat.beq y.2.2.2.2.2.1 0 && Nat.beq q.2.2.2.2.2.2 0)
def eqI (own : Nat) (r : Instr) (e : EE) (pc : Nat) : Bool := match r with
  | .iconst c => decide (e.1 = .bipush 0) && (Nat.beq e.2.1 1 && decide (Int32.ofInt c = e.2.2.2))
  | .bipush c => decide (e.1 = .bipush 0) && (Nat.beq e.2.1 2 && decide ((Int8.ofInt c).toInt32 = e.2.2.2))
  | .sipush c => decide (e.1 = .bipush 0) && (Nat.beq e.2.1 3 && decide ((Int16.ofInt c).toInt32 = e.2.2.2))
  | .lconst n => decide (e.1 = .lconst n) && (Nat.beq e.2.1 1 && Nat.beq n.val e.2.2.1)
  | .ldc ix => decide (e.1 = .ldc ix) && (Nat.beq e.2.1 2 && Nat.blt ix 1000)
  | .ldc_w ix => decide (e.1 = .ldc ix) && (Nat.beq e.2.1 3 && Nat.blt ix 1000)
  | .ldc2_w ix => decide (e.1 = .ldc2_w ix) && (Nat.beq e.2.1 3 && Nat.blt ix 1000)
  | .iload a => decide (e.1 = .iload a) && Nat.beq e.2.1 2
  | .iload_n k => decide (e.1 = .iload k.val) && Nat.beq e.2.1 1
  | .istore a => decide (e.1 = .istore a) && Nat.beq e.2.1 2
  | .istore_n k => decide (e.1 = .istore k.val) && Nat.beq e.2.1 1
  | .lload a => decide (e.1 = .lload a) && Nat.beq e.2.1 2
  | .lload_n k => decide (e.1 = .lload k.val) && Nat.beq e.2.1 1
  | .lstore a => decide (e.1 = .lstore a) && Nat.beq e.2.1 2
  | .lstore_n k => decide (e.1 = .lstore k.val) && Nat.beq e.2.1 1
  | .aload a => decide (e.1 = .aload a) && Nat.beq e.2.1 2
  | .aload_n k => decide (e.1 = .aload k.val) && Nat.beq e.2.1 1
  | .astore a => decide (e.1 = .astore a) && Nat.beq e.2.1 2
  | .astore_n k => decide (e.1 = .astore k.val) && Nat.beq e.2.1 1
  | .iinc a c => decide (e.1 = .iinc a 0) && (Nat.beq e.2.1 3 && decide (Int32.ofInt c = e.2.2.2))
  | .goto off => decide (e.1 = .goto 0) && (Nat.beq e.2.1 3 && decide ((pc : Int) + off = (e.2.2.1 : Int)))
  | .ifCond c off => decide (e.1 = .ifCond c 0) && (Nat.beq e.2.1 3 && decide ((pc : Int) + off = (e.2.2.1 : Int)))
  | .if_icmp c off => decide (e.1 = .if_icmp c 0) && (Nat.beq e.2.1 3 && decide ((pc : Int) + off = (e.2.2.1 : Int)))
  | .ifnull off => decide (e.1 = .ifnull 0) && (Nat.beq e.2.1 3 && decide ((pc : Int) + off = (e.2.2.1 : Int)))
  | .ifnonnull off => decide (e.1 = .ifnonnull 0) && (Nat.beq e.2.1 3 && decide ((pc : Int) + off = (e.2.2.1 : Int)))
  | .getfield ix => decide (e.1 = .getfield ix) && (Nat.beq e.2.1 3 && Nat.blt ix 1000)
  | .putfield ix => decide (e.1 = .putfield ix) && (Nat.beq e.2.1 3 && Nat.blt ix 1000)
  | .new ix => decide (e.1 = .new ix) && (Nat.beq e.2.1 3 && Nat.blt ix 1000)
  | .anewarray ix => decide (e.1 = .anewarray ix) && (Nat.beq e.2.1 3 && Nat.blt ix 1000)
  | .newarray ty => decide (e.1 = .newarray ty) && Nat.beq e.2.1 2
  | .invokevirtual ix => decide (e.1 = .invokevirtual ix) && (Nat.beq e.2.1 3 && (Nat.blt ix 1000 && kdChk 0 own ix))
  | .invokestatic ix => decide (e.1 = .invokestatic ix) && (Nat.beq e.2.1 3 && (Nat.blt ix 1000 && cond (Nat.beq e.2.2.1 999) ((as2 ALg (own * 1000 + ix)).isSome) (kdChk 1 own ix)))
  | .invokespecial ix => decide (e.1 = .invokespecial ix) && (Nat.beq e.2.1 3 && (Nat.blt ix 1000 && cond (Nat.beq e.2.2.1 998) ((as2 OLg (own * 1000 + ix)).isSome) (kdChk 2 own ix)))
  | .tableswitch d lo hi offs => decide (e.1 = .tableswitch d lo hi offs)
  | r => decide (e.1 = r) && Nat.beq e.2.1 1
def chkE (cc : ByteArray) (own pc : Nat) (e : EE) : Bool := match decode cc pc with
  | .ok (r, n) => Nat.beq n e.2.1 && eqI own r e pc
  | .error _ => false
theorem chkE_of {cc : ByteArray} {own pc : Nat} {e : EE} (h : chkE cc own pc e = true) : ∃ r, decode cc pc = .ok (r, e.2.1) ∧ eqI own r e pc = true := by
  unfold chkE at h
  split at h
  · next r n hd =>
    rw [Bool.and_eq_true] at h
    have hn : n = e.2.1 := Nat.eq_of_beq_eq_true h.1
    subst hn
    exact ⟨r, hd, h.2⟩
  · cases h
theorem kdChk_of {k own ix j ne ps : Nat} {q : MQ7} {y : MethodName × ByteArray × Option FieldType × Nat × Nat × Nat × Nat} (h : kdChk k own ix = true) (h1 : as2 MLg (own * 1000 + ix) = some (j, ne, ps)) (h2 : as2 MIg j = some q) (h3 : as2 YYg j = some y) : (k = 0 → q.2.1 = 1 ∧ y.2.2.2.2.2.1 ≠ 0 ∧ ne = 0) ∧ (k = 1 → q.2.1 = 0 ∧ ne = 0) ∧ (k = 2 → q.2.1 = 1 ∧ y.2.2.2.2.2.1 = 0 ∧ q.2.2.2.2.2.2 = 0) := by
  unfold kdChk at h
  rw [h1] at h
  dsimp only at h
  rw [h2] at h
  dsimp only at h
  rw [h3] at h
  dsimp only at h
  refine ⟨?_, ?_, ?_⟩
  · rintro rfl
    simp only [Bool.and_eq_true] at h
    refine ⟨Nat.eq_of_beq_eq_true h.1, fun e => ?_, Nat.eq_of_beq_eq_true h.2.2⟩
    have := h.2.1
    rw [e] at this
    cases this
  · rintro rfl
    simp only [Bool.and_eq_true] at h
    exact ⟨Nat.eq_of_beq_eq_true h.1, Nat.eq_of_beq_eq_true h.2⟩
  · rintro rfl
    simp only [Bool.and_eq_true] at h
    exact ⟨Nat.eq_of_beq_eq_true h.1, Nat.eq_of_beq_eq_true h.2.1, Nat.eq_of_beq_eq_true h.2.2⟩
theorem nx1_of {st : List VV} {f : Int32 → List VV → Prop} (h : nx1 st f) : ∃ a r, st = vI a :: r ∧ f a r := by
  unfold nx1 at h
  split at h
  · next a r => exact ⟨a, r, rfl, h⟩
  · cases h
theorem nx2_of {st : List VV} {f : Int32 → Int32 → List VV → Prop} (h : nx2 st f) : ∃ a b r, st = vI b :: vI a :: r ∧ f a b r := by
  unfold nx2 at h
  split at h
  · next b a r => exact ⟨a, b, r, rfl, h⟩
  · cases h
theorem nl1_of {st : List VV} {f : Int64 → List VV → Prop} (h : nl1 st f) : ∃ a r, st = vL a :: r ∧ f a r := by
  unfold nl1 at h
  split at h
  · next a r => exact ⟨a, r, rfl, h⟩
  · cases h
theorem nl2_of {st : List VV} {f : Int64 → Int64 → List VV → Prop} (h : nl2 st f) : ∃ a b r, st = vL b :: vL a :: r ∧ f a b r := by
  unfold nl2 at h
  split at h
  · next b a r => exact ⟨a, b, r, rfl, h⟩
  · cases h
theorem nli_of {st : List VV} {f : Int64 → Int32 → List VV → Prop} (h : nli st f) : ∃ a b r, st = vI b :: vL a :: r ∧ f a b r := by
  unfold nli at h
  split at h
  · next b a r => exact ⟨a, b, r, rfl, h⟩
  · cases h
theorem cond_t {c : Bool} {X : Prop} (h : cond c X False) : c = true ∧ X := by
  cases c with
  | true => exact ⟨rfl, h⟩
  | false => cases h
theorem key_div {own ix : Nat} (h : ix < 1000) : (own * 1000 + ix) / 1000 = own ∧ (own * 1000 + ix) % 1000 = ix := by omega
theorem flOk {own ix q k ne ps : Nat} (hix : ix < 1000) (h : as2 FLg (own * 1000 + ix) = some (q, k, ne, ps)) : q < 11 ∧ k < nF q ∧ ((ne = 0 ∧ (Cond.fieldLink (cN own) ix (TXX q k).1 (TXX q k).2.1 (TXX q k).2.2.1) ∈ lw_good) ∨ (ne ≠ 0 ∧ (Cond.fieldLinkNest (cN own) ix (TXX q k).1 (TXX q k).2.1 (TXX q k).2.2.1 "TwoLeash") ∈ lw_tbl)) := by
  have hc := as2_all chkFL FLg allFL h
  unfold chkFL at hc
  rw [(key_div hix).1, (key_div hix).2, Bool.and_eq_true, Bool.and_eq_true] at hc
  obtain ⟨h1, h2, h3⟩ := hc
  have h1 : q < 11 := Nat.le_of_ble_eq_true h1
  have h2 : k < nF q := Nat.le_of_ble_eq_true h2
  refine ⟨h1, h2, ?_⟩
  dsimp only at h3
  cases hb : Nat.beq ne 0 with
  | true => rw [hb] at h3; exact Or.inl ⟨Nat.eq_of_beq_eq_true hb, wAt_ok h3⟩
  | false => rw [hb] at h3; exact Or.inr ⟨fun e => (by rw [e] at hb; cases hb), wAtN_ok h3⟩
theorem mlOk {own ix j ne ps : Nat} (hix : ix < 1000) (h : as2 MLg (own * 1000 + ix) = some (j, ne, ps)) : ∃ y, as2 YYg j = some y ∧ ((ne = 0 ∧ Cond.methodLink (cN own) ix y.1 ∈ lw_good) ∨ (ne ≠ 0 ∧ Cond.methodLinkNest (cN own) ix y.1 "TwoLeash" ∈ lw_tbl)) := by
  have hc := as2_all chkML MLg allML h
  unfold chkML at hc
  rw [(key_div hix).1, (key_div hix).2] at hc
  dsimp only at hc
  cases hy : as2 YYg j with
  | none => rw [hy] at hc; cases hc
  | some y =>
    rw [hy] at hc
    dsimp only at hc
    refine ⟨y, rfl, ?_⟩
    cases hb : Nat.beq ne 0 with
    | true => rw [hb] at hc; exact Or.inl ⟨Nat.eq_of_beq_eq_true hb, wAt_ok hc⟩
    | false => rw [hb] at hc; exact Or.inr ⟨fun e => (by rw [e] at hb; cases hb), wAtN_ok hc⟩
theorem olOk {own ix : Nat} (hix : ix < 1000) (h : (as2 OLg (own * 1000 + ix)).isSome = true) : Cond.methodLink (cN own) ix Lib.objectInit ∈ lw_good := by
  obtain ⟨v, hv⟩ := Option.isSome_iff_exists.mp h
  have hc := as2_all chkOL OLg allOL hv
  unfold chkOL at hc
  rw [(key_div hix).1, (key_div hix).2] at hc
  exact wAt_ok hc
theorem alOk {own ix : Nat} (hix : ix < 1000) (h : (as2 ALg (own * 1000 + ix)).isSome = true) : Cond.methodLink (cN own) ix arraycopyName ∈ lw_good := by
  obtain ⟨v, hv⟩ := Option.isSome_iff_exists.mp h
  have hc := as2_all chkAL ALg allAL hv
  unfold chkAL at hc
  rw [(key_div hix).1, (key_div hix).2] at hc
  exact wAt_ok hc
theorem klOk {own ix q ps : Nat} (hix : ix < 1000) (h : as2 KLg (own * 1000 + ix) = some (q, ps)) : q < 11 ∧ Cond.classLink (cN own) ix (RXX q) ∈ lw_good := by
  have hc := as2_all chkKL KLg allKL h
  unfold chkKL at hc
  rw [(key_div hix).1, (key_div hix).2, Bool.and_eq_true] at hc
  exact ⟨Nat.le_of_ble_eq_true hc.1, wAt_ok hc.2⟩
theorem kiOk {own ix ps : Nat} {v : Int32} (hix : ix < 1000) (h : as2 KIg (own * 1000 + ix) = some (v, ps)) : Cond.constant (cN own) ix v ∈ lw_good := by
  have hc := as2_all chkKI KIg allKI h
  unfold chkKI at hc
  rw [(key_div hix).1, (key_div hix).2] at hc
  exact wAt_ok hc
theorem kjOk {own ix ps : Nat} {v : Int64} (hix : ix < 1000) (h : as2 KJg (own * 1000 + ix) = some (v, ps)) : Cond.constantLong (cN own) ix v ∈ lw_good := by
  have hc := as2_all chkKJ KJg allKJ h
  unfold chkKJ at hc
  rw [(key_div hix).1, (key_div hix).2] at hc
  exact wAt_ok hc
theorem clsW {q : Nat} (hq : q < 11) : Cond.instantiable (RXX q) (nF q) ∈ lw_good ∧ Cond.initialized (RXX q) ∈ lw_good := by
  have h := List.all_eq_true.mp allC q (List.mem_range.mpr hq)
  unfold chkC at h
  simp only [Bool.and_eq_true, decide_eq_true_eq] at h
  exact ⟨List.mem_filter.mpr ⟨h.1, h.2.1⟩, List.mem_filter.mpr ⟨h.2.2.1, h.2.2.2⟩⟩
theorem objW : Cond.instanceMethod Lib.objectInit ∈ lw_good ∧ Cond.code Lib.objectInit ⟨#[0xb1]⟩ 1 none ∈ lw_good ∧ Cond.native arraycopyName ∈ lw_good ∧ Cond.static arraycopyName ∈ lw_good ∧ Cond.initialized "java/lang/System" ∈ lw_good := by
  have h := chkO_ok
  unfold chkO at h
  simp only [Bool.and_eq_true, decide_eq_true_eq] at h
  obtain ⟨a1, a2, a3, a4, a5, a6, a7, a8, a9, a10⟩ := h
  exact ⟨List.mem_filter.mpr ⟨a1, a2⟩, List.mem_filter.mpr ⟨a3, a4⟩, List.mem_filter.mpr ⟨a5, a6⟩, List.mem_filter.mpr ⟨a7, a8⟩, List.mem_filter.mpr ⟨a9, a10⟩⟩
theorem acW {a : ArrayType} (ha : a ∈ [ArrayType.int, .long, .byte, .boolean]) : Cond.arrayClass (newarray.typeOf a) ∈ lw_good := by
  have h := List.all_eq_true.mp chkAC_ok a ha
  simp only [Bool.and_eq_true, decide_eq_true_eq] at h
  exact List.mem_filter.mpr h
theorem allYY : YYg.all (fun c => c.2.all (fun e => chkYY e.1 e.2)) = true := by
  unfold YYg
  simp only [List.all_cons, List.all_nil, Bool.and_true, Bool.and_eq_true]
  exact ⟨allYY_0, allYY_1, allYY_2, allYY_3, allYY_4, allYY_5, allYY_6, allYY_7, allYY_8, allYY_9, allYY_10, allYY_11, allYY_12, allYY_13, allYY_14, allYY_15, allYY_16, allYY_17, allYY_18⟩
/-- a method's own words -/
theorem yyOk {j : Nat} {q : MQ7} {y : MethodName × ByteArray × Option FieldType × Nat × Nat × Nat × Nat} (hq : as2 MIg j = some q) (hy : as2 YYg j = some y) :
    Cond.code y.1 y.2.1 q.2.2.1 y.2.2.1 ∈ lw_good ∧ Cond.initialized y.1.cls ∈ lw_good ∧ plainFor y.1 = true ∧ (y.1.cls ≠ "java/lang/invoke/MethodHandle" ∧ y.1.cls ≠ "java/lang/invoke/VarHandle" ∧ (parseMethodDescriptor y.1.desc).map (fun d => d.parameters.length) = some (q.1 - q.2.1)) ∧ y.1.cls = cN q.2.2.2.1 ∧ q.2.2.1 ≤ 40 ∧ retChk q.2.2.2.2.2.2 y.2.2.1 = true ∧
    ((q.2.1 = 1 ∧ q.2.2.2.1 < 11 ∧ 1 ≤ q.1 ∧ Cond.instanceMethod y.1 ∈ lw_good ∧ ((y.2.2.2.2.2.1 = 0 ∧ y.1.name = "<init>") ∨ (y.2.2.2.2.2.1 ≠ 0 ∧ Cond.selects y.1.cls y.1 y.1 ∈ lw_good))) ∨ (q.2.1 = 0 ∧ Cond.static y.1 ∈ lw_good)) := by
  have h := as2_all chkYY YYg allYY hy
  unfold chkYY at h
  rw [hq] at h
  dsimp only at h
  simp only [Bool.and_eq_true, decide_eq_true_eq] at h
  obtain ⟨h1, h2, h3, h4, h5, h6, h7, h8, h9, h10⟩ := h
  refine ⟨wAt_ok h1, wAt_ok h2, h3, ⟨h4, h5, h6⟩, h7, Nat.le_of_ble_eq_true h8, h9, ?_⟩
  cases hb : Nat.beq q.2.1 1 with
  | true =>
    rw [hb] at h10
    dsimp only [cond] at h10
    simp only [Bool.and_eq_true] at h10
    obtain ⟨g1, g2, g3, g4⟩ := h10
    refine Or.inl ⟨Nat.eq_of_beq_eq_true hb, Nat.le_of_ble_eq_true g1, Nat.le_of_ble_eq_true g2, wAt_ok g3, ?_⟩
    cases hc : Nat.beq y.2.2.2.2.2.1 0 with
    | true => rw [hc] at g4; exact Or.inl ⟨Nat.eq_of_beq_eq_true hc, of_decide_eq_true g4⟩
    | false =>
      rw [hc] at g4
      dsimp only [cond] at g4
      simp only [Bool.and_eq_true, decide_eq_true_eq] at g4
      exact Or.inr ⟨fun e => (by rw [e] at hc; cases hc), wAt_ok g4.2⟩
  | false =>
    rw [hb] at h10
    dsimp only [cond] at h10
    simp only [Bool.and_eq_true] at h10
    exact Or.inr ⟨Nat.eq_of_beq_eq_true h10.1, wAt_ok h10.2⟩
