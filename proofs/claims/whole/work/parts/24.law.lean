/-! ===== the law: its walk out of the small machine's run ===== -/
def M00 : MM := ([], 0, fun _ _ => 0, fun _ _ => 0, fun _ _ => none)
/-- the small machine runs the law to true -/
def LawRuns (L : Nat) (xs : Nat → Int32) : Prop := RN 11 false 0 0 600000 7302250 L xs (callX TBg L xs 300) (fun v _ => v = some (vI 1)) (as2 tbLaw) 0 [some vS, none, none, none] [] M00
theorem law_cls {s : State} {args : Array Value} (hts : ∀ w ∈ lw_tbl, w.before args s = true) : ∃ D : va_G, ∀ (c : Nat) (q : vw_C), wCl[c]? = some q → u_Kn s q.1 q.2.1 q.2.2 (D.1 c) (D.2 c) := by
  have h : ∀ c : Nat, ∃ f : ClassId × (Nat → Nat), c < 11 → u_Kn s (RXX c) (TXX c) (nF c) f.1 f.2 := by
    intro c
    by_cases hc : c < 11
    · obtain ⟨cC, iS, hk⟩ := u_known (C := RXX c) (T := TXX c) (N := nF c) (n := nF c) hts (fun w hw => (List.mem_filter.mp (wsOk hc w hw)).1) (hts _ (List.mem_filter.mp (clsW hc).1).1)
      exact ⟨(cC, iS), fun _ => hk⟩
    · exact ⟨(0, fun _ => 0), fun q => absurd q hc⟩
  refine ⟨(fun c => (Classical.choose (h c)).1, fun c => (Classical.choose (h c)).2), fun c q hq => ?_⟩
  have hc : c < 11 := by
    have := (List.getElem?_eq_some_iff.mp hq).1
    exact this
  have e := (clOk c hc).symm.trans hq
  cases e
  exact Classical.choose_spec (h c) hc
theorem aoSide : Cond.arrayOver (.object "TwoLeash$Side") ∈ lw_tbl := wPl_in (i := 254) (by decide +kernel)
theorem aoTrack : Cond.arrayOver (.object "TwoLeash$Track") ∈ lw_tbl := wPl_in (i := 138) (by decide +kernel)
theorem law_arr {s : State} {args : Array Value} (hts : ∀ w ∈ lw_tbl, w.before args s = true) : ∃ cA : Nat → ClassId, ∀ (k : Nat) (q : ClassId × FieldType), (tyL cA)[k]? = some q → ArrOfT s q.1 q.2 ∧ va_RA s q.1 q.2 := by
  have hp : ∀ a ∈ [ArrayType.int, .long, .byte, .boolean], ∃ c k comp, s.vm.findClass ("[" ++ (newarray.typeOf a).toString) = some c ∧ s.vm.classes[c]? = some k ∧ k.kind = .array comp (newarray.typeOf a) := fun a ha => Cond.arrayClass_spec (hts _ (List.mem_filter.mp (acW ha)).1)
  obtain ⟨c1, k1, m1, a1, a2, a3⟩ := hp .int (by simp)
  obtain ⟨c2, k2, m2, b1, b2, b3⟩ := hp .long (by simp)
  obtain ⟨c3, k3, m3, d1, d2, d3⟩ := hp .byte (by simp)
  obtain ⟨c4, k4, m4, e1, e2, e3⟩ := hp .boolean (by simp)
  obtain ⟨m5, c5, k5, f1, -, f2, f3, f4⟩ := Cond.arrayOver_spec (hts _ aoSide)
  obtain ⟨m6, c6, k6, g1, -, g2, g3, g4⟩ := Cond.arrayOver_spec (hts _ aoTrack)
  refine ⟨fun t => if t = 11 then c1 else if t = 12 then c2 else if t = 13 then c3 else if t = 14 then c4 else if t = 15 then c5 else c6, fun k q hq => ?_⟩
  match k, hq with
  | 0, hq => cases hq; exact ⟨fun n z => ⟨fun k h => (by cases h), k1, a2, m1, a3⟩, a1⟩
  | 1, hq => cases hq; exact ⟨fun n z => ⟨fun k h => (by cases h), k2, b2, m2, b3⟩, b1⟩
  | 2, hq => cases hq; exact ⟨fun n z => ⟨fun k h => (by cases h), k3, d2, m3, d3⟩, d1⟩
  | 3, hq => cases hq; exact ⟨fun n z => ⟨fun k h => (by cases h), k4, e2, m4, e3⟩, e1⟩
  | 4, hq => cases hq; exact ⟨fun n z => ⟨fun k h => (by cases h), k5, f2, m5, f3⟩, k5, m5, f2, f3, f1, f4⟩
  | 5, hq => cases hq; exact ⟨fun n z => ⟨fun k h => (by cases h), k6, g2, m6, g3⟩, k6, m6, g2, g3, g1, g4⟩
  | k + 6, hq => simp [tyL] at hq
/-! THE CLAIM OUT OF ONE WALK OF THE LAW'S BODY. Your part is whole_start (and what it stands on); all else here is the same for every law, but numbers. -/
def R_law : String := "TwoLeashLaw"
def lw_P (b : Addr) (xs : List Int32) (args : Array Value) (s : State) : Prop := args = #[.ref b] ∧ s.IntsAt b xs ∧ xs.length ≤ 4608 ∧ (Jvm.Cond.and given_1 narrow_1).before args s = true
def lw_Q (_ : Array Value) (s : State) (o : Outcome) (t : State) : Prop := o = .returned (some (.int 1)) ∧ Framed s o t [] 600000 7302250
def lw_Z (below : List Frame) (a : Array Value) (s : State) : State → Prop := fun t => ∃ o, t.status = .running ∧ Ended t below o ∧ lw_Q a s o t
/-- the law's own end, with 1 on the stack, nothing written that was there before, its room as the claim has it -/
theorem lw_ret {p : Program} {l : Launch} {e : Env} {s : State} {m : MethodId} {below : List Frame} {meth : Method} {c : Code} {b : Nat} (hx : p.tables.exec = Jvm.exec) (hb : c.code = code) (hr : meth.sig.returnType = ret) (hlocks : meth.locks = false) {pc : Nat} {H : Heap} {ls : Array Slot} (hdg : decode code pc = .ok (.ireturn, 1)) : W p l e room_1 s m #[Value.ref b] below meth c H [] 600000 7302250 (lw_Z below #[Value.ref b] s) (F0 m pc ls [.int 1]) := by
  intro T hT X
  obtain ⟨fs, hret, hrun, hended, hW, hframe⟩ := X.leave (v := some (.int 1)) (hlocks := hlocks) (fun h => by rw [hr] at h; cases h)
  have hmeth' : T.vm.method? m = some meth := X.method'
  refine ⟨T.setFrames fs, ?_, .returned (some (.int 1)), hrun, hended, rfl, ⟨_, rfl⟩, hW, hframe⟩
  jvm_step X.here [X.here.top, hx, hb, hdg, hmeth', hr, ret, narrow_b1]
  (try refine ⟨rfl, ?_⟩); (try refine ⟨rfl, ?_⟩)
  first | (intro acts; rw [hret _ acts rfl rfl rfl]) | rw [hret _ _ rfl rfl rfl]
  exact Steps.refl _
/-- what holds at the law's entry: the machine, the code, the tables' words (any of lw_tbl by 'hts w (by decide +kernel)'), the script of L ints xs at the cell b, what the Statement gives of the start (any of its parts by flat_of_before) -/
def lw_At (p : Program) (s : State) (m : MethodId) (meth : Method) (c : Code) (b L : Nat) (xs : Nat → Int32) : Prop :=
  p.tables.exec = Jvm.exec ∧ c.code = code ∧ meth.sig.returnType = ret ∧ c.maxLocals = 4 ∧ s.vm.findClass R_law = some m.cls ∧ (∀ w ∈ lw_tbl, w.before #[Value.ref b] s = true) ∧ va_X b L xs s s.heap ∧ b < s.heap.size ∧ meth.locks = false ∧ (Jvm.Cond.and given_1 narrow_1).before #[Value.ref b] s = true
/-- from the small machine's run to the law's walk -/
theorem law_walks {p : Program} {e : Env} {s : State} {m : MethodId} {below : List Frame} {meth : Method} {c : Code} (l : Launch) {b L : Nat} {xs : Nat → Int32} (C0 : lw_At p s m meth c b L xs) (hrun : LawRuns L xs) : W p l e room_1 s m #[Value.ref b] below meth c s.heap [] 0 0 (lw_Z below #[Value.ref b] s) (entryFrame m ([Value.ref b] : List Value).toArray 4) := by
  obtain ⟨hx, hb, hr, hml, hown, hts, hX, hbl, hlocks, hgv⟩ := id C0
  obtain ⟨D, hD⟩ := law_cls hts
  obtain ⟨cA, hA⟩ := law_arr hts
  have hK : Kst D cA s := ⟨⟨hD, hA⟩, fun w hw hn => va_Nw.of (isNest_tab hn) (hts w hw), va_AO.of (hts _ aoSide), va_AO.of (hts _ aoTrack)⟩
  have F : FR p s m #[Value.ref b] c s.heap.size b L xs D cA code 11 4 := ⟨hx, hb, hml, hown, fun w hw => hts w (List.mem_filter.mp hw).1, hK, hX, hbl, hbl, Nat.le_refl _⟩
  obtain ⟨n, hn⟩ := hrun
  have htb : ∀ pc e, as2 tbLaw pc = some e → chkE code 11 pc e = true := fun pc e h => as2_all (chkE code 11) tbLaw ckLaw h
  have W0 : WG p l e room_1 s m #[Value.ref b] below meth c (lw_Z below #[Value.ref b] s) s.heap.size b D cA 4 0 0 600000 7302250 0 [some vS, none, none, none] [] M00 := by
    refine run_ok F rfl (Nat.le_refl _) (Nat.le_refl _) (Nat.le_of_ble_eq_true rfl) (Nat.le_of_ble_eq_true rfl) (fun h => by cases h) (call_good ckT l s.heap.size b L xs D cA hbl 300 room_1 (Nat.le_of_ble_eq_true rfl) (Nat.le_of_ble_eq_true rfl)) ?_ ?_ ?_ ?_ htb n 0 _ _ _ hn
    · intro pc K x M hd hrt h0 h1 h2 h3 h4 H locs ls hR hS hl
      have hx1 : x = 1 := by
        have := Option.some.inj hrt
        exact Sum.inl.inj this
      subst hx1
      refine va_forget (fun q hq => hS.2.2 q hq) ?_
      have h2 : (mS M).length ≤ 0 + 600000 := h2
      have h4 : mT M ≤ 0 + 7302250 := h4
      refine W.widen (k := 600000) (n := 7302250) (by omega) (by omega) ?_
      exact lw_ret hx hb hr hlocks hd
    · intro pc K x M hd hrt
      have := Option.some.inj hrt
      cases this
    · intro pc K x M hd hrt
      have := Option.some.inj hrt
      cases this
    · intro pc K M hd hrt
      cases hrt
  have hl := lv_entry ([Value.ref b] : List Value) (n := 4) (Nat.le_of_ble_eq_true rfl)
  rw [lg_entry_eq]
  have hP0 : Rp s.heap.size b D cA M00 s.heap := fun k q h => by simp [mW, M00, mS] at h
  exact W0 rfl (Nat.le_refl _) (Nat.zero_le _) (Nat.le_refl _) (Nat.zero_le _) s.heap [] _ hP0 va_S.rf hl
