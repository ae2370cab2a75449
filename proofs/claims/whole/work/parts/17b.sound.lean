/-! ===== a call of the small machine is a call of the machine ===== -/
abbrev TBT : Type := List (Nat × List (Nat × (Bool × List (Nat × List (Nat × EE)))))
def tbAll (cc : ByteArray) (own : Nat) (g : List (Nat × List (Nat × EE))) : Bool := g.all (fun x => x.2.all (fun e => chkE cc own e.1 e.2))
def chkT (j : Nat) (v : Bool × List (Nat × List (Nat × EE))) : Bool := match as2 MIg j with
  | none => false
  | some q => match as2 YYg j with
    | none => false
    | some y => tbAll y.2.1 q.2.2.2.1 v.2 && cond v.1 (Nat.beq y.2.2.2.2.2.1 0 && Nat.beq q.2.1 1) true
def callX (TB : TBT) (sl : Nat) (sx : Nat → Int32) : Nat → Nat → List VV → MM → (Option VV → MM → Prop) → Prop
  | 0 => fun _ _ _ _ => False
  | d + 1 => fun j as M post => match as2 MIg j with
    | none => False
    | some q => match as2 TB j with
      | none => False
      | some v => cond (Nat.ble (aL as).length q.2.2.1) (∃ n, runN q.2.2.2.1 v.1 (mS M).length (mT M) q.2.2.2.2.1 q.2.2.2.2.2.1 sl sx (callX TB sl sx d) (rtW q M post) (as2 v.2) n 0 (aLn q.2.2.1 as) [] M) False
section SND
variable {p : Program} {l : Launch} {e : Env} {R : Room} {s : State} {m : MethodId} {args : Array Value} {below : List Frame} {meth : Method} {c : Code} {Q : State → Prop} {B b sl : Nat} {sx : Nat → Int32} {D : va_G} {cA : Nat → ClassId} {cc : ByteArray} {own nL sz0 tt0 mc0 ms0 : Nat}
theorem run_ok {cw : Nat → List VV → MM → (Option VV → MM → Prop) → Prop} {rt : Option VV → MM → Prop} {isI : Bool} {tb : Nat → Option EE} (F : FR p s m args c B b sl sx D cA cc own nL) (hsz : s.heap.size = B + sz0) (hRc : mc0 ≤ R.cells) (hRs : ms0 ≤ R.slots) (hRf : 1 ≤ R.frames) (hRl : 100 ≤ R.locals) (hin : isI = true → meth.name = "<init>") (hC : CallG l R B b sl sx D cA cw)
    (hri : ∀ pc K x M, decode cc pc = .ok (.ireturn, 1) → rt (some (vI x)) M → WG p l e R s m args below meth c Q B b D cA nL sz0 tt0 mc0 ms0 pc K [vI x] M) (hrl : ∀ pc K x M, decode cc pc = .ok (.lreturn, 1) → rt (some (vL x)) M → WG p l e R s m args below meth c Q B b D cA nL sz0 tt0 mc0 ms0 pc K [vL x] M)
    (hra : ∀ pc K x M, decode cc pc = .ok (.areturn, 1) → rt (some (vR x)) M → WG p l e R s m args below meth c Q B b D cA nL sz0 tt0 mc0 ms0 pc K [vR x] M) (hrv : ∀ pc K M, decode cc pc = .ok (.return_, 1) → rt none M → WG p l e R s m args below meth c Q B b D cA nL sz0 tt0 mc0 ms0 pc K [] M)
    (htb : ∀ pc e, tb pc = some e → chkE cc own pc e = true) : ∀ (n pc : Nat) (K : LL) (st : List VV) (M : MM), runN own isI sz0 tt0 mc0 ms0 sl sx cw rt tb n pc K st M → WG p l e R s m args below meth c Q B b D cA nL sz0 tt0 mc0 ms0 pc K st M := by
  intro n
  induction n with
  | zero => intro pc K st M h; cases h
  | succ n ih =>
    intro pc K st M h
    unfold runN at h
    cases ht : tb pc with
    | none => rw [ht] at h; cases h
    | some e0 =>
      rw [ht] at h
      exact step_ok F hsz hRc hRs hRf hRl hin hC ih hri hrl hra hrv (htb pc e0 ht) h
theorem aLn_len {n : Nat} {as : List VV} (h : (aL as).length ≤ n) : (aLn n as).length = n := by
  unfold aLn
  rw [List.length_append, List.length_replicate]
  omega
/-- the end of a method: what the caller is told -/
theorem end_ok {H : Heap} {locs : List Loc} {v : Option VV} {M' : MM} {P : Option VV → MM → Prop} (F : FR p s m args c B b sl sx D cA cc own nL) (hR : Rp B b D cA M' H) (hS : va_S (fun q : Nat => B ≤ q) s.heap H locs) (hp : P v M') :
    ∀ t : State, t.heap = H → s.WarmedH t.vm → QcW B b sl sx D cA P args s (.returned (v.map (tv B b))) t := by
  obtain ⟨hx, hb, hml, hown, hts, hK, hX, hbl, hbB, hBs⟩ := F
  intro t ht hW
  refine ⟨⟨v, M', rfl, hp, by rw [ht]; exact hR, hK.warm hW, ?_⟩, hS.F ht⟩
  rw [ht]
  exact (hX.kept (hS.2.1 b hbl (Nat.not_le.mpr hbB))).moved hW.alike
end SND
set_option maxHeartbeats 1000000 in
theorem call_good {TB : TBT} (hTB : TB.all (fun c => c.2.all (fun e => chkT e.1 e.2)) = true) (l : Launch) (B b sl : Nat) (sx : Nat → Int32) (D : va_G) (cA : Nat → ClassId) (hbB : b < B) : ∀ (d : Nat) (R : Room), d + 1 ≤ R.frames → 100 * d + 100 ≤ R.locals → CallG l R B b sl sx D cA (callX TB sl sx d) := by
  intro d
  induction d with
  | zero => intro R _ _ j as M P q y _ _ h; cases h
  | succ d ih =>
    intro R hRf hRl j as M P q y hq hy h
    have h2 : (match as2 MIg j with
      | none => False
      | some q => match as2 TB j with
        | none => False
        | some v => cond (Nat.ble (aL as).length q.2.2.1) (∃ n, runN q.2.2.2.1 v.1 (mS M).length (mT M) q.2.2.2.2.1 q.2.2.2.2.2.1 sl sx (callX TB sl sx d) (rtW q M P) (as2 v.2) n 0 (aLn q.2.2.1 as) [] M) False) := h
    rw [hq] at h2
    dsimp only at h2
    cases ht : as2 TB j with
    | none => rw [ht] at h2; cases h2
    | some v =>
      rw [ht] at h2
      dsimp only at h2
      obtain ⟨hal, n, hrun⟩ := cond_t h2
      have hal : (aL as).length ≤ q.2.2.1 := Nat.le_of_ble_eq_true hal
      obtain ⟨y1, y2, y3, y4, y5, y6, y7, y8⟩ := yyOk hq hy
      have hck := as2_all chkT TB hTB ht
      unfold chkT at hck
      rw [hq] at hck
      dsimp only at hck
      rw [hy] at hck
      dsimp only at hck
      rw [Bool.and_eq_true] at hck
      have htb : ∀ pc e, as2 v.2 pc = some e → chkE y.2.1 q.2.2.2.1 pc e = true := fun pc e hpe => as2_all (chkE y.2.1 q.2.2.2.1) v.2 hck.1 hpe
      refine ⟨{ frames := d + 1, cells := q.2.2.2.2.1, slots := q.2.2.2.2.2.1, locals := 100 * (d + 1) }, ?_, rfl, rfl, hRf, ?_⟩
      · refine va_MetF (cc := y.2.1) (maxL := q.2.2.1) (ret := y.2.2.1) y3 rfl ?_
        intro p e s m args below meth c s₁ Bd hml hPc
        obtain ⟨rfl, ⟨hR, hK, hX⟩, hsize⟩ := hPc
        have hown : s.vm.findClass (cN q.2.2.2.1) = some m.cls := by rw [← y5]; exact findClass_of_methodNamed Bd.named
        have hts0 := atoms_spec (ws := Cond.code y.1 y.2.1 q.2.2.1 y.2.2.1 :: lw_good) Bd.pre
        have F : FR p s m (as.map (tv B b)).toArray c B b sl sx D cA y.2.1 q.2.2.2.1 q.2.2.1 := ⟨Bd.exec, Bd.bytes, hml, hown, fun w hw => hts0 w (List.mem_cons_of_mem _ hw), hK, hX, by omega, hbB, by omega⟩
        have hin : v.1 = true → meth.name = "<init>" := by
          intro hv
          have hc := hck.2
          rw [hv] at hc
          dsimp only [cond] at hc
          rw [Bool.and_eq_true] at hc
          have z1 := Nat.eq_of_beq_eq_true hc.1
          have z2 := Nat.eq_of_beq_eq_true hc.2
          rcases y8 with ⟨-, -, -, -, z5⟩ | ⟨z, -⟩
          · rcases z5 with z | z
            · rw [← z.2]; exact (name_of_methodNamed Bd.named Bd.method).1
            · exact absurd z1 z.1
          · rw [z2] at z; cases z
        have hlocks : meth.locks = false := Bd.notSynchronized
        have hret : meth.sig.returnType = y.2.2.1 := Bd.returns
        have hx : p.tables.exec = Jvm.exec := Bd.exec
        have hb : c.code = y.2.1 := Bd.bytes
        have W0 : WG p l e (headSpec (Cond.code y.1 y.2.1 q.2.2.1 y.2.2.1 :: lw_good) { frames := d + 1, cells := q.2.2.2.2.1, slots := q.2.2.2.2.2.1, locals := 100 * (d + 1) }).room s m (as.map (tv B b)).toArray below meth c (MQ below (QcW B b sl sx D cA (rtW q M P)) (as.map (tv B b)).toArray s q.2.2.2.2.1 q.2.2.2.2.2.1 (fun a : Nat => B ≤ a)) B b D cA q.2.2.1 (mS M).length (mT M) q.2.2.2.2.1 q.2.2.2.2.2.1 0 (aLn q.2.2.1 as) [] M := by
          refine run_ok F hsize (Nat.le_refl _) (Nat.le_refl _) (by show 1 ≤ d + 1; omega) (by show 100 ≤ 100 * (d + 1); omega) hin (ih _ (by show d + 1 ≤ d + 1; omega) (by show 100 * d + 100 ≤ 100 * (d + 1); omega)) ?_ ?_ ?_ ?_ htb n 0 _ _ _ hrun
          · intro pc K x M' hd hrt h0 h1 h2 h3 h4 H locs ls hR' hS hl
            have e1 : (mS M').length - (mS M).length = q.2.2.2.2.1 := by have := hrt.2.1; omega
            have e2 : mT M' - mT M = q.2.2.2.2.2.1 := by have := hrt.2.2.1; omega
            rw [e1, e2]
            have hk := hrt.1
            have hq2 := end_ok (P := rtW q M P) F hR' hS hrt
            generalize hkk : q.2.2.2.2.2.2 = k at hk y7
            match k, hk, y7 with
            | 0, hk, _ => cases hk
            | 1, hk, y7 =>
              have hy2 : y.2.2.1 = some .int := by
                generalize y.2.2.1 = rr at y7
                cases rr with
                | none => cases y7
                | some ty => cases ty <;> first | rfl | cases y7
              exact W.iret hx hb (hret.trans hy2) hq2 hS.2.2 hd
            | 2, hk, _ => obtain ⟨z, hz⟩ := hk; cases hz
            | 3, hk, _ => obtain ⟨z, hz⟩ := hk; cases hz
            | 4, hk, y7 =>
              have hy2 : y.2.2.1 = some .boolean := by
                generalize y.2.2.1 = rr at y7
                cases rr with
                | none => cases y7
                | some ty => cases ty <;> first | rfl | cases y7
              obtain ⟨z, hz, hz2⟩ := hk
              cases hz
              exact W.zret hx hb (hret.trans hy2) (by rcases hz2 with rfl | rfl <;> rfl) hq2 hS.2.2 hd
            | k + 5, hk, _ => cases hk
          · intro pc K x M' hd hrt h0 h1 h2 h3 h4 H locs ls hR' hS hl
            have e1 : (mS M').length - (mS M).length = q.2.2.2.2.1 := by have := hrt.2.1; omega
            have e2 : mT M' - mT M = q.2.2.2.2.2.1 := by have := hrt.2.2.1; omega
            rw [e1, e2]
            have hk := hrt.1
            have hq2 := end_ok (P := rtW q M P) F hR' hS hrt
            generalize hkk : q.2.2.2.2.2.2 = k at hk y7
            match k, hk, y7 with
            | 0, hk, _ => cases hk
            | 1, hk, _ => obtain ⟨z, hz⟩ := hk; cases hz
            | 2, hk, y7 =>
              have hy2 : y.2.2.1 = some .long := by
                generalize y.2.2.1 = rr at y7
                cases rr with
                | none => cases y7
                | some ty => cases ty <;> first | rfl | cases y7
              exact W.lret hx hb (hret.trans hy2) hq2 hS.2.2 hd
            | 3, hk, _ => obtain ⟨z, hz⟩ := hk; cases hz
            | 4, hk, _ => obtain ⟨z, hz, -⟩ := hk; cases hz
            | k + 5, hk, _ => cases hk
          · intro pc K x M' hd hrt h0 h1 h2 h3 h4 H locs ls hR' hS hl
            have e1 : (mS M').length - (mS M).length = q.2.2.2.2.1 := by have := hrt.2.1; omega
            have e2 : mT M' - mT M = q.2.2.2.2.2.1 := by have := hrt.2.2.1; omega
            rw [e1, e2]
            have hk := hrt.1
            have hq2 := end_ok (P := rtW q M P) F hR' hS hrt
            generalize hkk : q.2.2.2.2.2.2 = k at hk y7
            match k, hk, y7 with
            | 0, hk, _ => cases hk
            | 1, hk, _ => obtain ⟨z, hz⟩ := hk; cases hz
            | 2, hk, _ => obtain ⟨z, hz⟩ := hk; cases hz
            | 3, hk, y7 =>
              have hy2 : ∃ rt, y.2.2.1 = some rt ∧ ((∃ n, rt = .object n) ∨ ∃ t, rt = .array t) := by
                generalize y.2.2.1 = rr at y7
                cases rr with
                | none => cases y7
                | some ty => cases ty <;> first | exact ⟨_, rfl, Or.inl ⟨_, rfl⟩⟩ | exact ⟨_, rfl, Or.inr ⟨_, rfl⟩⟩ | cases y7
              obtain ⟨rt, hy3, hy4⟩ := hy2
              exact W.aret hx hb (hret.trans hy3) hy4 (by cases x with | none => exact Or.inl rfl | some o => exact Or.inr ⟨_, rfl⟩) hq2 hS.2.2 hd
            | 4, hk, _ => obtain ⟨z, hz, -⟩ := hk; cases hz
            | k + 5, hk, _ => cases hk
          · intro pc K M' hd hrt h0 h1 h2 h3 h4 H locs ls hR' hS hl
            have e1 : (mS M').length - (mS M).length = q.2.2.2.2.1 := by have := hrt.2.1; omega
            have e2 : mT M' - mT M = q.2.2.2.2.2.1 := by have := hrt.2.2.1; omega
            rw [e1, e2]
            have hk := hrt.1
            have hq2 := end_ok (P := rtW q M P) F hR' hS hrt
            generalize hkk : q.2.2.2.2.2.2 = k at hk y7
            match k, hk, y7 with
            | 0, hk, y7 =>
              have hy2 : y.2.2.1 = none := by
                generalize y.2.2.1 = rr at y7
                cases rr with
                | none => rfl
                | some ty => cases y7
              exact W.vret hx hb (hret.trans hy2) hq2 hS.2.2 hd
            | 1, hk, _ => obtain ⟨z, hz⟩ := hk; cases hz
            | 2, hk, _ => obtain ⟨z, hz⟩ := hk; cases hz
            | 3, hk, _ => obtain ⟨z, hz⟩ := hk; cases hz
            | 4, hk, _ => obtain ⟨z, hz, -⟩ := hk; cases hz
            | k + 5, hk, _ => cases hk
        have hl := lv_entry (as.map (tv B b)) (n := q.2.2.1) (by rw [aL_len]; exact hal)
        rw [lg_entry_eq]
        rw [← aL_args as (q.2.2.1 - (aL as).length) 0] at hl
        have := W0 (aLn_len hal) (Nat.le_refl _) (Nat.le_add_right _ _) (Nat.le_refl _) (Nat.le_add_right _ _) s.heap [] _ hR va_S.rf hl
        rw [Nat.sub_self, Nat.sub_self] at this
        exact this
      · show 8 + (q.2.2.1 + 11) + 100 * (d + 1) ≤ R.locals
        omega
