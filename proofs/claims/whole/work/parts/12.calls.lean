/-! ===== calls ===== -/
def PcW (B b sl : Nat) (sx : Nat → Int32) (D : va_G) (cA : Nat → ClassId) (as : List VV) (M : MM) : Array Value → State → Prop := fun a U => a = (as.map (tv B b)).toArray ∧ RpU B b sl sx D cA M U ∧ U.heap.size = B + (mS M).length
def QcW (B b sl : Nat) (sx : Nat → Int32) (D : va_G) (cA : Nat → ClassId) (P : Option VV → MM → Prop) : Array Value → State → Outcome → State → Prop := fun _ st oc t => (∃ v M', oc = .returned (v.map (tv B b)) ∧ P v M' ∧ RpU B b sl sx D cA M' t) ∧ va_F (fun q : Nat => B ≤ q) st t
theorem PcW_blind {B b sl : Nat} {sx : Nat → Int32} {D : va_G} {cA : Nat → ClassId} {as : List VV} {M : MM} : FrameBlind (PcW B b sl sx D cA as M) := by
  intro a U g mk ⟨h1, ⟨h2, h3, h4⟩, h5⟩
  exact ⟨h1, ⟨h2, Kst.same (s := U) (U := U.calling g mk a) rfl h3, va_X.moved (u := U) (U := U.calling g mk a) (Vm.Alike.refl U.vm) h4⟩, h5⟩
theorem cs_sum {B b : Nat} : ∀ (r : List VV), ((r.map (tv B b)).map (fun v => v.category)).sum = cs r
  | [] => rfl
  | v :: r => by
    simp only [List.map_cons, List.sum_cons]
    rw [cs_sum r, tv_cat]
    rfl
theorem pops_spec : ∀ (n : Nat) (acc st as r : List VV), pops n acc st = some (as, r) → ∃ xs, st = xs ++ r ∧ as = xs.reverse ++ acc ∧ xs.length = n
  | 0, acc, st, as, r, h => by
    have e := Option.some.inj h
    have e1 : acc = as := congrArg Prod.fst e
    have e2 : st = r := congrArg Prod.snd e
    exact ⟨[], by rw [e2]; rfl, by rw [← e1]; rfl, rfl⟩
  | n + 1, acc, [], as, r, h => by cases h
  | n + 1, acc, v :: st, as, r, h => by
    obtain ⟨xs, e1, e2, e3⟩ := pops_spec n (v :: acc) st as r h
    exact ⟨v :: xs, by rw [e1]; rfl, by rw [e2]; simp, by simp [e3]⟩
theorem good_in {y : MethodName} {bytes : ByteArray} {maxL : Nat} {ret : Option FieldType} (h : Cond.code y bytes maxL ret ∈ lw_good) : GoodIn lw_good (Cond.code y bytes maxL ret :: lw_good) := by
  intro w hw
  rcases List.mem_cons.mp hw with rfl | hw
  · exact ⟨h, good_of_word (List.mem_filter.mp h).2⟩
  · exact ⟨hw, good_of_word (List.mem_filter.mp hw).2⟩
section WGc
variable {p : Program} {l : Launch} {e : Env} {R : Room} {s : State} {m : MethodId} {args : Array Value} {below : List Frame} {meth : Method} {c : Code} {Q : State → Prop} {B b sl : Nat} {sx : Nat → Int32} {D : va_G} {cA : Nat → ClassId} {cc : ByteArray} {own nL sz0 tt0 mc0 ms0 : Nat}
variable {pc : Nat} {K : LL} {r : List VV} {M : MM}
/-- what the callee finds -/
theorem pre_of {H : Heap} {locs : List Loc} {as : List VV} (F : FR p s m args c B b sl sx D cA cc own nL) (hR : Rp B b D cA M H) (hS : va_S (fun q : Nat => B ≤ q) s.heap H locs) (hz : H.size = B + (mS M).length) : ∀ U : State, U.heap = H → s.WarmedH U.vm → PcW B b sl sx D cA as M (as.map (tv B b)).toArray U := by
  obtain ⟨hx, hb, hml, hown, hts, hK, hX, hbl, hbB, hBs⟩ := F
  intro U hU hW
  refine ⟨rfl, ⟨by rw [hU]; exact hR, hK.warm hW, ?_⟩, by rw [hU]; exact hz⟩
  rw [hU]
  exact (hX.kept (hS.2.1 b hbl (Nat.not_le.mpr hbB))).moved hW.alike
theorem wg_run {st0 : List VV} {asv : Array Value} {mc ms : Nat} {P : Option VV → MM → Prop} (hsz : s.heap.size = B + sz0) (hRc : mc0 ≤ R.cells) (hRs : ms0 ≤ R.slots) (hc1 : (mS M).length + mc ≤ sz0 + mc0) (hs1 : mT M + ms ≤ tt0 + ms0)
    (h : ∀ (H : Heap) (locs : List Loc) (ls : Array Slot) (cells slots : Nat), Rp B b D cA M H → va_S (fun q : Nat => B ≤ q) s.heap H locs → lv_has ls nL (asL (tv B b) 0 K) → H.size = B + (mS M).length → cells + mc ≤ R.cells ∧ slots + ms ≤ R.slots → va_Run p l e R s m args below meth c H locs cells slots mc ms (F0 m pc ls (st0.map (tv B b))) (r.map (tv B b)) (QcW B b sl sx D cA P asv) (fun q : Nat => B ≤ q))
    (hP : ∀ v M', P v M' → (mS M').length = (mS M).length + mc ∧ mT M' = mT M + ms ∧ WG p l e R s m args below meth c Q B b D cA nL sz0 tt0 mc0 ms0 (pc + 3) K (pushO v r) M') : WG p l e R s m args below meth c Q B b D cA nL sz0 tt0 mc0 ms0 pc K st0 M := by
  intro h0 h1 h2 h3 h4 H locs ls hR hS hl
  refine W.sz fun hz => ?_
  have hz1 := hR.size hS hsz h1 hz
  intro T hT X
  obtain ⟨v, st₀, t, T', L, e0, X', hL, e1, e2, ⟨⟨v', M', hv, hp, hR', hK', hX'⟩, hz2, hk⟩, stp⟩ := h H locs ls _ _ hR hS hl hz1 ⟨by omega, by omega⟩ T hT X
  have hv2 : v = v'.map (tv B b) := Outcome.returned.inj hv
  subst hv2
  obtain ⟨q1, q2, kk⟩ := hP v' M' hp
  rw [e0] at hz2 hk
  have hS' : va_S (fun q : Nat => B ≤ q) s.heap T'.heap (locs ++ L) := by
    refine ⟨Nat.le_trans hS.1 (by rw [e1]; exact hz2), fun q g1 g2 => ?_, fun q hq => ?_⟩
    · rw [e1, hk q (Nat.lt_of_lt_of_le g1 hS.1) g2]
      exact hS.2.1 q g1 g2
    · rcases List.mem_append.mp hq with g | g
      · exact hS.2.2 q g
      · exact hL q g
  have := kk h0 (by omega) (by omega) (by omega) (by omega) T'.heap (locs ++ L) ls (by rw [e1]; exact hR') hS' hl
  rw [q1, q2, show (mS M).length + mc - sz0 = (mS M).length - sz0 + mc by omega, show mT M + ms - tt0 = mT M - tt0 + ms by omega] at this
  obtain ⟨t2, a1, b1⟩ := this T' rfl X'
  refine ⟨t2, stp t2 ?_, b1⟩
  have e3 : (pushO v' r).map (tv B b) = (v'.map (tv B b)).toList ++ r.map (tv B b) := by cases v' <;> rfl
  rw [e3] at a1
  exact a1
/-- a callee's numbers fit -/
def MFit (R : Room) (y : MethodName) (bytes : ByteArray) (maxL : Nat) (ret : Option FieldType) (n mc ms : Nat) (rm : Room) : Prop :=
  Cond.code y bytes maxL ret ∈ lw_good ∧ Cond.initialized y.cls ∈ lw_good ∧ (y.cls ≠ "java/lang/invoke/MethodHandle" ∧ y.cls ≠ "java/lang/invoke/VarHandle" ∧ (parseMethodDescriptor y.desc).map (fun d => d.parameters.length) = some n) ∧ rm.cells = mc ∧ rm.slots = ms ∧ rm.frames + 1 ≤ R.frames ∧ 8 + (maxL + 11) + rm.locals ≤ R.locals
variable {y : MethodName} {bytes : ByteArray} {maxL n mc ms ix : Nat} {ret : Option FieldType} {rm : Room} {P : Option VV → MM → Prop}
theorem wg_callV {o q : Nat} {as : List VV} (F : FR p s m args c B b sl sx D cA cc own nL) (hsz : s.heap.size = B + sz0) (hRc : mc0 ≤ R.cells) (hRs : ms0 ≤ R.slots) (hc1 : (mS M).length + mc ≤ sz0 + mc0) (hs1 : mT M + ms ≤ tt0 + ms0)
    (hM : Met l y (Cond.code y bytes maxL ret :: lw_good) rm (PcW B b sl sx D cA (vR (some o) :: as) M) (QcW B b sl sx D cA P) mc ms (fun q : Nat => B ≤ q)) (hfit : MFit R y bytes maxL ret n mc ms rm) (hq : q < 11) (hy : y.cls = RXX q) (ho : kd M o q)
    (hlink : Cond.methodLink (cN own) ix y ∈ lw_good) (hinst : Cond.instanceMethod y ∈ lw_good) (hsel : Cond.selects y.cls y y ∈ lw_good) (hn : as.length = n) (hr : cs r ≤ 8) (hd : decode cc pc = .ok (.invokevirtual ix, 3))
    (hP : ∀ v M', P v M' → (mS M').length = (mS M).length + mc ∧ mT M' = mT M + ms ∧ WG p l e R s m args below meth c Q B b D cA nL sz0 tt0 mc0 ms0 (pc + 3) K (pushO v r) M') : WG p l e R s m args below meth c Q B b D cA nL sz0 tt0 mc0 ms0 pc K (as.reverse ++ vR (some o) :: r) M := by
  obtain ⟨hx, hb, hml, hown, hts, hK, hX, hbl, hbB, hBs⟩ := id F
  obtain ⟨f1, f2, f3, f4, f5, f6, f7⟩ := hfit
  refine wg_run (sl := sl) (sx := sx) (asv := (Value.ref (B + o) :: as.map (tv B b)).toArray) hsz hRc hRs hc1 hs1 (fun H locs ls cells slots hR hS hl hz hf => ?_) hP
  have he : (mW B b cA M)[o]? = some (B + o, .inr (q, (List.range (nF q)).map (fun k => tv B b (rdF M q o k)))) := by rw [mW_at ho, mE_obj hq]
  have hcw : CallW R s args (cN own) y.cls ix y bytes maxL ret (Cond.code y bytes maxL ret :: lw_good) rm mc ms n := ⟨callB_of n hts (good_in f1) rfl f4 f5 (hts _ f2) (hts _ hlink) f3 ⟨f6, f7⟩, hts _ hinst, hts _ hsel⟩
  exact va_runV (C := y.cls) (As := as.map (tv B b)) (b := B + o) ⟨hx, hb, hml, hown, hts⟩ hM hcw ⟨PcW_blind, by rw [hy]; exact va_recv hK.1 hR (clOk q hq) he, pre_of F hR hS hz⟩ rfl (by rw [List.length_map]; exact hn) hl.1 (by simp [tv, va_rf]) (lv_room (by rw [cs_sum]; exact hr)) hd hf
theorem wg_callS {as : List VV} (F : FR p s m args c B b sl sx D cA cc own nL) (hsz : s.heap.size = B + sz0) (hRc : mc0 ≤ R.cells) (hRs : ms0 ≤ R.slots) (hc1 : (mS M).length + mc ≤ sz0 + mc0) (hs1 : mT M + ms ≤ tt0 + ms0)
    (hM : Met l y (Cond.code y bytes maxL ret :: lw_good) rm (PcW B b sl sx D cA as M) (QcW B b sl sx D cA P) mc ms (fun q : Nat => B ≤ q)) (hfit : MFit R y bytes maxL ret n mc ms rm)
    (hlink : Cond.methodLink (cN own) ix y ∈ lw_good) (hstat : Cond.static y ∈ lw_good) (hn : as.length = n) (hr : cs r ≤ 8) (hd : decode cc pc = .ok (.invokestatic ix, 3))
    (hP : ∀ v M', P v M' → (mS M').length = (mS M).length + mc ∧ mT M' = mT M + ms ∧ WG p l e R s m args below meth c Q B b D cA nL sz0 tt0 mc0 ms0 (pc + 3) K (pushO v r) M') : WG p l e R s m args below meth c Q B b D cA nL sz0 tt0 mc0 ms0 pc K (as.reverse ++ r) M := by
  obtain ⟨hx, hb, hml, hown, hts, hK, hX, hbl, hbB, hBs⟩ := id F
  obtain ⟨f1, f2, f3, f4, f5, f6, f7⟩ := hfit
  refine wg_run (sl := sl) (sx := sx) (asv := (as.map (tv B b)).toArray) hsz hRc hRs hc1 hs1 (fun H locs ls cells slots hR hS hl hz hf => ?_) hP
  exact va_runS (As := as.map (tv B b)) ⟨hx, hb, hml, hown, hts⟩ hM ⟨callB_of n hts (good_in f1) rfl f4 f5 (hts _ f2) (hts _ hlink) f3 ⟨f6, f7⟩, hts _ hstat⟩ ⟨PcW_blind, pre_of F hR hS hz⟩ rfl (by rw [List.length_map]; exact hn) hl.1 (by simp) (lv_room (by rw [cs_sum]; exact hr)) hd hf
theorem wg_callI {o : Nat} {as : List VV} (F : FR p s m args c B b sl sx D cA cc own nL) (hsz : s.heap.size = B + sz0) (hRc : mc0 ≤ R.cells) (hRs : ms0 ≤ R.slots) (hc1 : (mS M).length + mc ≤ sz0 + mc0) (hs1 : mT M + ms ≤ tt0 + ms0)
    (hM : Met l y (Cond.code y bytes maxL none :: lw_good) rm (PcW B b sl sx D cA (vR (some o) :: as) M) (QcW B b sl sx D cA P) mc ms (fun q : Nat => B ≤ q)) (hfit : MFit R y bytes maxL none n mc ms rm) (hy : y.name = "<init>")
    (hlink : Cond.methodLink (cN own) ix y ∈ lw_good) (hinst : Cond.instanceMethod y ∈ lw_good) (hn : as.length = n) (hr : cs r ≤ 8) (hd : decode cc pc = .ok (.invokespecial ix, 3))
    (hP : ∀ v M', P v M' → (mS M').length = (mS M).length + mc ∧ mT M' = mT M + ms ∧ WG p l e R s m args below meth c Q B b D cA nL sz0 tt0 mc0 ms0 (pc + 3) K (pushO v r) M') : WG p l e R s m args below meth c Q B b D cA nL sz0 tt0 mc0 ms0 pc K (as.reverse ++ vR (some o) :: r) M := by
  obtain ⟨hx, hb, hml, hown, hts, hK, hX, hbl, hbB, hBs⟩ := id F
  obtain ⟨f1, f2, f3, f4, f5, f6, f7⟩ := hfit
  refine wg_run (sl := sl) (sx := sx) (asv := (Value.ref (B + o) :: as.map (tv B b)).toArray) hsz hRc hRs hc1 hs1 (fun H locs ls cells slots hR hS hl hz hf => ?_) hP
  exact va_runI (As := as.map (tv B b)) (b := B + o) ⟨hx, hb, hml, hown, hts⟩ hM ⟨callB_of n hts (good_in f1) rfl f4 f5 (hts _ f2) (hts _ hlink) f3 ⟨f6, f7⟩, hy, hts _ hinst⟩ ⟨PcW_blind, pre_of F hR hS hz⟩ rfl (by rw [List.length_map]; exact hn) hl.1 (by simp [tv, va_rf]) (lv_room (by rw [cs_sum]; exact hr)) hd hf
theorem wg_callIN {o : Nat} {as : List VV} (F : FR p s m args c B b sl sx D cA cc own nL) (hsz : s.heap.size = B + sz0) (hRc : mc0 ≤ R.cells) (hRs : ms0 ≤ R.slots) (hc1 : (mS M).length + mc ≤ sz0 + mc0) (hs1 : mT M + ms ≤ tt0 + ms0)
    (hM : Met l y (Cond.code y bytes maxL none :: lw_good) rm (PcW B b sl sx D cA (vR (some o) :: as) M) (QcW B b sl sx D cA P) mc ms (fun q : Nat => B ≤ q)) (hfit : MFit R y bytes maxL none n mc ms rm) (hy : y.name = "<init>")
    (hlink : Cond.methodLinkNest (cN own) ix y "TwoLeash" ∈ lw_tbl) (hinst : Cond.instanceMethod y ∈ lw_good) (hn : as.length = n) (hr : cs r ≤ 8) (hd : decode cc pc = .ok (.invokespecial ix, 3))
    (hP : ∀ v M', P v M' → (mS M').length = (mS M).length + mc ∧ mT M' = mT M + ms ∧ WG p l e R s m args below meth c Q B b D cA nL sz0 tt0 mc0 ms0 (pc + 3) K (pushO v r) M') : WG p l e R s m args below meth c Q B b D cA nL sz0 tt0 mc0 ms0 pc K (as.reverse ++ vR (some o) :: r) M := by
  obtain ⟨hx, hb, hml, hown, hts, hK, hX, hbl, hbB, hBs⟩ := id F
  obtain ⟨f1, f2, f3, f4, f5, f6, f7⟩ := hfit
  refine wg_run (sl := sl) (sx := sx) (asv := (Value.ref (B + o) :: as.map (tv B b)).toArray) hsz hRc hRs hc1 hs1 (fun H locs ls cells slots hR hS hl hz hf => ?_) hP
  exact va_runIN (host := "TwoLeash") (As := as.map (tv B b)) (b := B + o) ⟨hx, hb, hml, hown, hts⟩ hM ⟨va_cnB n hts (good_in f1) rfl f4 f5 (hK.2.1 _ hlink rfl) (hts _ f2) f3 ⟨f6, f7⟩, hy, hts _ hinst⟩ ⟨PcW_blind, pre_of F hR hS hz⟩ rfl (by rw [List.length_map]; exact hn) hl.1 (by simp [tv, va_rf]) (lv_room (by rw [cs_sum]; exact hr)) hd hf
theorem wg_obj {o : Nat} (F : FR p s m args c B b sl sx D cA cc own nL) (hlink : Cond.methodLink (cN own) ix Lib.objectInit ∈ lw_good) (hinst : Cond.instanceMethod Lib.objectInit ∈ lw_good) (hcode : Cond.code Lib.objectInit ⟨#[0xb1]⟩ 1 none ∈ lw_good) (hf : 1 ≤ R.frames) (hl0 : 100 ≤ R.locals) (hr : cs r ≤ 8) (hd : decode cc pc = .ok (.invokespecial ix, 3))
    (kk : WG p l e R s m args below meth c Q B b D cA nL sz0 tt0 mc0 ms0 (pc + 3) K r M) : WG p l e R s m args below meth c Q B b D cA nL sz0 tt0 mc0 ms0 pc K (vR (some o) :: r) M := by
  obtain ⟨hx, hb, hml, hown, hts, hK, hX, hbl, hbB, hBs⟩ := F
  intro h0 h1 h2 h3 h4 H locs ls hR hS hl
  refine W.objInit hx hb hown (hts _ hlink) (hts _ hinst) (hts _ hcode) rfl (hl.1.trans hml.symm) (a := B + o) (rest := r.map (tv B b)) rfl hd hf ?_ (kk h0 h1 h2 h3 h4 H locs ls hR hS hl)
  have := lv_room (m := m) (pc := pc) (ls := ls) (rest := r.map (tv B b)) (st := r.map (tv B b)) (by rw [cs_sum]; exact hr)
  rw [cs_sum] at this ⊢
  show 2 * 0 + cs r + 12 ≤ _
  omega
theorem row_sLr {M : MM} {a : Nat} {f : Nat → Int64} : mL (sLr M a f) a = f := by unfold mL sLr up1; simp
theorem mE_sLr {M : MM} {o : Nat} {f : Nat → Int64} (a : Nat) (h : a ≠ o) (q : Nat × Nat) : mE B b cA (sLr M o f) a q = mE B b cA M a q := by
  have e1 : mI (sLr M o f) a = mI M a := rfl
  have e2 : mL (sLr M o f) a = mL M a := by unfold mL sLr up1; simp [h]
  have e3 : mR (sLr M o f) a = mR M a := rfl
  have e4 : ∀ q k, rdF (sLr M o f) q a k = rdF M q a k := fun q k => by unfold rdF; rw [e1, e2, e3]
  unfold mE
  simp only [e1, e2, e3, e4]
theorem wg_copy {a a0 n0 n1 : Nat} {sp dp k : Int32} (F : FR p s m args c B b sl sx D cA cc own nL) (hlink : Cond.methodLink (cN own) ix arraycopyName ∈ lw_good) (hnat : Cond.native arraycopyName ∈ lw_good) (hstat : Cond.static arraycopyName ∈ lw_good) (hini : Cond.initialized "java/lang/System" ∈ lw_good) (hf : 1 ≤ R.frames) (hl0 : 100 ≤ R.locals) (hr : cs r ≤ 8) (hd : decode cc pc = .ok (.invokestatic ix, 3))
    (h0' : (mS M)[a0]? = some (12, n0)) (h1' : (mS M)[a]? = some (12, n1)) (g1 : ¬ sp < 0) (g2 : ¬ dp < 0) (g3 : ¬ k < 0) (g4 : sp.toNatClampNeg + k.toNatClampNeg ≤ n0) (g5 : dp.toNatClampNeg + k.toNatClampNeg ≤ n1)
    (kk : WG p l e R s m args below meth c Q B b D cA nL sz0 tt0 mc0 ms0 (pc + 3) K r (sLr M a (va_cpy (mL M a0) (mL M a) sp.toNatClampNeg dp.toNatClampNeg k.toNatClampNeg))) : WG p l e R s m args below meth c Q B b D cA nL sz0 tt0 mc0 ms0 pc K (vI k :: vI dp :: vR (some a) :: vI sp :: vR (some a0) :: r) M := by
  obtain ⟨hx, hb, hml, hown, hts, hK, hX, hbl, hbB, hBs⟩ := F
  intro h0 h1 h2 h3 h4 H locs ls hR hS hl
  refine va_copyl hx hb (hml.trans hl.1.symm) hown (hts _ hlink) (hts _ hnat) (hts _ hstat) (hts _ hini) hK.1 hR mW_D hS a0 a 1 1 (f := mL M a0) (g := mL M a) (by rw [mW_at h0', mE_12]) (by rw [mW_at h1', mE_12]) rfl rfl rfl g1 g2 g3 g4 g5 (fun _ _ => rfl) hf ?_ hd fun H1 locs1 hP1 _ hS1 => ?_
  · rw [cs_sum]
    have : nativeFrameWords "java/lang/System" "arraycopy" 5 = 7 := by decide
    omega
  · have hP2 : va_P D wCl (mW B b cA (sLr M a (va_cpy (mL M a0) (mL M a) sp.toNatClampNeg dp.toNatClampNeg k.toNatClampNeg))) H1 := by
      rw [← mW_set (M := M) (M' := sLr M a (va_cpy (mL M a0) (mL M a) sp.toNatClampNeg dp.toNatClampNeg k.toNatClampNeg)) (q := (12, n1)) (x := .inl (cA 12, n1, .inr (.inl (va_cpy (mL M a0) (mL M a) sp.toNatClampNeg dp.toNatClampNeg k.toNatClampNeg)))) rfl h1' (by rw [mE_12, row_sLr]) (fun a ha q => mE_sLr a ha q)]
      exact hP1
    exact kk h0 h1 h2 h3 h4 H1 locs1 ls hP2 hS1 hl
end WGc
