/-! ===== the machine at a place of a method, by the small machine's state ===== -/
def lw_good : List Cond := lw_tbl.filter goodWord
def isNest : Cond → Bool
  | .fieldLinkNest _ _ _ _ _ _ => true
  | .methodLinkNest _ _ _ _ => true
  | _ => false
def tyL (cA : Nat → ClassId) : List (ClassId × FieldType) := [(cA 11, .int), (cA 12, .long), (cA 13, .byte), (cA 14, .boolean), (cA 15, .object "TwoLeash$Side"), (cA 16, .object "TwoLeash$Track")]
def Kst (D : va_G) (cA : Nat → ClassId) (U : State) : Prop := va_K D wCl (tyL cA) U ∧ (∀ w ∈ lw_tbl, isNest w = true → va_Nw w U) ∧ va_AO "TwoLeash$Side" U ∧ va_AO "TwoLeash$Track" U
theorem isNest_warm {w : Cond} {s U : State} (hn : isNest w = true) (hW : s.WarmedH U.vm) (h : va_Nw w s) : va_Nw w U := by
  cases w with
  | fieldLinkNest a i b n d h => exact va_Nw.warmF hW h
  | methodLinkNest a i x h => exact va_Nw.warmM hW h
  | _ => cases hn
theorem isNest_tab {w : Cond} (hn : isNest w = true) : w.onTables = true := by
  cases w with
  | fieldLinkNest a i b n d h => rfl
  | methodLinkNest a i x h => rfl
  | _ => cases hn
theorem Kst.warm {D : va_G} {cA : Nat → ClassId} {s U : State} (hW : s.WarmedH U.vm) (h : Kst D cA s) : Kst D cA U :=
  ⟨va_K.moved hW.alike h.1, fun w hw hn => isNest_warm hn hW (h.2.1 w hw hn), va_AO.moved hW.alike h.2.2.1, va_AO.moved hW.alike h.2.2.2⟩
theorem Kst.same {D : va_G} {cA : Nat → ClassId} {s U : State} (hv : s.vm = U.vm) (h : Kst D cA s) : Kst D cA U :=
  ⟨va_K.moved (by rw [hv]; exact Vm.Alike.refl _) h.1, fun w hw hn => va_Nw.same (isNest_tab hn) hv (h.2.1 w hw hn), va_AO.moved (by rw [hv]; exact Vm.Alike.refl _) h.2.2.1, va_AO.moved (by rw [hv]; exact Vm.Alike.refl _) h.2.2.2⟩
def Rp (B b : Nat) (D : va_G) (cA : Nat → ClassId) (M : MM) (H : Heap) : Prop := va_P D wCl (mW B b cA M) H
def RpU (B b sl : Nat) (sx : Nat → Int32) (D : va_G) (cA : Nat → ClassId) (M : MM) (U : State) : Prop := Rp B b D cA M U.heap ∧ Kst D cA U ∧ va_X b sl sx U U.heap
/-- what holds of a frame all the while -/
def FR (p : Program) (s : State) (m : MethodId) (args : Array Value) (c : Code) (B b sl : Nat) (sx : Nat → Int32) (D : va_G) (cA : Nat → ClassId) (cc : ByteArray) (own nL : Nat) : Prop :=
  p.tables.exec = Jvm.exec ∧ c.code = cc ∧ c.maxLocals = nL ∧ s.vm.findClass (cN own) = some m.cls ∧ (∀ w ∈ lw_good, w.before args s = true) ∧ Kst D cA s ∧ va_X b sl sx s s.heap ∧ b < s.heap.size ∧ b < B ∧ B ≤ s.heap.size
def WG (p : Program) (l : Launch) (e : Env) (R : Room) (s : State) (m : MethodId) (args : Array Value) (below : List Frame) (meth : Method) (c : Code) (Q : State → Prop) (B b : Nat) (D : va_G) (cA : Nat → ClassId) (nL sz0 tt0 mc0 ms0 pc : Nat) (K : LL) (st : List VV) (M : MM) : Prop :=
  K.length = nL → sz0 ≤ (mS M).length → (mS M).length ≤ sz0 + mc0 → tt0 ≤ mT M → mT M ≤ tt0 + ms0 → ∀ (H : Heap) (locs : List Loc) (ls : Array Slot), Rp B b D cA M H → va_S (fun q : Nat => B ≤ q) s.heap H locs → lv_has ls nL (asL (tv B b) 0 K) →
    W p l e R s m args below meth c H locs ((mS M).length - sz0) (mT M - tt0) Q (F0 m pc ls (st.map (tv B b)))
section WGs
variable {p : Program} {l : Launch} {e : Env} {R : Room} {s : State} {m : MethodId} {args : Array Value} {below : List Frame} {meth : Method} {c : Code} {Q : State → Prop} {B b sl : Nat} {sx : Nat → Int32} {D : va_G} {cA : Nat → ClassId} {cc : ByteArray} {own nL sz0 tt0 mc0 ms0 : Nat}
theorem WG.same {pc pc' : Nat} {K : LL} {st st' : List VV} {M : MM} (k : WG p l e R s m args below meth c Q B b D cA nL sz0 tt0 mc0 ms0 pc' K st' M)
    (h : ∀ (H : Heap) (locs : List Loc) (cells slots : Nat) (ls : Array Slot), lv_has ls nL (asL (tv B b) 0 K) → W p l e R s m args below meth c H locs cells slots Q (F0 m pc' ls (st'.map (tv B b))) → W p l e R s m args below meth c H locs cells slots Q (F0 m pc ls (st.map (tv B b)))) :
    WG p l e R s m args below meth c Q B b D cA nL sz0 tt0 mc0 ms0 pc K st M :=
  fun h0 h1 h2 h3 h4 H locs ls hR hS hl => h H locs _ _ ls hl (k h0 h1 h2 h3 h4 H locs ls hR hS hl)
theorem WG.alt {pc pc' pc'' : Nat} {K : LL} {st st' : List VV} {M : MM} {C : Prop} (k1 : C → WG p l e R s m args below meth c Q B b D cA nL sz0 tt0 mc0 ms0 pc' K st' M) (k2 : ¬ C → WG p l e R s m args below meth c Q B b D cA nL sz0 tt0 mc0 ms0 pc'' K st' M)
    (h : ∀ (H : Heap) (locs : List Loc) (cells slots : Nat) (ls : Array Slot), (C → W p l e R s m args below meth c H locs cells slots Q (F0 m pc' ls (st'.map (tv B b)))) → (¬ C → W p l e R s m args below meth c H locs cells slots Q (F0 m pc'' ls (st'.map (tv B b)))) → W p l e R s m args below meth c H locs cells slots Q (F0 m pc ls (st.map (tv B b)))) :
    WG p l e R s m args below meth c Q B b D cA nL sz0 tt0 mc0 ms0 pc K st M :=
  fun h0 h1 h2 h3 h4 H locs ls hR hS hl => h H locs _ _ ls (fun q => k1 q h0 h1 h2 h3 h4 H locs ls hR hS hl) (fun q => k2 q h0 h1 h2 h3 h4 H locs ls hR hS hl)
theorem WG.st1 {pc pc' : Nat} {K : LL} {v : VV} {st : List VV} {M : MM} {a : Nat} (hlt : a < K.length) (hv : c2 v = 1) (k : WG p l e R s m args below meth c Q B b D cA nL sz0 tt0 mc0 ms0 pc' (sto1 K a v) st M)
    (h : ∀ (H : Heap) (locs : List Loc) (cells slots : Nat) (ls : Array Slot), a < nL → lv_has ls nL (asL (tv B b) 0 K) → (∀ ls' : Array Slot, lv_has ls' nL ((a, tv B b v) :: (asL (tv B b) 0 K).filter (fun q => !(q.1 == a) && !(q.1 + 1 == a && q.2.category == 2))) → W p l e R s m args below meth c H locs cells slots Q (F0 m pc' ls' (st.map (tv B b)))) → W p l e R s m args below meth c H locs cells slots Q (F0 m pc ls ((v :: st).map (tv B b)))) :
    WG p l e R s m args below meth c Q B b D cA nL sz0 tt0 mc0 ms0 pc K (v :: st) M :=
  fun h0 h1 h2 h3 h4 H locs ls hR hS hl => h H locs _ _ ls (by rw [← h0]; exact hlt) hl (fun ls' hl' => k (by unfold sto1; rw [len_sto, len_kil]; exact h0) h1 h2 h3 h4 H locs ls' hR hS (lv_st1 hl'))
theorem WG.st2 {pc pc' : Nat} {K : LL} {x : Int64} {st : List VV} {M : MM} {a : Nat} (hlt : a + 1 < K.length) (k : WG p l e R s m args below meth c Q B b D cA nL sz0 tt0 mc0 ms0 pc' (sto2 K a (vL x)) st M)
    (h : ∀ (H : Heap) (locs : List Loc) (cells slots : Nat) (ls : Array Slot), a + 1 < nL → lv_has ls nL (asL (tv B b) 0 K) → (∀ ls' : Array Slot, lv_has ls' nL ((a, Value.long x) :: (asL (tv B b) 0 K).filter (fun q => !(q.1 == a) && (!(q.1 == a + 1) && !(q.1 + 1 == a && q.2.category == 2)))) → W p l e R s m args below meth c H locs cells slots Q (F0 m pc' ls' (st.map (tv B b)))) → W p l e R s m args below meth c H locs cells slots Q (F0 m pc ls ((vL x :: st).map (tv B b)))) :
    WG p l e R s m args below meth c Q B b D cA nL sz0 tt0 mc0 ms0 pc K (vL x :: st) M :=
  fun h0 h1 h2 h3 h4 H locs ls hR hS hl => h H locs _ _ ls (by rw [← h0]; exact hlt) hl (fun ls' hl' => k (by unfold sto2; rw [len_sto, len_sto, len_kil]; exact h0) h1 h2 h3 h4 H locs ls' hR hS (lv_st2 hlt hl'))
theorem W.sz {H : Heap} {locs : List Loc} {cells slots : Nat} {g : JFrame} (h : H.size ≤ s.heap.size + cells → W p l e R s m args below meth c H locs cells slots Q g) : W p l e R s m args below meth c H locs cells slots Q g :=
  fun T hT X => h (by have := X.same.2.2.1; rw [← hT]; exact this) T hT X
theorem Rp.size {M : MM} {H : Heap} {locs : List Loc} (hR : Rp B b D cA M H) (hS : va_S (fun q : Nat => B ≤ q) s.heap H locs) (hsz : s.heap.size = B + sz0) (h1 : sz0 ≤ (mS M).length) (h : H.size ≤ s.heap.size + ((mS M).length - sz0)) : H.size = B + (mS M).length := by
  have h2 : H.size ≤ B + (mS M).length := by omega
  have h3 : s.heap.size ≤ H.size := hS.1
  by_cases h0 : (mS M).length = sz0
  · omega
  · have hl : (mS M).length - 1 < (mS M).length := by omega
    have hq := (hR _ _ (mW_at (B := B) (b := b) (cA := cA) (List.getElem?_eq_getElem hl))).lt
    dsimp only at hq
    omega
/-- the new cell's address -/
theorem Rp.fresh {M : MM} {H1 : Heap} {q : Nat} {x : va_E} (hP : va_P D wCl (mW B b cA M ++ [(q, x)]) H1) (hD : va_D (fun q : Nat => B ≤ q) (mW B b cA M ++ [(q, x)])) (h : H1.size ≤ B + (mS M).length + 1) : q = B + (mS M).length := by
  have hlast : (mW B b cA M ++ [(q, x)])[(mS M).length]? = some (q, x) := by rw [List.getElem?_append_right (by rw [mW_len]; exact Nat.le_refl _), mW_len]; simp
  have h1 : B ≤ q := hD.2 _ _ hlast
  have h2 : q < H1.size := (hP _ _ hlast).lt
  rcases Nat.lt_or_ge q (B + (mS M).length) with hq | hq
  · exfalso
    have hl : q - B < (mS M).length := by omega
    have e1 : (mW B b cA M ++ [(q, x)])[q - B]? = some (B + (q - B), mE B b cA M (q - B) (mS M)[q - B]) := by
      rw [List.getElem?_append_left (by rw [mW_len]; exact hl)]
      exact mW_at (List.getElem?_eq_getElem hl)
    have := hD.1 _ _ _ _ e1 hlast (by dsimp only; omega)
    omega
  · omega
end WGs
