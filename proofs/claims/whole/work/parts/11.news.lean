/-! ===== making objects and arrays ===== -/
theorem new_I {M : MM} {c n : Nat} : mI (mN M c n) (mS M).length = fun _ => 0 := by unfold mI mN up1 mS; simp
theorem new_L {M : MM} {c n : Nat} : mL (mN M c n) (mS M).length = fun _ => 0 := by unfold mL mN up1 mS; simp
theorem new_R {M : MM} {c n : Nat} : mR (mN M c n) (mS M).length = fun _ => none := by unfold mR mN up1 mS; simp
theorem new_len {M : MM} {c n : Nat} : (mS (mN M c n)).length = (mS M).length + 1 := by unfold mS mN; simp
theorem new_T {M : MM} {c n : Nat} : mT (mN M c n) = mT M + n := rfl
theorem new_def {B b : Nat} {M : MM} {c n k : Nat} (hc : c < 11) (hk : k < nF c) : defaultValue (tyXX c k) = tv B b (rdF (mN M c n) c (mS M).length k) := by
  have ht := tyChk_of hc hk
  unfold tyChk at ht
  rw [Bool.and_eq_true] at ht
  have ht1 := ht.1
  unfold rdF
  rw [new_I, new_L, new_R]
  generalize fT c k = f at ht1 ⊢
  match f, ht1 with
  | 0, ht1 => cases hy : tyXX c k <;> rw [hy] at ht1 <;> first | exact absurd (show false = true from ht1) (by decide) | rfl
  | 1, ht1 => cases hy : tyXX c k <;> rw [hy] at ht1 <;> first | exact absurd (show false = true from ht1) (by decide) | rfl
  | 2, ht1 => cases hy : tyXX c k <;> rw [hy] at ht1 <;> first | exact absurd (show false = true from ht1) (by decide) | rfl
  | 3, ht1 => cases hy : tyXX c k <;> rw [hy] at ht1 <;> first | exact absurd (show false = true from ht1) (by decide) | rfl
  | n + 4, ht1 => exact absurd (show false = true from ht1) (by decide)
section WGn
variable {p : Program} {l : Launch} {e : Env} {R : Room} {s : State} {m : MethodId} {args : Array Value} {below : List Frame} {meth : Method} {c : Code} {Q : State → Prop} {B b sl : Nat} {sx : Nat → Int32} {D : va_G} {cA : Nat → ClassId} {cc : ByteArray} {own nL sz0 tt0 mc0 ms0 : Nat}
variable {pc : Nat} {K : LL} {r : List VV} {M : MM} {n : Int32}
theorem wg_new {ix q : Nat} (F : FR p s m args c B b sl sx D cA cc own nL) (hsz : s.heap.size = B + sz0) (hRc : mc0 ≤ R.cells) (hRs : ms0 ≤ R.slots) (hq : q < 11) (hcl : (Cond.classLink (cN own) ix (RXX q)) ∈ lw_good) (hins : (Cond.instantiable (RXX q) (nF q)) ∈ lw_good) (hini : (Cond.initialized (RXX q)) ∈ lw_good) (hd : decode cc pc = .ok (.new ix, 3)) (hc1 : (mS M).length + 1 ≤ sz0 + mc0) (hs1 : mT M + nF q ≤ tt0 + ms0)
    (kk : WG p l e R s m args below meth c Q B b D cA nL sz0 tt0 mc0 ms0 (pc + 3) K (vR (some (mS M).length) :: r) (mN M q (nF q))) : WG p l e R s m args below meth c Q B b D cA nL sz0 tt0 mc0 ms0 pc K r M := by
  obtain ⟨hx, hb, hml, hown, hts, hK, hX, hbl, hbB, hBs⟩ := F
  intro h0 h1 h2 h3 h4 H locs ls hR hS hl
  have hA : ∀ q : Nat, s.heap.size ≤ q → (fun q : Nat => B ≤ q) q := fun q hq => Nat.le_trans hBs hq
  refine va_new (fs := (List.range (nF q)).map (fun k => tv B b (rdF (mN M q (nF q)) q (mS M).length k))) hx hb hts (wsOk hq) (tyXX q) (tyOk q hq) hown (hts _ hcl) (hts _ hins) (hts _ hini) hK.1 hR mW_D hS hA (clOk q hq) (fun j hj => by rw [new_def (B := B) (b := b) (M := M) (n := nF q) hq hj]; simp [vp_V, hj]) (by omega) (by omega) hd fun a H1 hP1 hD1 hS1 => ?_
  refine W.sz fun hz => ?_
  have ha : a = B + (mS M).length := Rp.fresh hP1 hD1 (by omega)
  subst ha
  have hP2 : va_P D wCl (mW B b cA (mN M q (nF q))) H1 := by rw [mW_new, mE_obj hq]; exact hP1
  have := kk h0 (by rw [new_len]; omega) (by rw [new_len]; omega) (by rw [new_T]; omega) (by rw [new_T]; omega) H1 locs ls hP2 hS1 hl
  rw [new_len, new_T, show (mS M).length + 1 - sz0 = (mS M).length - sz0 + 1 by omega, show mT M + nF q - tt0 = mT M - tt0 + nF q by omega] at this
  exact this
theorem wg_newa {at0 : ArrayType} {t : Nat} (F : FR p s m args c B b sl sx D cA cc own nL) (hsz : s.heap.size = B + sz0) (hRc : mc0 ≤ R.cells) (hRs : ms0 ≤ R.slots) (ht : (at0 = .int ∧ t = 11) ∨ (at0 = .long ∧ t = 12) ∨ (at0 = .byte ∧ t = 13) ∨ (at0 = .boolean ∧ t = 14)) (hac : (Cond.arrayClass (newarray.typeOf at0)) ∈ lw_good) (hd : decode cc pc = .ok (.newarray at0, 2)) (hn : ¬ n < 0) (hn2 : n.toNatClampNeg ≤ 1000000) (hc1 : (mS M).length + 1 ≤ sz0 + mc0) (hs1 : mT M + n.toNatClampNeg ≤ tt0 + ms0)
    (kk : WG p l e R s m args below meth c Q B b D cA nL sz0 tt0 mc0 ms0 (pc + 2) K (vR (some (mS M).length) :: r) (mN M t n.toNatClampNeg)) : WG p l e R s m args below meth c Q B b D cA nL sz0 tt0 mc0 ms0 pc K (vI n :: r) M := by
  obtain ⟨hx, hb, hml, hown, hts, hK, hX, hbl, hbB, hBs⟩ := F
  intro h0 h1 h2 h3 h4 H locs ls hR hS hl
  have hA : ∀ q : Nat, s.heap.size ≤ q → (fun q : Nat => B ≤ q) q := fun q hq => Nat.le_trans hBs hq
  have fin : ∀ (a : Nat) (H1 : Heap) (x : va_E), va_P D wCl (mW B b cA M ++ [(a, x)]) H1 → va_D (fun q : Nat => B ≤ q) (mW B b cA M ++ [(a, x)]) → va_S (fun q : Nat => B ≤ q) s.heap H1 locs → x = mE B b cA (mN M t n.toNatClampNeg) (mS M).length (t, n.toNatClampNeg) →
      W p l e R s m args below meth c H1 locs ((mS M).length - sz0 + 1) (mT M - tt0 + n.toNatClampNeg) Q (F0 m (pc + 2) ls (.ref a :: r.map (tv B b))) := by
    intro a H1 x hP1 hD1 hS1 ex
    refine W.sz fun hz => ?_
    have ha : a = B + (mS M).length := Rp.fresh hP1 hD1 (by omega)
    subst ha
    have hP2 : va_P D wCl (mW B b cA (mN M t n.toNatClampNeg)) H1 := by rw [mW_new, ← ex]; exact hP1
    have := kk h0 (by rw [new_len]; omega) (by rw [new_len]; omega) (by rw [new_T]; omega) (by rw [new_T]; omega) H1 locs ls hP2 hS1 hl
    rw [new_len, new_T, show (mS M).length + 1 - sz0 = (mS M).length - sz0 + 1 by omega, show mT M + n.toNatClampNeg - tt0 = mT M - tt0 + n.toNatClampNeg by omega] at this
    exact this
  rcases ht with ⟨rfl, rfl⟩ | ⟨rfl, rfl⟩ | ⟨rfl, rfl⟩ | ⟨rfl, rfl⟩
  · refine va_newa (atype := .int) (a0 := (n.toNatClampNeg, .inl (fun _ => 0))) hx hb (hts _ hac) rfl hK.1 hR mW_D hS hA (fun _ => rfl) hn rfl (by show _ * 4 ≤ _; omega) (by omega) (by omega) hd fun a cA' H1 hK1 hP1 hD1 hS1 => ?_
    have e : cA' = cA 11 := Option.some.inj ((hK1.2 6 _ rfl).2.symm.trans (hK.1.2 0 _ rfl).2)
    subst e
    exact fin a H1 _ hP1 hD1 hS1 (by rw [mE_11, new_I])
  · refine va_newa (atype := .long) (a0 := (n.toNatClampNeg, .inr (.inl (fun _ => 0)))) hx hb (hts _ hac) rfl hK.1 hR mW_D hS hA (fun _ => rfl) hn rfl (by show _ * 8 ≤ _; omega) (by omega) (by omega) hd fun a cA' H1 hK1 hP1 hD1 hS1 => ?_
    have e : cA' = cA 12 := Option.some.inj ((hK1.2 6 _ rfl).2.symm.trans (hK.1.2 1 _ rfl).2)
    subst e
    exact fin a H1 _ hP1 hD1 hS1 (by rw [mE_12, new_L])
  · refine va_newa (atype := .byte) (a0 := (n.toNatClampNeg, .inl (fun _ => 0))) hx hb (hts _ hac) rfl hK.1 hR mW_D hS hA (fun _ => rfl) hn rfl (by show _ * 1 ≤ _; omega) (by omega) (by omega) hd fun a cA' H1 hK1 hP1 hD1 hS1 => ?_
    have e : cA' = cA 13 := Option.some.inj ((hK1.2 6 _ rfl).2.symm.trans (hK.1.2 2 _ rfl).2)
    subst e
    exact fin a H1 _ hP1 hD1 hS1 (by rw [mE_13, new_I])
  · refine va_newa (atype := .boolean) (a0 := (n.toNatClampNeg, .inl (fun _ => 0))) hx hb (hts _ hac) rfl hK.1 hR mW_D hS hA (fun _ => rfl) hn rfl (by show _ * 1 ≤ _; omega) (by omega) (by omega) hd fun a cA' H1 hK1 hP1 hD1 hS1 => ?_
    have e : cA' = cA 14 := Option.some.inj ((hK1.2 6 _ rfl).2.symm.trans (hK.1.2 3 _ rfl).2)
    subst e
    exact fin a H1 _ hP1 hD1 hS1 (by rw [mE_14, new_I])
theorem wg_newq {ix q : Nat} (F : FR p s m args c B b sl sx D cA cc own nL) (hsz : s.heap.size = B + sz0) (hRc : mc0 ≤ R.cells) (hRs : ms0 ≤ R.slots) (hq : q = 7 ∨ q = 8) (hcl : (Cond.classLink (cN own) ix (RXX q)) ∈ lw_good) (hd : decode cc pc = .ok (.anewarray ix, 3)) (hn : ¬ n < 0) (hn2 : n.toNatClampNeg ≤ 1000000) (hc1 : (mS M).length + 1 ≤ sz0 + mc0) (hs1 : mT M + n.toNatClampNeg ≤ tt0 + ms0)
    (kk : WG p l e R s m args below meth c Q B b D cA nL sz0 tt0 mc0 ms0 (pc + 3) K (vR (some (mS M).length) :: r) (mN M (q + 8) n.toNatClampNeg)) : WG p l e R s m args below meth c Q B b D cA nL sz0 tt0 mc0 ms0 pc K (vI n :: r) M := by
  obtain ⟨hx, hb, hml, hown, hts, hK, hX, hbl, hbB, hBs⟩ := F
  intro h0 h1 h2 h3 h4 H locs ls hR hS hl
  have hA : ∀ q : Nat, s.heap.size ≤ q → (fun q : Nat => B ≤ q) q := fun q hq => Nat.le_trans hBs hq
  have fin : ∀ (a : Nat) (H1 : Heap) (x : va_E), va_P D wCl (mW B b cA M ++ [(a, x)]) H1 → va_D (fun q : Nat => B ≤ q) (mW B b cA M ++ [(a, x)]) → va_S (fun q : Nat => B ≤ q) s.heap H1 locs → x = mE B b cA (mN M (q + 8) n.toNatClampNeg) (mS M).length (q + 8, n.toNatClampNeg) →
      W p l e R s m args below meth c H1 locs ((mS M).length - sz0 + 1) (mT M - tt0 + n.toNatClampNeg) Q (F0 m (pc + 3) ls (.ref a :: r.map (tv B b))) := by
    intro a H1 x hP1 hD1 hS1 ex
    refine W.sz fun hz => ?_
    have ha : a = B + (mS M).length := Rp.fresh hP1 hD1 (by omega)
    subst ha
    have hP2 : va_P D wCl (mW B b cA (mN M (q + 8) n.toNatClampNeg)) H1 := by rw [mW_new, ← ex]; exact hP1
    have := kk h0 (by rw [new_len]; omega) (by rw [new_len]; omega) (by rw [new_T]; omega) (by rw [new_T]; omega) H1 locs ls hP2 hS1 hl
    rw [new_len, new_T, show (mS M).length + 1 - sz0 = (mS M).length - sz0 + 1 by omega, show mT M + n.toNatClampNeg - tt0 = mT M - tt0 + n.toNatClampNeg by omega] at this
    exact this
  have same : ∀ {C : String} {u v : ClassId}, va_RA s u (.object C) → va_RA s v (.object C) → u = v := by
    intro C u v h1 h2
    obtain ⟨_, _, _, _, _, e1⟩ := h1
    obtain ⟨_, _, _, _, _, e2⟩ := h2
    exact Option.some.inj (e1.symm.trans e2)
  rcases hq with rfl | rfl
  · refine va_newq hx hb hown (hts _ hcl) hK.2.2.1 hK.1 hR mW_D hS hA hn rfl (by omega) (by omega) (by omega) hd fun a cA' H1 hK1 hP1 hD1 hS1 => ?_
    have e : cA' = cA 15 := same (hK1.2 6 _ rfl).2 (hK.1.2 4 _ rfl).2
    subst e
    exact fin a H1 _ hP1 hD1 hS1 (by rw [mE_15, new_R]; rfl)
  · refine va_newq hx hb hown (hts _ hcl) hK.2.2.2 hK.1 hR mW_D hS hA hn rfl (by omega) (by omega) (by omega) hd fun a cA' H1 hK1 hP1 hD1 hS1 => ?_
    have e : cA' = cA 16 := same (hK1.2 6 _ rfl).2 (hK.1.2 5 _ rfl).2
    subst e
    exact fin a H1 _ hP1 hD1 hS1 (by rw [mE_16, new_R]; rfl)
end WGn
