/-! ===== reading and writing fields ===== -/
theorem mE_obj {B b : Nat} {cA : Nat → ClassId} {M : MM} {o c n : Nat} (hc : c < 11) : mE B b cA M o (c, n) = .inr (c, (List.range n).map (fun k => tv B b (rdF M c o k))) := by
  unfold mE
  simp [hc]
theorem put_mW {B b : Nat} {cA : Nat → ClassId} {M M' : MM} {c o k : Nat} {v : VV} (hc : c < 11) (ho : kd M o c) (hM : mS M' = mS M) (hne : ∀ a, a ≠ o → ∀ r, mE B b cA M' a r = mE B b cA M a r) (hk : rdF M' c o k = v) (hj : ∀ j, j ≠ k → rdF M' c o j = rdF M c o j) :
    (mW B b cA M).set o (B + o, .inr (c, ((List.range (nF c)).map (fun j => tv B b (rdF M c o j))).set k (tv B b v))) = mW B b cA M' := by
  refine mW_set (q := (c, nF c)) hM ho ?_ hne
  rw [mE_obj hc, rg_set (g := fun j => tv B b (rdF M' c o j)) (by rw [hk]) (fun j hj' => by rw [hj j hj'])]
theorem rdF_0 {M : MM} {c o k : Nat} (h : fT c k = 0) : rdF M c o k = vI (mI M o k) := by unfold rdF; rw [h]; rfl
theorem rdF_1 {M : MM} {c o k : Nat} (h : fT c k = 1) : rdF M c o k = vL (mL M o k) := by unfold rdF; rw [h]; rfl
theorem rdF_2 {M : MM} {c o k : Nat} (h : fT c k = 2) : rdF M c o k = vR (mR M o k) := by unfold rdF; rw [h]; rfl
theorem rdF_3 {M : MM} {c o k : Nat} (h : fT c k = 3) : rdF M c o k = vI (mI M o k) := by unfold rdF; rw [h]; rfl
theorem mI_sI (M : MM) (o k : Nat) (v : Int32) : mI (sI M o k v) o k = v := by unfold mI sI up2; simp
theorem mL_sL (M : MM) (o k : Nat) (v : Int64) : mL (sL M o k v) o k = v := by unfold mL sL up2; simp
theorem mR_sR (M : MM) (o k : Nat) (v : Option Nat) : mR (sR M o k v) o k = v := by unfold mR sR up2; simp
theorem wrF_spec {B b : Nat} {cA : Nat → ClassId} {M : MM} {c o k : Nat} {v : VV} {kk : MM → Prop} (hc : c < 11) (hk : k < nF c) (h : wrF M c o k v kk) :
    ∃ M', kk M' ∧ mS M' = mS M ∧ mT M' = mT M ∧ (∀ a, a ≠ o → ∀ r, mE B b cA M' a r = mE B b cA M a r) ∧ rdF M' c o k = v ∧ (∀ j, j ≠ k → rdF M' c o j = rdF M c o j) ∧ narrow (tyXX c k) (tv B b v) = tv B b v ∧ fits (tyXX c k) (tv B b v) = true := by
  have ht := tyChk_of hc hk
  unfold tyChk at ht
  rw [Bool.and_eq_true] at ht
  have ht1 := ht.1
  unfold wrF at h
  generalize hf : fT c k = f at h ht1
  match f, hf, h, ht1 with
  | 0, hf, h, ht1 =>
    rcases v with x | x | x | x
    · refine ⟨_, h, rfl, rfl, fun a ha r => mE_sI a ha r, ?_, fun j hj => rdF_sI (Or.inr hj), ?_⟩
      · rw [rdF_0 hf, mI_sI]
      · cases hy : tyXX c k <;> rw [hy] at ht1 <;> first | exact absurd (show false = true from ht1) (by decide) | exact ⟨rfl, rfl⟩
    · cases h
    · cases h
    · cases h
  | 1, hf, h, ht1 =>
    rcases v with x | x | x | x
    · cases h
    · refine ⟨_, h, rfl, rfl, fun a ha r => mE_sL a ha r, ?_, fun j hj => rdF_sL (Or.inr hj), ?_⟩
      · rw [rdF_1 hf, mL_sL]
      · cases hy : tyXX c k <;> rw [hy] at ht1 <;> first | exact absurd (show false = true from ht1) (by decide) | exact ⟨rfl, rfl⟩
    · cases h
    · cases h
  | 2, hf, h, ht1 =>
    rcases v with x | x | x | x
    · cases h
    · cases h
    · refine ⟨_, h, rfl, rfl, fun a ha r => mE_sR a ha r, ?_, fun j hj => rdF_sR (Or.inr hj), ?_⟩
      · rw [rdF_2 hf, mR_sR]
      · cases hy : tyXX c k <;> rw [hy] at ht1 <;> first | exact absurd (show false = true from ht1) (by decide) | (cases x <;> exact ⟨rfl, rfl⟩)
    · cases h
  | 3, hf, h, ht1 =>
    rcases v with x | x | x | x
    · refine ⟨_, h.2, rfl, rfl, fun a ha r => mE_sI a ha r, ?_, fun j hj => rdF_sI (Or.inr hj), ?_⟩
      · rw [rdF_3 hf, mI_sI]
      · cases hy : tyXX c k <;> rw [hy] at ht1 <;> first | exact absurd (show false = true from ht1) (by decide) | (rcases h.1 with rfl | rfl <;> exact ⟨rfl, rfl⟩)
    · cases h
    · cases h
    · cases h
  | n + 4, hf, h, ht1 => cases h
section WGf
variable {p : Program} {l : Launch} {e : Env} {R : Room} {s : State} {m : MethodId} {args : Array Value} {below : List Frame} {meth : Method} {c : Code} {Q : State → Prop} {B b sl : Nat} {sx : Nat → Int32} {D : va_G} {cA : Nat → ClassId} {cc : ByteArray} {own nL sz0 tt0 mc0 ms0 : Nat}
theorem wg_get {pc ix q k o : Nat} {K : LL} {r : List VV} {M : MM} (F : FR p s m args c B b sl sx D cA cc own nL) (hq : q < 11) (hk : k < nF q) (hlink : (Cond.fieldLink (cN own) ix (TXX q k).1 (TXX q k).2.1 (TXX q k).2.2.1) ∈ lw_good) (hd : decode cc pc = .ok (.getfield ix, 3)) (ho : kd M o q)
    (kk : WG p l e R s m args below meth c Q B b D cA nL sz0 tt0 mc0 ms0 (pc + 3) K (rdF M q o k :: r) M) : WG p l e R s m args below meth c Q B b D cA nL sz0 tt0 mc0 ms0 pc K (vR (some o) :: r) M := by
  obtain ⟨hx, hb, hml, hown, hts, hK, hX, hbl, hbB, hBs⟩ := F
  intro h0 h1 h2 h3 h4 H locs ls hR hS hl
  have he : (mW B b cA M)[o]? = some (B + o, .inr (q, (List.range (nF q)).map (fun k => tv B b (rdF M q o k)))) := by rw [mW_at ho, mE_obj hq]
  exact va_get hx hb hts (wsOk hq) hown hK.1 hR o he (clOk q hq) k hk (hts _ hlink) (fun x h => h) (v := tv B b (rdF M q o k)) (by simp [hk]) hd (kk h0 h1 h2 h3 h4 H locs ls hR hS hl)
theorem wg_getN {pc ix q k o : Nat} {K : LL} {r : List VV} {M : MM} (F : FR p s m args c B b sl sx D cA cc own nL) (hq : q < 11) (hk : k < nF q) (hlink : (Cond.fieldLinkNest (cN own) ix (TXX q k).1 (TXX q k).2.1 (TXX q k).2.2.1 "TwoLeash") ∈ lw_tbl) (hd : decode cc pc = .ok (.getfield ix, 3)) (ho : kd M o q)
    (kk : WG p l e R s m args below meth c Q B b D cA nL sz0 tt0 mc0 ms0 (pc + 3) K (rdF M q o k :: r) M) : WG p l e R s m args below meth c Q B b D cA nL sz0 tt0 mc0 ms0 pc K (vR (some o) :: r) M := by
  obtain ⟨hx, hb, hml, hown, hts, hK, hX, hbl, hbB, hBs⟩ := F
  intro h0 h1 h2 h3 h4 H locs ls hR hS hl
  have he : (mW B b cA M)[o]? = some (B + o, .inr (q, (List.range (nF q)).map (fun k => tv B b (rdF M q o k)))) := by rw [mW_at ho, mE_obj hq]
  exact va_getN hx hb hts (wsOk hq) hown hK.1 hR o he (clOk q hq) k hk (va_Nw.use rfl (hK.2.1 _ hlink rfl)) (fun x h => h) (v := tv B b (rdF M q o k)) (by simp [hk]) hd (kk h0 h1 h2 h3 h4 H locs ls hR hS hl)
theorem fin_of {q k : Nat} (hq : q < 11) (hk : k < nF q) : fFin q k = (TXX q k).2.2.2 ∧ (TXX q k).1 = cN q := by
  have ht := tyChk_of hq hk
  unfold tyChk at ht
  simp only [Bool.and_eq_true, decide_eq_true_eq] at ht
  exact ⟨ht.2.1, ht.2.2.1⟩
theorem wg_put {pc ix q k o : Nat} {K : LL} {r : List VV} {v : VV} {M : MM} (F : FR p s m args c B b sl sx D cA cc own nL) (hq : q < 11) (hk : k < nF q) (hfin : fFin q k = false) (hlink : (Cond.fieldLink (cN own) ix (TXX q k).1 (TXX q k).2.1 (TXX q k).2.2.1) ∈ lw_good) (hd : decode cc pc = .ok (.putfield ix, 3)) (ho : kd M o q)
    (kk : wrF M q o k v (fun M' => WG p l e R s m args below meth c Q B b D cA nL sz0 tt0 mc0 ms0 (pc + 3) K r M')) : WG p l e R s m args below meth c Q B b D cA nL sz0 tt0 mc0 ms0 pc K (v :: vR (some o) :: r) M := by
  obtain ⟨hx, hb, hml, hown, hts, hK, hX, hbl, hbB, hBs⟩ := F
  obtain ⟨M', kk, e1, e2, e3, e4, e5, e6, e7⟩ := wrF_spec (B := B) (b := b) (cA := cA) hq hk kk
  intro h0 h1 h2 h3 h4 H locs ls hR hS hl
  have he : (mW B b cA M)[o]? = some (B + o, .inr (q, (List.range (nF q)).map (fun k => tv B b (rdF M q o k)))) := by rw [mW_at ho, mE_obj hq]
  refine va_put hx hb hts (wsOk hq) (tyXX q) (tyOk q hq) (nmOk q hq) hown hK.1 hR mW_D hS o he (clOk q hq) k hk (hts _ hlink) (fun x h => h) (by rw [← (fin_of hq hk).1]; exact hfin) (tyOk q hq k hk) e6 e7 (by simp [hk]) hd fun H1 locs1 hP1 _ hS1 => ?_
  rw [put_mW hq ho e1 e3 e4 e5] at hP1
  have := kk h0 (by rw [e1]; exact h1) (by rw [e1]; exact h2) (by rw [e2]; exact h3) (by rw [e2]; exact h4) H1 locs1 ls hP1 hS1 hl
  rw [e1, e2] at this
  exact this
theorem wg_putN {pc ix q k o : Nat} {K : LL} {r : List VV} {v : VV} {M : MM} (F : FR p s m args c B b sl sx D cA cc own nL) (hq : q < 11) (hk : k < nF q) (hfin : fFin q k = false) (hlink : (Cond.fieldLinkNest (cN own) ix (TXX q k).1 (TXX q k).2.1 (TXX q k).2.2.1 "TwoLeash") ∈ lw_tbl) (hd : decode cc pc = .ok (.putfield ix, 3)) (ho : kd M o q)
    (kk : wrF M q o k v (fun M' => WG p l e R s m args below meth c Q B b D cA nL sz0 tt0 mc0 ms0 (pc + 3) K r M')) : WG p l e R s m args below meth c Q B b D cA nL sz0 tt0 mc0 ms0 pc K (v :: vR (some o) :: r) M := by
  obtain ⟨hx, hb, hml, hown, hts, hK, hX, hbl, hbB, hBs⟩ := F
  obtain ⟨M', kk, e1, e2, e3, e4, e5, e6, e7⟩ := wrF_spec (B := B) (b := b) (cA := cA) hq hk kk
  intro h0 h1 h2 h3 h4 H locs ls hR hS hl
  have he : (mW B b cA M)[o]? = some (B + o, .inr (q, (List.range (nF q)).map (fun k => tv B b (rdF M q o k)))) := by rw [mW_at ho, mE_obj hq]
  refine va_putN hx hb hts (wsOk hq) (tyXX q) (tyOk q hq) (nmOk q hq) hown hK.1 hR mW_D hS o he (clOk q hq) k hk (va_Nw.use rfl (hK.2.1 _ hlink rfl)) (fun x h => h) (by rw [← (fin_of hq hk).1]; exact hfin) (tyOk q hq k hk) e6 e7 (by simp [hk]) hd fun H1 locs1 hP1 _ hS1 => ?_
  rw [put_mW hq ho e1 e3 e4 e5] at hP1
  have := kk h0 (by rw [e1]; exact h1) (by rw [e1]; exact h2) (by rw [e2]; exact h3) (by rw [e2]; exact h4) H1 locs1 ls hP1 hS1 hl
  rw [e1, e2] at this
  exact this
theorem wg_putF {pc ix q k o : Nat} {K : LL} {r : List VV} {v : VV} {M : MM} (F : FR p s m args c B b sl sx D cA cc own nL) (hq : q < 11) (hk : k < nF q) (hfin : fFin q k = true) (hin : meth.name = "<init>") (hoq : own = q) (hlink : (Cond.fieldLink (cN own) ix (TXX q k).1 (TXX q k).2.1 (TXX q k).2.2.1) ∈ lw_good) (hd : decode cc pc = .ok (.putfield ix, 3)) (ho : kd M o q)
    (kk : wrF M q o k v (fun M' => WG p l e R s m args below meth c Q B b D cA nL sz0 tt0 mc0 ms0 (pc + 3) K r M')) : WG p l e R s m args below meth c Q B b D cA nL sz0 tt0 mc0 ms0 pc K (v :: vR (some o) :: r) M := by
  obtain ⟨hx, hb, hml, hown, hts, hK, hX, hbl, hbB, hBs⟩ := F
  obtain ⟨M', kk, e1, e2, e3, e4, e5, e6, e7⟩ := wrF_spec (B := B) (b := b) (cA := cA) hq hk kk
  intro h0 h1 h2 h3 h4 H locs ls hR hS hl
  have he : (mW B b cA M)[o]? = some (B + o, .inr (q, (List.range (nF q)).map (fun k => tv B b (rdF M q o k)))) := by rw [mW_at ho, mE_obj hq]
  refine va_putF hx hb hts (wsOk hq) (tyXX q) (tyOk q hq) (nmOk q hq) hown hK.1 hR mW_D hS o he (clOk q hq) k hk (hts _ hlink) (fun x h => h) (by rw [← (fin_of hq hk).1]; exact hfin) hin (by rw [hoq]; exact (fin_of hq hk).2) (tyOk q hq k hk) e6 e7 (by simp [hk]) hd fun H1 locs1 hP1 _ hS1 => ?_
  rw [put_mW hq ho e1 e3 e4 e5] at hP1
  have := kk h0 (by rw [e1]; exact h1) (by rw [e1]; exact h2) (by rw [e2]; exact h3) (by rw [e2]; exact h4) H1 locs1 ls hP1 hS1 hl
  rw [e1, e2] at this
  exact this
end WGf
