/-! ===== arrays, new objects ===== -/
theorem mE_11 {B b : Nat} {cA : Nat → ClassId} {M : MM} {o n : Nat} : mE B b cA M o (11, n) = .inl (cA 11, n, .inl (mI M o)) := by unfold mE; simp
theorem mE_12 {B b : Nat} {cA : Nat → ClassId} {M : MM} {o n : Nat} : mE B b cA M o (12, n) = .inl (cA 12, n, .inr (.inl (mL M o))) := by unfold mE; simp
theorem mE_13 {B b : Nat} {cA : Nat → ClassId} {M : MM} {o n : Nat} : mE B b cA M o (13, n) = .inl (cA 13, n, .inl (mI M o)) := by unfold mE; simp
theorem mE_14 {B b : Nat} {cA : Nat → ClassId} {M : MM} {o n : Nat} : mE B b cA M o (14, n) = .inl (cA 14, n, .inl (mI M o)) := by unfold mE; simp
theorem mE_15 {B b : Nat} {cA : Nat → ClassId} {M : MM} {o n : Nat} : mE B b cA M o (15, n) = .inl (cA 15, n, .inr (.inr (.inr (.inr (fun j => (mR M o j).map (fun a => B + a)))))) := by unfold mE; simp
theorem mE_16 {B b : Nat} {cA : Nat → ClassId} {M : MM} {o n : Nat} : mE B b cA M o (16, n) = .inl (cA 16, n, .inr (.inr (.inr (.inr (fun j => (mR M o j).map (fun a => B + a)))))) := by unfold mE; simp
theorem row_sI {M : MM} {o k : Nat} {v : Int32} : mI (sI M o k v) o = upd (mI M o) k v := by
  funext j
  unfold mI sI up2 upd
  simp
theorem row_sL {M : MM} {o k : Nat} {v : Int64} : mL (sL M o k v) o = vp_updL (mL M o) k v := by
  funext j
  unfold mL sL up2 vp_updL
  simp
theorem row_sR {B : Nat} {M : MM} {o k v : Nat} : (fun j => (mR (sR M o k (some v)) o j).map (fun a => B + a)) = va_up (fun j => (mR M o j).map (fun a => B + a)) k (some (B + v)) := by
  funext j
  unfold mR sR up2 va_up
  by_cases hj : j = k <;> simp [hj]
section WGa
variable {p : Program} {l : Launch} {e : Env} {R : Room} {s : State} {m : MethodId} {args : Array Value} {below : List Frame} {meth : Method} {c : Code} {Q : State → Prop} {B b sl : Nat} {sx : Nat → Int32} {D : va_G} {cA : Nat → ClassId} {cc : ByteArray} {own nL sz0 tt0 mc0 ms0 : Nat}
variable {pc o : Nat} {K : LL} {r : List VV} {M : MM} {j : Int32}
theorem wg_iald (F : FR p s m args c B b sl sx D cA cc own nL) (hin : inb M o 11 j) (hd : decode cc pc = .ok (.iaload, 1))
    (kk : WG p l e R s m args below meth c Q B b D cA nL sz0 tt0 mc0 ms0 (pc + 1) K (vI (mI M o j.toNatClampNeg) :: r) M) : WG p l e R s m args below meth c Q B b D cA nL sz0 tt0 mc0 ms0 pc K (vI j :: vR (some o) :: r) M := by
  obtain ⟨hx, hb, hml, hown, hts, hK, hX, hbl, hbB, hBs⟩ := F
  obtain ⟨n, ho, hj⟩ := hin
  intro h0 h1 h2 h3 h4 H locs ls hR hS hl
  exact va_iald hx hb hK.1 hR o 0 (by rw [mW_at ho, mE_11]) rfl hj hd (kk h0 h1 h2 h3 h4 H locs ls hR hS hl)
theorem wg_sld (F : FR p s m args c B b sl sx D cA cc own nL) (hin : vp_in j sl) (hd : decode cc pc = .ok (.iaload, 1))
    (kk : WG p l e R s m args below meth c Q B b D cA nL sz0 tt0 mc0 ms0 (pc + 1) K (vI (sx j.toNatClampNeg) :: r) M) : WG p l e R s m args below meth c Q B b D cA nL sz0 tt0 mc0 ms0 pc K (vI j :: vS :: r) M := by
  obtain ⟨hx, hb, hml, hown, hts, hK, hX, hbl, hbB, hBs⟩ := F
  intro h0 h1 h2 h3 h4 H locs ls hR hS hl
  exact va_sld hx hb hX hbl (A := fun q : Nat => B ≤ q) (Nat.not_le.mpr hbB) hS hin hd (kk h0 h1 h2 h3 h4 H locs ls hR hS hl)
theorem wg_slen (F : FR p s m args c B b sl sx D cA cc own nL) (hd : decode cc pc = .ok (.arraylength, 1))
    (kk : WG p l e R s m args below meth c Q B b D cA nL sz0 tt0 mc0 ms0 (pc + 1) K (vI (Int32.ofNat sl) :: r) M) : WG p l e R s m args below meth c Q B b D cA nL sz0 tt0 mc0 ms0 pc K (vS :: r) M := by
  obtain ⟨hx, hb, hml, hown, hts, hK, hX, hbl, hbB, hBs⟩ := F
  intro h0 h1 h2 h3 h4 H locs ls hR hS hl
  exact va_slen hx hb hX hbl (A := fun q : Nat => B ≤ q) (Nat.not_le.mpr hbB) hS hd (kk h0 h1 h2 h3 h4 H locs ls hR hS hl)
theorem wg_lald (F : FR p s m args c B b sl sx D cA cc own nL) (hin : inb M o 12 j) (hd : decode cc pc = .ok (.laload, 1))
    (kk : WG p l e R s m args below meth c Q B b D cA nL sz0 tt0 mc0 ms0 (pc + 1) K (vL (mL M o j.toNatClampNeg) :: r) M) : WG p l e R s m args below meth c Q B b D cA nL sz0 tt0 mc0 ms0 pc K (vI j :: vR (some o) :: r) M := by
  obtain ⟨hx, hb, hml, hown, hts, hK, hX, hbl, hbB, hBs⟩ := F
  obtain ⟨n, ho, hj⟩ := hin
  intro h0 h1 h2 h3 h4 H locs ls hR hS hl
  exact va_lald hx hb hK.1 hR o 1 (by rw [mW_at ho, mE_12]) rfl hj hd (kk h0 h1 h2 h3 h4 H locs ls hR hS hl)
theorem wg_bald {t : Nat} (F : FR p s m args c B b sl sx D cA cc own nL) (ht : t = 13 ∨ t = 14) (hin : inb M o t j) (hd : decode cc pc = .ok (.baload, 1))
    (kk : WG p l e R s m args below meth c Q B b D cA nL sz0 tt0 mc0 ms0 (pc + 1) K (vI (mI M o j.toNatClampNeg) :: r) M) : WG p l e R s m args below meth c Q B b D cA nL sz0 tt0 mc0 ms0 pc K (vI j :: vR (some o) :: r) M := by
  obtain ⟨hx, hb, hml, hown, hts, hK, hX, hbl, hbB, hBs⟩ := F
  obtain ⟨n, ho, hj⟩ := hin
  intro h0 h1 h2 h3 h4 H locs ls hR hS hl
  rcases ht with rfl | rfl
  · exact va_bald hx hb hK.1 hR o 2 (by rw [mW_at ho, mE_13]) rfl hj hd (kk h0 h1 h2 h3 h4 H locs ls hR hS hl)
  · exact va_zald hx hb hK.1 hR o 3 (by rw [mW_at ho, mE_14]) rfl hj hd (kk h0 h1 h2 h3 h4 H locs ls hR hS hl)
theorem wg_aald {t : Nat} (F : FR p s m args c B b sl sx D cA cc own nL) (ht : t = 15 ∨ t = 16) (hin : inb M o t j) (hd : decode cc pc = .ok (.aaload, 1))
    (kk : WG p l e R s m args below meth c Q B b D cA nL sz0 tt0 mc0 ms0 (pc + 1) K (vR (mR M o j.toNatClampNeg) :: r) M) : WG p l e R s m args below meth c Q B b D cA nL sz0 tt0 mc0 ms0 pc K (vI j :: vR (some o) :: r) M := by
  obtain ⟨hx, hb, hml, hown, hts, hK, hX, hbl, hbB, hBs⟩ := F
  obtain ⟨n, ho, hj⟩ := hin
  intro h0 h1 h2 h3 h4 H locs ls hR hS hl
  rcases ht with rfl | rfl
  · exact va_aldq (f := fun j => (mR M o j).map (fun a => B + a)) hx hb hK.1 hR o 4 (by rw [mW_at ho, mE_15]) rfl hj hd (kk h0 h1 h2 h3 h4 H locs ls hR hS hl)
  · exact va_aldq (f := fun j => (mR M o j).map (fun a => B + a)) hx hb hK.1 hR o 5 (by rw [mW_at ho, mE_16]) rfl hj hd (kk h0 h1 h2 h3 h4 H locs ls hR hS hl)
theorem wg_iast {x : Int32} (F : FR p s m args c B b sl sx D cA cc own nL) (hin : inb M o 11 j) (hd : decode cc pc = .ok (.iastore, 1))
    (kk : WG p l e R s m args below meth c Q B b D cA nL sz0 tt0 mc0 ms0 (pc + 1) K r (sI M o j.toNatClampNeg x)) : WG p l e R s m args below meth c Q B b D cA nL sz0 tt0 mc0 ms0 pc K (vI x :: vI j :: vR (some o) :: r) M := by
  obtain ⟨hx, hb, hml, hown, hts, hK, hX, hbl, hbB, hBs⟩ := F
  obtain ⟨n, ho, hj⟩ := hin
  intro h0 h1 h2 h3 h4 H locs ls hR hS hl
  refine va_iast hx hb hK.1 hR mW_D hS o 0 (by rw [mW_at ho, mE_11]) rfl hj hd fun H1 locs1 hP1 _ hS1 => ?_
  have hP1 : va_P D wCl (mW B b cA (sI M o j.toNatClampNeg x)) H1 := by rw [← mW_set (M := M) (M' := sI M o j.toNatClampNeg x) (q := (11, n)) (x := .inl (cA 11, n, .inl (upd (mI M o) j.toNatClampNeg x))) rfl ho (by rw [mE_11, row_sI]) (fun a ha q => mE_sI a ha q)]; exact hP1
  exact kk h0 h1 h2 h3 h4 H1 locs1 ls hP1 hS1 hl
theorem wg_last {x : Int64} (F : FR p s m args c B b sl sx D cA cc own nL) (hin : inb M o 12 j) (hd : decode cc pc = .ok (.lastore, 1))
    (kk : WG p l e R s m args below meth c Q B b D cA nL sz0 tt0 mc0 ms0 (pc + 1) K r (sL M o j.toNatClampNeg x)) : WG p l e R s m args below meth c Q B b D cA nL sz0 tt0 mc0 ms0 pc K (vL x :: vI j :: vR (some o) :: r) M := by
  obtain ⟨hx, hb, hml, hown, hts, hK, hX, hbl, hbB, hBs⟩ := F
  obtain ⟨n, ho, hj⟩ := hin
  intro h0 h1 h2 h3 h4 H locs ls hR hS hl
  refine va_last hx hb hK.1 hR mW_D hS o 1 (by rw [mW_at ho, mE_12]) rfl hj hd fun H1 locs1 hP1 _ hS1 => ?_
  have hP1 : va_P D wCl (mW B b cA (sL M o j.toNatClampNeg x)) H1 := by rw [← mW_set (M := M) (M' := sL M o j.toNatClampNeg x) (q := (12, n)) (x := .inl (cA 12, n, .inr (.inl (vp_updL (mL M o) j.toNatClampNeg x)))) rfl ho (by rw [mE_12, row_sL]) (fun a ha q => mE_sL a ha q)]; exact hP1
  exact kk h0 h1 h2 h3 h4 H1 locs1 ls hP1 hS1 hl
theorem wg_bast {x : Int32} (F : FR p s m args c B b sl sx D cA cc own nL) (hin : inb M o 13 j) (hd : decode cc pc = .ok (.bastore, 1))
    (kk : WG p l e R s m args below meth c Q B b D cA nL sz0 tt0 mc0 ms0 (pc + 1) K r (sI M o j.toNatClampNeg x.toInt8.toInt32)) : WG p l e R s m args below meth c Q B b D cA nL sz0 tt0 mc0 ms0 pc K (vI x :: vI j :: vR (some o) :: r) M := by
  obtain ⟨hx, hb, hml, hown, hts, hK, hX, hbl, hbB, hBs⟩ := F
  obtain ⟨n, ho, hj⟩ := hin
  intro h0 h1 h2 h3 h4 H locs ls hR hS hl
  refine va_bast hx hb hK.1 hR mW_D hS o 2 (by rw [mW_at ho, mE_13]) rfl hj hd fun H1 locs1 hP1 _ hS1 => ?_
  have hP1 : va_P D wCl (mW B b cA (sI M o j.toNatClampNeg x.toInt8.toInt32)) H1 := by rw [← mW_set (M := M) (M' := sI M o j.toNatClampNeg x.toInt8.toInt32) (q := (13, n)) (x := .inl (cA 13, n, .inl (upd (mI M o) j.toNatClampNeg (vp_nar .byte x)))) rfl ho (by rw [mE_13, row_sI, vp_nar_byte]) (fun a ha q => mE_sI a ha q)]; exact hP1
  exact kk h0 h1 h2 h3 h4 H1 locs1 ls hP1 hS1 hl
theorem wg_zast {x : Int32} (F : FR p s m args c B b sl sx D cA cc own nL) (hin : inb M o 14 j) (hd : decode cc pc = .ok (.bastore, 1))
    (kk : WG p l e R s m args below meth c Q B b D cA nL sz0 tt0 mc0 ms0 (pc + 1) K r (sI M o j.toNatClampNeg (x &&& 1))) : WG p l e R s m args below meth c Q B b D cA nL sz0 tt0 mc0 ms0 pc K (vI x :: vI j :: vR (some o) :: r) M := by
  obtain ⟨hx, hb, hml, hown, hts, hK, hX, hbl, hbB, hBs⟩ := F
  obtain ⟨n, ho, hj⟩ := hin
  intro h0 h1 h2 h3 h4 H locs ls hR hS hl
  refine va_zast hx hb hK.1 hR mW_D hS o 3 (by rw [mW_at ho, mE_14]) rfl hj hd fun H1 locs1 hP1 _ hS1 => ?_
  have hP1 : va_P D wCl (mW B b cA (sI M o j.toNatClampNeg (x &&& 1))) H1 := by rw [← mW_set (M := M) (M' := sI M o j.toNatClampNeg (x &&& 1)) (q := (14, n)) (x := .inl (cA 14, n, .inl (upd (mI M o) j.toNatClampNeg (vp_nar .boolean x)))) rfl ho (by rw [mE_14, row_sI]; rfl) (fun a ha q => mE_sI a ha q)]; exact hP1
  exact kk h0 h1 h2 h3 h4 H1 locs1 ls hP1 hS1 hl
theorem wg_aast {t v : Nat} (F : FR p s m args c B b sl sx D cA cc own nL) (ht : t = 15 ∨ t = 16) (hin : inb M o t j) (hv : kd M v (t - 8)) (hd : decode cc pc = .ok (.aastore, 1))
    (kk : WG p l e R s m args below meth c Q B b D cA nL sz0 tt0 mc0 ms0 (pc + 1) K r (sR M o j.toNatClampNeg (some v))) : WG p l e R s m args below meth c Q B b D cA nL sz0 tt0 mc0 ms0 pc K (vR (some v) :: vI j :: vR (some o) :: r) M := by
  obtain ⟨hx, hb, hml, hown, hts, hK, hX, hbl, hbB, hBs⟩ := F
  obtain ⟨n, ho, hj⟩ := hin
  intro h0 h1 h2 h3 h4 H locs ls hR hS hl
  rcases ht with rfl | rfl
  · refine va_astq hx hb hK.1 hR mW_D hS o 4 v 7 (r := (RXX 7, TXX 7, nF 7)) (by rw [mW_at ho, mE_15]) rfl (by rw [mW_at hv, mE_obj (by decide)]) (clOk 7 (by decide)) hj hd fun H1 locs1 hP1 _ hS1 => ?_
    have hP1 : va_P D wCl (mW B b cA (sR M o j.toNatClampNeg (some v))) H1 := by rw [← mW_set (M := M) (M' := sR M o j.toNatClampNeg (some v)) (q := (15, n)) (x := .inl (cA 15, n, .inr (.inr (.inr (.inr (va_up (fun j => (mR M o j).map (fun a => B + a)) j.toNatClampNeg (some (B + v)))))))) rfl ho (by rw [mE_15, row_sR]) (fun a ha q => mE_sR a ha q)]; exact hP1
    exact kk h0 h1 h2 h3 h4 H1 locs1 ls hP1 hS1 hl
  · refine va_astq hx hb hK.1 hR mW_D hS o 5 v 8 (r := (RXX 8, TXX 8, nF 8)) (by rw [mW_at ho, mE_16]) rfl (by rw [mW_at hv, mE_obj (by decide)]) (clOk 8 (by decide)) hj hd fun H1 locs1 hP1 _ hS1 => ?_
    have hP1 : va_P D wCl (mW B b cA (sR M o j.toNatClampNeg (some v))) H1 := by rw [← mW_set (M := M) (M' := sR M o j.toNatClampNeg (some v)) (q := (16, n)) (x := .inl (cA 16, n, .inr (.inr (.inr (.inr (va_up (fun j => (mR M o j).map (fun a => B + a)) j.toNatClampNeg (some (B + v)))))))) rfl ho (by rw [mE_16, row_sR]) (fun a ha q => mE_sR a ha q)]; exact hP1
    exact kk h0 h1 h2 h3 h4 H1 locs1 ls hP1 hS1 hl
end WGa
