/-! ===== one step of the small machine is steps of the machine: every instruction ===== -/
section SOK
variable {p : Program} {l : Launch} {e : Env} {R : Room} {s : State} {m : MethodId} {args : Array Value} {below : List Frame} {meth : Method} {c : Code} {Q : State → Prop} {B b sl : Nat} {sx : Nat → Int32} {D : va_G} {cA : Nat → ClassId} {cc : ByteArray} {own nL sz0 tt0 mc0 ms0 : Nat}
variable {cw : Nat → List VV → MM → (Option VV → MM → Prop) → Prop} {nx : Nat → LL → List VV → MM → Prop} {rt : Option VV → MM → Prop}
theorem wrF_mono {M : MM} {q o k : Nat} {v : VV} {f g : MM → Prop} (h : ∀ M', f M' → g M') (hf : wrF M q o k v f) : wrF M q o k v g := by
  unfold wrF at hf ⊢
  generalize fT q k = t at hf ⊢
  match t, hf with
  | 0, hf =>
    rcases v with x | x | x | x
    · exact h _ hf
    · cases hf
    · cases hf
    · cases hf
  | 1, hf =>
    rcases v with x | x | x | x
    · cases hf
    · exact h _ hf
    · cases hf
    · cases hf
  | 2, hf =>
    rcases v with x | x | x | x
    · cases hf
    · cases hf
    · exact h _ hf
    · cases hf
  | 3, hf =>
    rcases v with x | x | x | x
    · exact ⟨hf.1, h _ hf.2⟩
    · cases hf
    · cases hf
    · cases hf
  | n + 4, hf => cases hf
theorem and_eq {c : Bool} {x y : Instr} (h : (decide (x = y) && c) = true) : x = y ∧ c = true := by
  rw [Bool.and_eq_true, decide_eq_true_eq] at h
  exact h
theorem and_n {c : Bool} {x y : Nat} (h : (Nat.beq x y && c) = true) : x = y ∧ c = true := by
  rw [Bool.and_eq_true] at h
  exact ⟨Nat.eq_of_beq_eq_true h.1, h.2⟩
set_option maxHeartbeats 4000000 in
theorem step_ok {isI : Bool} {e0 : EE} {pc : Nat} {K : LL} {st : List VV} {M : MM} (F : FR p s m args c B b sl sx D cA cc own nL) (hsz : s.heap.size = B + sz0) (hRc : mc0 ≤ R.cells) (hRs : ms0 ≤ R.slots) (hRf : 1 ≤ R.frames) (hRl : 100 ≤ R.locals) (hin : isI = true → meth.name = "<init>") (hC : CallG l R B b sl sx D cA cw) (hnx : ∀ pc' K' st' M', nx pc' K' st' M' → WG p l e R s m args below meth c Q B b D cA nL sz0 tt0 mc0 ms0 pc' K' st' M')
    (hri : ∀ pc K x M, decode cc pc = .ok (.ireturn, 1) → rt (some (vI x)) M → WG p l e R s m args below meth c Q B b D cA nL sz0 tt0 mc0 ms0 pc K [vI x] M) (hrl : ∀ pc K x M, decode cc pc = .ok (.lreturn, 1) → rt (some (vL x)) M → WG p l e R s m args below meth c Q B b D cA nL sz0 tt0 mc0 ms0 pc K [vL x] M)
    (hra : ∀ pc K x M, decode cc pc = .ok (.areturn, 1) → rt (some (vR x)) M → WG p l e R s m args below meth c Q B b D cA nL sz0 tt0 mc0 ms0 pc K [vR x] M) (hrv : ∀ pc K M, decode cc pc = .ok (.return_, 1) → rt none M → WG p l e R s m args below meth c Q B b D cA nL sz0 tt0 mc0 ms0 pc K [] M)
    (hck : chkE cc own pc e0 = true) (h : stepW own isI sz0 tt0 mc0 ms0 sl sx cw nx rt e0 pc K st M) : WG p l e R s m args below meth c Q B b D cA nL sz0 tt0 mc0 ms0 pc K st M := by
  obtain ⟨r, hd, hE⟩ := chkE_of hck
  obtain ⟨ins, len, t, i⟩ := e0
  obtain ⟨hx, hb, hml, hown, hts, hK, hX, hbl, hbB, hBs⟩ := id F
  dsimp only at hd
  cases r with
  | iadd =>
    obtain ⟨rfl, hlen⟩ := and_eq (show (decide (ins = Instr.iadd) && Nat.beq len 1) = true from hE)
    have hlen := Nat.eq_of_beq_eq_true hlen
    subst hlen
    obtain ⟨a1, a2, r, rfl, h⟩ := nx2_of (show nx2 st _ from h)
    exact (hnx _ _ _ _ h).same fun H locs cells slots ls hl k => lv_iadd hx hb hd k
  | isub =>
    obtain ⟨rfl, hlen⟩ := and_eq (show (decide (ins = Instr.isub) && Nat.beq len 1) = true from hE)
    have hlen := Nat.eq_of_beq_eq_true hlen
    subst hlen
    obtain ⟨a1, a2, r, rfl, h⟩ := nx2_of (show nx2 st _ from h)
    exact (hnx _ _ _ _ h).same fun H locs cells slots ls hl k => lv_isub hx hb hd k
  | imul =>
    obtain ⟨rfl, hlen⟩ := and_eq (show (decide (ins = Instr.imul) && Nat.beq len 1) = true from hE)
    have hlen := Nat.eq_of_beq_eq_true hlen
    subst hlen
    obtain ⟨a1, a2, r, rfl, h⟩ := nx2_of (show nx2 st _ from h)
    exact (hnx _ _ _ _ h).same fun H locs cells slots ls hl k => lv_imul hx hb hd k
  | iand =>
    obtain ⟨rfl, hlen⟩ := and_eq (show (decide (ins = Instr.iand) && Nat.beq len 1) = true from hE)
    have hlen := Nat.eq_of_beq_eq_true hlen
    subst hlen
    obtain ⟨a1, a2, r, rfl, h⟩ := nx2_of (show nx2 st _ from h)
    exact (hnx _ _ _ _ h).same fun H locs cells slots ls hl k => lv_iand hx hb hd k
  | ior =>
    obtain ⟨rfl, hlen⟩ := and_eq (show (decide (ins = Instr.ior) && Nat.beq len 1) = true from hE)
    have hlen := Nat.eq_of_beq_eq_true hlen
    subst hlen
    obtain ⟨a1, a2, r, rfl, h⟩ := nx2_of (show nx2 st _ from h)
    exact (hnx _ _ _ _ h).same fun H locs cells slots ls hl k => lv_ior hx hb hd k
  | ixor =>
    obtain ⟨rfl, hlen⟩ := and_eq (show (decide (ins = Instr.ixor) && Nat.beq len 1) = true from hE)
    have hlen := Nat.eq_of_beq_eq_true hlen
    subst hlen
    obtain ⟨a1, a2, r, rfl, h⟩ := nx2_of (show nx2 st _ from h)
    exact (hnx _ _ _ _ h).same fun H locs cells slots ls hl k => lv_ixor hx hb hd k
  | ishl =>
    obtain ⟨rfl, hlen⟩ := and_eq (show (decide (ins = Instr.ishl) && Nat.beq len 1) = true from hE)
    have hlen := Nat.eq_of_beq_eq_true hlen
    subst hlen
    obtain ⟨a1, a2, r, rfl, h⟩ := nx2_of (show nx2 st _ from h)
    exact (hnx _ _ _ _ h).same fun H locs cells slots ls hl k => lv_ishl hx hb hd k
  | ishr =>
    obtain ⟨rfl, hlen⟩ := and_eq (show (decide (ins = Instr.ishr) && Nat.beq len 1) = true from hE)
    have hlen := Nat.eq_of_beq_eq_true hlen
    subst hlen
    obtain ⟨a1, a2, r, rfl, h⟩ := nx2_of (show nx2 st _ from h)
    exact (hnx _ _ _ _ h).same fun H locs cells slots ls hl k => lv_ishr hx hb hd k
  | iushr =>
    obtain ⟨rfl, hlen⟩ := and_eq (show (decide (ins = Instr.iushr) && Nat.beq len 1) = true from hE)
    have hlen := Nat.eq_of_beq_eq_true hlen
    subst hlen
    obtain ⟨a1, a2, r, rfl, h⟩ := nx2_of (show nx2 st _ from h)
    exact (hnx _ _ _ _ h).same fun H locs cells slots ls hl k => lv_iushr hx hb hd rfl k
  | idiv =>
    obtain ⟨rfl, hlen⟩ := and_eq (show (decide (ins = Instr.idiv) && Nat.beq len 1) = true from hE)
    have hlen := Nat.eq_of_beq_eq_true hlen
    subst hlen
    obtain ⟨a1, a2, r, rfl, h⟩ := nx2_of (show nx2 st _ from h)
    exact (hnx _ _ _ _ h.2).same fun H locs cells slots ls hl k => lv_idiv hx hb hd h.1 k
  | irem =>
    obtain ⟨rfl, hlen⟩ := and_eq (show (decide (ins = Instr.irem) && Nat.beq len 1) = true from hE)
    have hlen := Nat.eq_of_beq_eq_true hlen
    subst hlen
    obtain ⟨a1, a2, r, rfl, h⟩ := nx2_of (show nx2 st _ from h)
    exact (hnx _ _ _ _ h.2).same fun H locs cells slots ls hl k => lv_irem hx hb hd h.1 k
  | ineg =>
    obtain ⟨rfl, hlen⟩ := and_eq (show (decide (ins = Instr.ineg) && Nat.beq len 1) = true from hE)
    have hlen := Nat.eq_of_beq_eq_true hlen
    subst hlen
    obtain ⟨a1, r, rfl, h⟩ := nx1_of (show nx1 st _ from h)
    exact (hnx _ _ _ _ h).same fun H locs cells slots ls hl k => lv_ineg hx hb hd k
  | i2l =>
    obtain ⟨rfl, hlen⟩ := and_eq (show (decide (ins = Instr.i2l) && Nat.beq len 1) = true from hE)
    have hlen := Nat.eq_of_beq_eq_true hlen
    subst hlen
    obtain ⟨a1, r, rfl, h⟩ := nx1_of (show nx1 st _ from h)
    exact (hnx _ _ _ _ h).same fun H locs cells slots ls hl k => lv_i2l hx hb hd rfl k
  | i2b =>
    obtain ⟨rfl, hlen⟩ := and_eq (show (decide (ins = Instr.i2b) && Nat.beq len 1) = true from hE)
    have hlen := Nat.eq_of_beq_eq_true hlen
    subst hlen
    obtain ⟨a1, r, rfl, h⟩ := nx1_of (show nx1 st _ from h)
    exact (hnx _ _ _ _ h).same fun H locs cells slots ls hl k => lv_i2b hx hb hd rfl k
  | l2i =>
    obtain ⟨rfl, hlen⟩ := and_eq (show (decide (ins = Instr.l2i) && Nat.beq len 1) = true from hE)
    have hlen := Nat.eq_of_beq_eq_true hlen
    subst hlen
    obtain ⟨a1, r, rfl, h⟩ := nl1_of (show nl1 st _ from h)
    exact (hnx _ _ _ _ h).same fun H locs cells slots ls hl k => lv_l2i hx hb hd rfl k
  | ladd =>
    obtain ⟨rfl, hlen⟩ := and_eq (show (decide (ins = Instr.ladd) && Nat.beq len 1) = true from hE)
    have hlen := Nat.eq_of_beq_eq_true hlen
    subst hlen
    obtain ⟨a1, a2, r, rfl, h⟩ := nl2_of (show nl2 st _ from h)
    exact (hnx _ _ _ _ h).same fun H locs cells slots ls hl k => lv_ladd hx hb hd k
  | lsub =>
    obtain ⟨rfl, hlen⟩ := and_eq (show (decide (ins = Instr.lsub) && Nat.beq len 1) = true from hE)
    have hlen := Nat.eq_of_beq_eq_true hlen
    subst hlen
    obtain ⟨a1, a2, r, rfl, h⟩ := nl2_of (show nl2 st _ from h)
    exact (hnx _ _ _ _ h).same fun H locs cells slots ls hl k => lv_lsub hx hb hd k
  | lmul =>
    obtain ⟨rfl, hlen⟩ := and_eq (show (decide (ins = Instr.lmul) && Nat.beq len 1) = true from hE)
    have hlen := Nat.eq_of_beq_eq_true hlen
    subst hlen
    obtain ⟨a1, a2, r, rfl, h⟩ := nl2_of (show nl2 st _ from h)
    exact (hnx _ _ _ _ h).same fun H locs cells slots ls hl k => lv_lmul hx hb hd k
  | land =>
    obtain ⟨rfl, hlen⟩ := and_eq (show (decide (ins = Instr.land) && Nat.beq len 1) = true from hE)
    have hlen := Nat.eq_of_beq_eq_true hlen
    subst hlen
    obtain ⟨a1, a2, r, rfl, h⟩ := nl2_of (show nl2 st _ from h)
    exact (hnx _ _ _ _ h).same fun H locs cells slots ls hl k => lv_land hx hb hd k
  | lor =>
    obtain ⟨rfl, hlen⟩ := and_eq (show (decide (ins = Instr.lor) && Nat.beq len 1) = true from hE)
    have hlen := Nat.eq_of_beq_eq_true hlen
    subst hlen
    obtain ⟨a1, a2, r, rfl, h⟩ := nl2_of (show nl2 st _ from h)
    exact (hnx _ _ _ _ h).same fun H locs cells slots ls hl k => lv_lor hx hb hd k
  | ldiv =>
    obtain ⟨rfl, hlen⟩ := and_eq (show (decide (ins = Instr.ldiv) && Nat.beq len 1) = true from hE)
    have hlen := Nat.eq_of_beq_eq_true hlen
    subst hlen
    obtain ⟨a1, a2, r, rfl, h⟩ := nl2_of (show nl2 st _ from h)
    exact (hnx _ _ _ _ h.2).same fun H locs cells slots ls hl k => lv_ldiv hx hb hd h.1 k
  | lrem =>
    obtain ⟨rfl, hlen⟩ := and_eq (show (decide (ins = Instr.lrem) && Nat.beq len 1) = true from hE)
    have hlen := Nat.eq_of_beq_eq_true hlen
    subst hlen
    obtain ⟨a1, a2, r, rfl, h⟩ := nl2_of (show nl2 st _ from h)
    exact (hnx _ _ _ _ h.2).same fun H locs cells slots ls hl k => lv_lrem hx hb hd h.1 k
  | lneg =>
    obtain ⟨rfl, hlen⟩ := and_eq (show (decide (ins = Instr.lneg) && Nat.beq len 1) = true from hE)
    have hlen := Nat.eq_of_beq_eq_true hlen
    subst hlen
    obtain ⟨a1, r, rfl, h⟩ := nl1_of (show nl1 st _ from h)
    exact (hnx _ _ _ _ h).same fun H locs cells slots ls hl k => lv_lneg hx hb hd k
  | lshl =>
    obtain ⟨rfl, hlen⟩ := and_eq (show (decide (ins = Instr.lshl) && Nat.beq len 1) = true from hE)
    have hlen := Nat.eq_of_beq_eq_true hlen
    subst hlen
    obtain ⟨a1, a2, r, rfl, h⟩ := nli_of (show nli st _ from h)
    exact (hnx _ _ _ _ h).same fun H locs cells slots ls hl k => lv_lshl hx hb hd rfl k
  | lshr =>
    obtain ⟨rfl, hlen⟩ := and_eq (show (decide (ins = Instr.lshr) && Nat.beq len 1) = true from hE)
    have hlen := Nat.eq_of_beq_eq_true hlen
    subst hlen
    obtain ⟨a1, a2, r, rfl, h⟩ := nli_of (show nli st _ from h)
    exact (hnx _ _ _ _ h).same fun H locs cells slots ls hl k => lv_lshr hx hb hd rfl k
  | lushr =>
    obtain ⟨rfl, hlen⟩ := and_eq (show (decide (ins = Instr.lushr) && Nat.beq len 1) = true from hE)
    have hlen := Nat.eq_of_beq_eq_true hlen
    subst hlen
    obtain ⟨a1, a2, r, rfl, h⟩ := nli_of (show nli st _ from h)
    exact (hnx _ _ _ _ h).same fun H locs cells slots ls hl k => lv_lushr hx hb hd rfl k
  | lcmp =>
    obtain ⟨rfl, hlen⟩ := and_eq (show (decide (ins = Instr.lcmp) && Nat.beq len 1) = true from hE)
    have hlen := Nat.eq_of_beq_eq_true hlen
    subst hlen
    obtain ⟨a1, a2, r, rfl, h⟩ := nl2_of (show nl2 st _ from h)
    exact (hnx _ _ _ _ h).same fun H locs cells slots ls hl k => W.lcmp hx hb hd k
  | dup =>
    obtain ⟨rfl, hlen⟩ := and_eq (show (decide (ins = Instr.dup) && Nat.beq len 1) = true from hE)
    have hlen := Nat.eq_of_beq_eq_true hlen
    subst hlen
    cases st with
    | nil => cases h
    | cons v r =>
      obtain ⟨hc, h⟩ := cond_t (show cond (Nat.beq (c2 v) 1) _ False from h)
      exact (hnx _ _ _ _ h).same fun H locs cells slots ls hl k => lv_dup hx hb hd ((tv_cat B b v).trans (Nat.eq_of_beq_eq_true hc)) k
  | dup2 =>
    obtain ⟨rfl, hlen⟩ := and_eq (show (decide (ins = Instr.dup2) && Nat.beq len 1) = true from hE)
    have hlen := Nat.eq_of_beq_eq_true hlen
    subst hlen
    cases st with
    | nil => cases h
    | cons v r =>
      cases r with
      | nil => cases h
      | cons w r =>
        obtain ⟨hc, h⟩ := cond_t (show cond (Nat.beq (c2 v) 1 && Nat.beq (c2 w) 1) _ False from h)
        rw [Bool.and_eq_true] at hc
        exact (hnx _ _ _ _ h).same fun H locs cells slots ls hl k => lv_dup2_11 hx hb hd ((tv_cat B b v).trans (Nat.eq_of_beq_eq_true hc.1)) ((tv_cat B b w).trans (Nat.eq_of_beq_eq_true hc.2)) k
  | pop =>
    obtain ⟨rfl, hlen⟩ := and_eq (show (decide (ins = Instr.pop) && Nat.beq len 1) = true from hE)
    have hlen := Nat.eq_of_beq_eq_true hlen
    subst hlen
    cases st with
    | nil => cases h
    | cons v r =>
      obtain ⟨hc, h⟩ := cond_t (show cond (Nat.beq (c2 v) 1) _ False from h)
      exact (hnx _ _ _ _ h).same fun H locs cells slots ls hl k => lv_pop hx hb hd ((tv_cat B b v).trans (Nat.eq_of_beq_eq_true hc)) k
  | aconst_null =>
    obtain ⟨rfl, hlen⟩ := and_eq (show (decide (ins = Instr.aconst_null) && Nat.beq len 1) = true from hE)
    have hlen := Nat.eq_of_beq_eq_true hlen
    subst hlen
    exact (hnx _ _ _ _ (show nx (pc + 1) K (vR none :: st) M from h)).same fun H locs cells slots ls hl k => lv_null hx hb hd k
  | iconst cst =>
    obtain ⟨rfl, hF⟩ := and_eq (show (decide (ins = Instr.bipush 0) && _) = true from hE)
    obtain ⟨rfl, hG⟩ := and_n hF
    exact (hnx _ _ _ _ (show nx (pc + 1) K (vI i :: st) M from h)).same fun H locs cells slots ls hl k => lv_iconst hx hb hd (of_decide_eq_true hG) k
  | bipush cst =>
    obtain ⟨rfl, hF⟩ := and_eq (show (decide (ins = Instr.bipush 0) && _) = true from hE)
    obtain ⟨rfl, hG⟩ := and_n hF
    exact (hnx _ _ _ _ (show nx (pc + 2) K (vI i :: st) M from h)).same fun H locs cells slots ls hl k => lv_bipush hx hb hd (of_decide_eq_true hG) k
  | sipush cst =>
    obtain ⟨rfl, hF⟩ := and_eq (show (decide (ins = Instr.bipush 0) && _) = true from hE)
    obtain ⟨rfl, hG⟩ := and_n hF
    exact (hnx _ _ _ _ (show nx (pc + 3) K (vI i :: st) M from h)).same fun H locs cells slots ls hl k => lv_sipush hx hb hd (of_decide_eq_true hG) k
  | lconst n =>
    obtain ⟨rfl, hF⟩ := and_eq (show (decide (ins = Instr.lconst n) && _) = true from hE)
    obtain ⟨rfl, hG⟩ := and_n hF
    have ht := Nat.eq_of_beq_eq_true hG
    exact (hnx _ _ _ _ (show nx (pc + 1) K (vL (cond (Nat.beq t 0) 0 1) :: st) M from h)).same fun H locs cells slots ls hl k => lv_lconst hx hb hd (by rw [← (show n.val = t from ht)]; match n with | 0 => rfl | 1 => rfl) k
  | ldc ix =>
    obtain ⟨rfl, hF⟩ := and_eq (show (decide (ins = Instr.ldc ix) && _) = true from hE)
    obtain ⟨rfl, hG⟩ := and_n hF
    have hix : ix < 1000 := Nat.le_of_ble_eq_true hG
    cases hv : as2 KIg (own * 1000 + ix) with
    | none =>
      have h2 : (match (generalizing := false) as2 KIg (own * 1000 + ix) with | some (v, _) => nx (pc + 2) K (vI v :: st) M | none => False) := h
      rw [hv] at h2
      cases h2
    | some v =>
      have h2 : (match (generalizing := false) as2 KIg (own * 1000 + ix) with | some (v, _) => nx (pc + 2) K (vI v :: st) M | none => False) := h
      rw [hv] at h2
      obtain ⟨v, ps⟩ := v
      exact (hnx _ _ _ _ (show nx (pc + 2) K (vI v :: st) M from h2)).same fun H locs cells slots ls hl k => lv_ldc hx hb hown (hts _ (kiOk hix hv)) hd k
  | ldc_w ix =>
    obtain ⟨rfl, hF⟩ := and_eq (show (decide (ins = Instr.ldc ix) && _) = true from hE)
    obtain ⟨rfl, hG⟩ := and_n hF
    have hix : ix < 1000 := Nat.le_of_ble_eq_true hG
    cases hv : as2 KIg (own * 1000 + ix) with
    | none =>
      have h2 : (match (generalizing := false) as2 KIg (own * 1000 + ix) with | some (v, _) => nx (pc + 3) K (vI v :: st) M | none => False) := h
      rw [hv] at h2
      cases h2
    | some v =>
      have h2 : (match (generalizing := false) as2 KIg (own * 1000 + ix) with | some (v, _) => nx (pc + 3) K (vI v :: st) M | none => False) := h
      rw [hv] at h2
      obtain ⟨v, ps⟩ := v
      exact (hnx _ _ _ _ (show nx (pc + 3) K (vI v :: st) M from h2)).same fun H locs cells slots ls hl k => lv_ldcw hx hb hown (hts _ (kiOk hix hv)) hd k
  | ldc2_w ix =>
    obtain ⟨rfl, hF⟩ := and_eq (show (decide (ins = Instr.ldc2_w ix) && _) = true from hE)
    obtain ⟨rfl, hG⟩ := and_n hF
    have hix : ix < 1000 := Nat.le_of_ble_eq_true hG
    cases hv : as2 KJg (own * 1000 + ix) with
    | none =>
      have h2 : (match (generalizing := false) as2 KJg (own * 1000 + ix) with | some (v, _) => nx (pc + 3) K (vL v :: st) M | none => False) := h
      rw [hv] at h2
      cases h2
    | some v =>
      have h2 : (match (generalizing := false) as2 KJg (own * 1000 + ix) with | some (v, _) => nx (pc + 3) K (vL v :: st) M | none => False) := h
      rw [hv] at h2
      obtain ⟨v, ps⟩ := v
      exact (hnx _ _ _ _ (show nx (pc + 3) K (vL v :: st) M from h2)).same fun H locs cells slots ls hl k => lv_ldc2 hx hb hown (hts _ (kjOk hix hv)) hd k
  | iload a0 =>
    obtain ⟨rfl, hF⟩ := and_eq (show (decide (ins = Instr.iload a0) && Nat.beq len 2) = true from hE)
    have hlen := Nat.eq_of_beq_eq_true hF
    subst hlen
    have h2 : (match (generalizing := false) gt K a0 with | some (.inl x) => nx (pc + 2) K (vI x :: st) M | _ => False) := h
    cases hg : gt K a0 with
    | none => rw [hg] at h2; cases h2
    | some v =>
      rw [hg] at h2
      rcases v with x | x | x
      · exact (hnx _ _ _ _ (show nx (pc + 2) K (vI x :: st) M from h2)).same fun H locs cells slots ls hl k => lv_iload hx hb hd (lv_of_gt hl hg) k
      · cases h2
      · cases h2
  | iload_n kk =>
    obtain ⟨rfl, hF⟩ := and_eq (show (decide (ins = Instr.iload kk.val) && Nat.beq len 1) = true from hE)
    have hlen := Nat.eq_of_beq_eq_true hF
    subst hlen
    have h2 : (match (generalizing := false) gt K kk.val with | some (.inl x) => nx (pc + 1) K (vI x :: st) M | _ => False) := h
    cases hg : gt K kk.val with
    | none => rw [hg] at h2; cases h2
    | some v =>
      rw [hg] at h2
      rcases v with x | x | x
      · exact (hnx _ _ _ _ (show nx (pc + 1) K (vI x :: st) M from h2)).same fun H locs cells slots ls hl k => lv_iload_n hx hb hd rfl (lv_of_gt hl hg) k
      · cases h2
      · cases h2
  | lload a0 =>
    obtain ⟨rfl, hF⟩ := and_eq (show (decide (ins = Instr.lload a0) && Nat.beq len 2) = true from hE)
    have hlen := Nat.eq_of_beq_eq_true hF
    subst hlen
    have h2 : (match (generalizing := false) gt K a0 with | some (.inr (.inl x)) => nx (pc + 2) K (vL x :: st) M | _ => False) := h
    cases hg : gt K a0 with
    | none => rw [hg] at h2; cases h2
    | some v =>
      rw [hg] at h2
      rcases v with x | x | x
      · cases h2
      · exact (hnx _ _ _ _ (show nx (pc + 2) K (vL x :: st) M from h2)).same fun H locs cells slots ls hl k => lv_lload hx hb hd (lv_of_gt hl hg) k
      · cases h2
  | lload_n kk =>
    obtain ⟨rfl, hF⟩ := and_eq (show (decide (ins = Instr.lload kk.val) && Nat.beq len 1) = true from hE)
    have hlen := Nat.eq_of_beq_eq_true hF
    subst hlen
    have h2 : (match (generalizing := false) gt K kk.val with | some (.inr (.inl x)) => nx (pc + 1) K (vL x :: st) M | _ => False) := h
    cases hg : gt K kk.val with
    | none => rw [hg] at h2; cases h2
    | some v =>
      rw [hg] at h2
      rcases v with x | x | x
      · cases h2
      · exact (hnx _ _ _ _ (show nx (pc + 1) K (vL x :: st) M from h2)).same fun H locs cells slots ls hl k => lv_lload_n hx hb hd rfl (lv_of_gt hl hg) k
      · cases h2
  | aload a0 =>
    obtain ⟨rfl, hF⟩ := and_eq (show (decide (ins = Instr.aload a0) && Nat.beq len 2) = true from hE)
    have hlen := Nat.eq_of_beq_eq_true hF
    subst hlen
    have h2 : (match (generalizing := false) gt K a0 with | some (.inr (.inr x)) => nx (pc + 2) K (.inr (.inr x) :: st) M | _ => False) := h
    cases hg : gt K a0 with
    | none => rw [hg] at h2; cases h2
    | some v =>
      rw [hg] at h2
      rcases v with x | x | x
      · cases h2
      · cases h2
      · refine (hnx _ _ _ _ (show nx (pc + 2) K (.inr (.inr x) :: st) M from h2)).same fun H locs cells slots ls hl k => ?_
        rcases x with x | x
        · cases x with
          | none => exact lv_aloadN hx hb hd (lv_of_gt hl hg) k
          | some o => exact lv_aload hx hb hd (lv_of_gt hl hg) k
        · exact lv_aload hx hb hd (lv_of_gt hl hg) k
  | aload_n kk =>
    obtain ⟨rfl, hF⟩ := and_eq (show (decide (ins = Instr.aload kk.val) && Nat.beq len 1) = true from hE)
    have hlen := Nat.eq_of_beq_eq_true hF
    subst hlen
    have h2 : (match (generalizing := false) gt K kk.val with | some (.inr (.inr x)) => nx (pc + 1) K (.inr (.inr x) :: st) M | _ => False) := h
    cases hg : gt K kk.val with
    | none => rw [hg] at h2; cases h2
    | some v =>
      rw [hg] at h2
      rcases v with x | x | x
      · cases h2
      · cases h2
      · refine (hnx _ _ _ _ (show nx (pc + 1) K (.inr (.inr x) :: st) M from h2)).same fun H locs cells slots ls hl k => ?_
        rcases x with x | x
        · cases x with
          | none => exact lv_aload_nN hx hb hd rfl (lv_of_gt hl hg) k
          | some o => exact lv_aload_n hx hb hd rfl (lv_of_gt hl hg) k
        · exact lv_aload_n hx hb hd rfl (lv_of_gt hl hg) k
  | istore a0 =>
    obtain ⟨rfl, hF⟩ := and_eq (show (decide (ins = Instr.istore a0) && Nat.beq len 2) = true from hE)
    have hlen := Nat.eq_of_beq_eq_true hF
    subst hlen
    cases st with
    | nil => cases h
    | cons v r =>
      rcases v with x | x | x
      · obtain ⟨hc, h⟩ := cond_t (show cond (Nat.blt a0 K.length) (nx (pc + 2) (sto1 K a0 (vI x)) r M) False from h)
        exact WG.st1 (a := a0) (Nat.le_of_ble_eq_true hc) rfl (hnx _ _ _ _ h) fun H locs cells slots ls hn hl k => lv_istore hx hb hd hl hn rfl k
      · cases h
      · cases h
  | lstore a0 =>
    obtain ⟨rfl, hF⟩ := and_eq (show (decide (ins = Instr.lstore a0) && Nat.beq len 2) = true from hE)
    have hlen := Nat.eq_of_beq_eq_true hF
    subst hlen
    cases st with
    | nil => cases h
    | cons v r =>
      rcases v with x | x | x
      · cases h
      · obtain ⟨hc, h⟩ := cond_t (show cond (Nat.blt (a0 + 1) K.length) (nx (pc + 2) (sto2 K a0 (vL x)) r M) False from h)
        exact WG.st2 (a := a0) (Nat.le_of_ble_eq_true hc) (hnx _ _ _ _ h) fun H locs cells slots ls hn hl k => lv_lstore hx hb hd hl hn rfl k
      · cases h
  | astore a0 =>
    obtain ⟨rfl, hF⟩ := and_eq (show (decide (ins = Instr.astore a0) && Nat.beq len 2) = true from hE)
    have hlen := Nat.eq_of_beq_eq_true hF
    subst hlen
    cases st with
    | nil => cases h
    | cons v r =>
      rcases v with x | x | x
      · cases h
      · cases h
      · obtain ⟨hc, h⟩ := cond_t (show cond (Nat.blt a0 K.length) (nx (pc + 2) (sto1 K a0 (.inr (.inr x))) r M) False from h)
        rcases x with x | x
        · cases x with
          | none => exact WG.st1 (a := a0) (Nat.le_of_ble_eq_true hc) rfl (hnx _ _ _ _ h) fun H locs cells slots ls hn hl k => lv_astoreN hx hb hd hl hn rfl k
          | some o => exact WG.st1 (a := a0) (Nat.le_of_ble_eq_true hc) rfl (hnx _ _ _ _ h) fun H locs cells slots ls hn hl k => lv_astore hx hb hd hl hn rfl k
        · exact WG.st1 (a := a0) (Nat.le_of_ble_eq_true hc) rfl (hnx _ _ _ _ h) fun H locs cells slots ls hn hl k => lv_astore hx hb hd hl hn rfl k
  | istore_n kk =>
    obtain ⟨rfl, hF⟩ := and_eq (show (decide (ins = Instr.istore kk.val) && Nat.beq len 1) = true from hE)
    have hlen := Nat.eq_of_beq_eq_true hF
    subst hlen
    cases st with
    | nil => cases h
    | cons v r =>
      rcases v with x | x | x
      · obtain ⟨hc, h⟩ := cond_t (show cond (Nat.blt kk.val K.length) (nx (pc + 1) (sto1 K kk.val (vI x)) r M) False from h)
        exact WG.st1 (a := kk.val) (Nat.le_of_ble_eq_true hc) rfl (hnx _ _ _ _ h) fun H locs cells slots ls hn hl k => lv_istore_n hx hb hd rfl hl hn rfl k
      · cases h
      · cases h
  | lstore_n kk =>
    obtain ⟨rfl, hF⟩ := and_eq (show (decide (ins = Instr.lstore kk.val) && Nat.beq len 1) = true from hE)
    have hlen := Nat.eq_of_beq_eq_true hF
    subst hlen
    cases st with
    | nil => cases h
    | cons v r =>
      rcases v with x | x | x
      · cases h
      · obtain ⟨hc, h⟩ := cond_t (show cond (Nat.blt (kk.val + 1) K.length) (nx (pc + 1) (sto2 K kk.val (vL x)) r M) False from h)
        exact WG.st2 (a := kk.val) (Nat.le_of_ble_eq_true hc) (hnx _ _ _ _ h) fun H locs cells slots ls hn hl k => lv_lstore_n hx hb hd rfl hl hn rfl k
      · cases h
  | astore_n kk =>
    obtain ⟨rfl, hF⟩ := and_eq (show (decide (ins = Instr.astore kk.val) && Nat.beq len 1) = true from hE)
    have hlen := Nat.eq_of_beq_eq_true hF
    subst hlen
    cases st with
    | nil => cases h
    | cons v r =>
      rcases v with x | x | x
      · cases h
      · cases h
      · obtain ⟨hc, h⟩ := cond_t (show cond (Nat.blt kk.val K.length) (nx (pc + 1) (sto1 K kk.val (.inr (.inr x))) r M) False from h)
        rcases x with x | x
        · cases x with
          | none => exact WG.st1 (a := kk.val) (Nat.le_of_ble_eq_true hc) rfl (hnx _ _ _ _ h) fun H locs cells slots ls hn hl k => lv_astore_nN hx hb hd rfl hl hn rfl k
          | some o => exact WG.st1 (a := kk.val) (Nat.le_of_ble_eq_true hc) rfl (hnx _ _ _ _ h) fun H locs cells slots ls hn hl k => lv_astore_n hx hb hd rfl hl hn rfl k
        · exact WG.st1 (a := kk.val) (Nat.le_of_ble_eq_true hc) rfl (hnx _ _ _ _ h) fun H locs cells slots ls hn hl k => lv_astore_n hx hb hd rfl hl hn rfl k
  | iinc a0 cst =>
    obtain ⟨rfl, hF⟩ := and_eq (show (decide (ins = Instr.iinc a0 0) && _) = true from hE)
    obtain ⟨rfl, hG⟩ := and_n hF
    have hi : Int32.ofInt cst = i := of_decide_eq_true hG
    have h2 : (match (generalizing := false) gt K a0 with | some (.inl x) => nx (pc + 3) (sto1 K a0 (vI (x + i))) st M | _ => False) := h
    cases hg : gt K a0 with
    | none => rw [hg] at h2; cases h2
    | some v =>
      rw [hg] at h2
      rcases v with x | x | x
      · have h3 := hnx _ _ _ _ (show nx (pc + 3) (sto1 K a0 (vI (x + i))) st M from h2)
        intro h0 g1 g2 g3 g4 H locs ls hR hS hl
        obtain ⟨k, hk⟩ := lv_mem hl hg
        have hlt : a0 < K.length := Nat.not_le.mp fun q => by rw [gt_len K a0 q] at hg; cases hg
        exact lv_iinc (v := x + i) hx hb hd hl hk (by rw [hi]) (by rw [← h0]; exact hlt) rfl fun ls' hl' => h3 (by unfold sto1; rw [len_sto, len_kil]; exact h0) g1 g2 g3 g4 H locs ls' hR hS (lv_st1 (v := vI (x + i)) hl')
      · cases h2
      · cases h2
  | goto off =>
    obtain ⟨rfl, hF⟩ := and_eq (show (decide (ins = Instr.goto 0) && _) = true from hE)
    obtain ⟨rfl, hG⟩ := and_n hF
    exact (hnx _ _ _ _ (show nx t K st M from h)).same fun H locs cells slots ls hl k => lv_goto hx hb hd (of_decide_eq_true hG) k
  | ifCond cnd off =>
    obtain ⟨rfl, hF⟩ := and_eq (show (decide (ins = Instr.ifCond cnd 0) && _) = true from hE)
    obtain ⟨rfl, hG⟩ := and_n hF
    have ht : (pc : Int) + off = (t : Int) := of_decide_eq_true hG
    obtain ⟨a1, r, rfl, h⟩ := nx1_of (show nx1 st _ from h)
    cases cnd with
    | eq => exact WG.alt (fun q => hnx _ _ _ _ (h.1 q)) (fun q => hnx _ _ _ _ (h.2 q)) fun H locs cells slots ls k1 k2 => lv_if_eq hx hb hd ht k1 k2
    | ne => exact WG.alt (fun q => hnx _ _ _ _ (h.1 q)) (fun q => hnx _ _ _ _ (h.2 q)) fun H locs cells slots ls k1 k2 => lv_if_ne hx hb hd ht k1 (fun q => k2 (fun z => z q))
    | lt => exact WG.alt (fun q => hnx _ _ _ _ (h.1 q)) (fun q => hnx _ _ _ _ (h.2 q)) fun H locs cells slots ls k1 k2 => lv_if_lt hx hb hd ht k1 k2
    | ge => exact WG.alt (fun q => hnx _ _ _ _ (h.1 q)) (fun q => hnx _ _ _ _ (h.2 q)) fun H locs cells slots ls k1 k2 => lv_if_ge hx hb hd ht k1 k2
    | gt => exact WG.alt (fun q => hnx _ _ _ _ (h.1 q)) (fun q => hnx _ _ _ _ (h.2 q)) fun H locs cells slots ls k1 k2 => lv_if_gt hx hb hd ht k1 k2
    | le => exact WG.alt (fun q => hnx _ _ _ _ (h.1 q)) (fun q => hnx _ _ _ _ (h.2 q)) fun H locs cells slots ls k1 k2 => lv_if_le hx hb hd ht k1 k2
  | if_icmp cnd off =>
    obtain ⟨rfl, hF⟩ := and_eq (show (decide (ins = Instr.if_icmp cnd 0) && _) = true from hE)
    obtain ⟨rfl, hG⟩ := and_n hF
    have ht : (pc : Int) + off = (t : Int) := of_decide_eq_true hG
    obtain ⟨a1, a2, r, rfl, h⟩ := nx2_of (show nx2 st _ from h)
    cases cnd with
    | eq => exact WG.alt (fun q => hnx _ _ _ _ (h.1 q)) (fun q => hnx _ _ _ _ (h.2 q)) fun H locs cells slots ls k1 k2 => lv_icmp_eq hx hb hd ht k1 k2
    | ne => exact WG.alt (fun q => hnx _ _ _ _ (h.1 q)) (fun q => hnx _ _ _ _ (h.2 q)) fun H locs cells slots ls k1 k2 => lv_icmp_ne hx hb hd ht k1 (fun q => k2 (fun z => z q))
    | lt => exact WG.alt (fun q => hnx _ _ _ _ (h.1 q)) (fun q => hnx _ _ _ _ (h.2 q)) fun H locs cells slots ls k1 k2 => lv_icmp_lt hx hb hd ht k1 k2
    | ge => exact WG.alt (fun q => hnx _ _ _ _ (h.1 q)) (fun q => hnx _ _ _ _ (h.2 q)) fun H locs cells slots ls k1 k2 => lv_icmp_ge hx hb hd ht k1 k2
    | gt => exact WG.alt (fun q => hnx _ _ _ _ (h.1 q)) (fun q => hnx _ _ _ _ (h.2 q)) fun H locs cells slots ls k1 k2 => lv_icmp_gt hx hb hd ht k1 k2
    | le => exact WG.alt (fun q => hnx _ _ _ _ (h.1 q)) (fun q => hnx _ _ _ _ (h.2 q)) fun H locs cells slots ls k1 k2 => lv_icmp_le hx hb hd ht k1 k2
  | ifnull off =>
    obtain ⟨rfl, hF⟩ := and_eq (show (decide (ins = Instr.ifnull 0) && _) = true from hE)
    obtain ⟨rfl, hG⟩ := and_n hF
    have ht : (pc : Int) + off = (t : Int) := of_decide_eq_true hG
    cases st with
    | nil => cases h
    | cons v r =>
      rcases v with x | x | x | x
      · cases h
      · cases h
      · cases x with
        | none => exact (hnx _ _ _ _ (h.1 rfl)).same fun H locs cells slots ls hl k => lv_ifnullN hx hb hd ht k
        | some o => exact (hnx _ _ _ _ (h.2 (fun q => by cases q))).same fun H locs cells slots ls hl k => lv_ifnull hx hb hd k
      · cases h
  | ifnonnull off =>
    obtain ⟨rfl, hF⟩ := and_eq (show (decide (ins = Instr.ifnonnull 0) && _) = true from hE)
    obtain ⟨rfl, hG⟩ := and_n hF
    have ht : (pc : Int) + off = (t : Int) := of_decide_eq_true hG
    cases st with
    | nil => cases h
    | cons v r =>
      rcases v with x | x | x | x
      · cases h
      · cases h
      · cases x with
        | none => exact (hnx _ _ _ _ (h.2 rfl)).same fun H locs cells slots ls hl k => lv_ifnonnullN hx hb hd k
        | some o => exact (hnx _ _ _ _ (h.1 (fun q => by cases q))).same fun H locs cells slots ls hl k => lv_ifnonnull hx hb hd ht k
      · cases h
  | tableswitch d lo hi offs =>
    have hE : ins = Instr.tableswitch d lo hi offs := of_decide_eq_true hE
    subst hE
    obtain ⟨a1, r, rfl, h⟩ := nx1_of (show nx1 st _ from h)
    by_cases h1 : a1.toInt < lo
    · obtain ⟨g1, g2⟩ := h.1 (Or.inl h1)
      exact (hnx _ _ _ _ g2).same fun H locs cells slots ls hl k => lv_tableOut hx hb hd (Or.inl h1) g1 k
    · by_cases h2 : hi < a1.toInt
      · obtain ⟨g1, g2⟩ := h.1 (Or.inr h2)
        exact (hnx _ _ _ _ g2).same fun H locs cells slots ls hl k => lv_tableOut hx hb hd (Or.inr h2) g1 k
      · obtain ⟨off, g0, g1, g2⟩ := h.2 h1 h2
        exact (hnx _ _ _ _ g2).same fun H locs cells slots ls hl k => lv_tableIn hx hb hd h1 h2 g0 g1 k
  | getfield ix =>
    obtain ⟨rfl, hF⟩ := and_eq (show (decide (ins = Instr.getfield ix) && _) = true from hE)
    obtain ⟨rfl, hG⟩ := and_n hF
    have hix : ix < 1000 := Nat.le_of_ble_eq_true hG
    have h2 : (match (generalizing := false) as2 FLg (own * 1000 + ix) with | some (q, k, _, _) => (match (generalizing := false) st with | .inr (.inr (.inl (some o))) :: r => kd M o q ∧ nx (pc + 3) K (rdF M q o k :: r) M | _ => False) | none => False) := h
    cases hv : as2 FLg (own * 1000 + ix) with
    | none => rw [hv] at h2; cases h2
    | some v =>
      rw [hv] at h2
      obtain ⟨q, k, ne, ps⟩ := v
      obtain ⟨g1, g2, g3⟩ := flOk hix hv
      cases st with
      | nil => cases h2
      | cons v r =>
        rcases v with x | x | x | x
        · cases h2
        · cases h2
        · cases x with
          | none => cases h2
          | some o =>
            rcases g3 with ⟨-, g3⟩ | ⟨-, g3⟩
            · exact wg_get F g1 g2 g3 hd h2.1 (hnx _ _ _ _ h2.2)
            · exact wg_getN F g1 g2 g3 hd h2.1 (hnx _ _ _ _ h2.2)
        · cases h2
  | putfield ix =>
    obtain ⟨rfl, hF⟩ := and_eq (show (decide (ins = Instr.putfield ix) && _) = true from hE)
    obtain ⟨rfl, hG⟩ := and_n hF
    have hix : ix < 1000 := Nat.le_of_ble_eq_true hG
    have h2 : (match (generalizing := false) as2 FLg (own * 1000 + ix) with | some (q, k, ne, _) => (match (generalizing := false) st with | v :: .inr (.inr (.inl (some o))) :: r => cond (cond (fFin q k) (isI && (Nat.beq own q && Nat.beq ne 0)) true) (kd M o q ∧ wrF M q o k v (fun M' => nx (pc + 3) K r M')) False | _ => False) | none => False) := h
    cases hv : as2 FLg (own * 1000 + ix) with
    | none => rw [hv] at h2; cases h2
    | some v =>
      rw [hv] at h2
      obtain ⟨q, k, ne, ps⟩ := v
      obtain ⟨g1, g2, g3⟩ := flOk hix hv
      cases st with
      | nil => cases h2
      | cons w st =>
        cases st with
        | nil => cases h2
        | cons v r =>
          rcases v with x | x | x | x
          · cases h2
          · cases h2
          · cases x with
            | none => cases h2
            | some o =>
              obtain ⟨hc, h3, h4⟩ := cond_t (show cond (cond (fFin q k) (isI && (Nat.beq own q && Nat.beq ne 0)) true) (kd M o q ∧ wrF M q o k w (fun M' => nx (pc + 3) K r M')) False from h2)
              have h4 : wrF M q o k w (fun M' => WG p l e R s m args below meth c Q B b D cA nL sz0 tt0 mc0 ms0 (pc + 3) K r M') := by
                obtain ⟨M', a1, a2⟩ : ∃ f : MM → Prop, wrF M q o k w f ∧ ∀ M', f M' → WG p l e R s m args below meth c Q B b D cA nL sz0 tt0 mc0 ms0 (pc + 3) K r M' := ⟨_, h4, fun M' hm => hnx _ _ _ _ hm⟩
                exact wrF_mono a2 a1
              cases hf : fFin q k with
              | false =>
                rcases g3 with ⟨-, g3⟩ | ⟨-, g3⟩
                · exact wg_put F g1 g2 hf g3 hd h3 h4
                · exact wg_putN F g1 g2 hf g3 hd h3 h4
              | true =>
                rw [hf] at hc
                dsimp only [cond] at hc
                rw [Bool.and_eq_true, Bool.and_eq_true] at hc
                rcases g3 with ⟨-, g3⟩ | ⟨z, g3⟩
                · exact wg_putF F g1 g2 hf (hin hc.1) (Nat.eq_of_beq_eq_true hc.2.1) g3 hd h3 h4
                · exact absurd (Nat.eq_of_beq_eq_true hc.2.2) z
          · cases h2
  | iaload =>
    obtain ⟨rfl, hlen⟩ := and_eq (show (decide (ins = Instr.iaload) && Nat.beq len 1) = true from hE)
    have hlen := Nat.eq_of_beq_eq_true hlen
    subst hlen
    cases st with
    | nil => cases h
    | cons v st =>
      rcases v with j | j | j
      · cases st with
        | nil => cases h
        | cons v r =>
          rcases v with x | x | x | x
          · cases h
          · cases h
          · cases x with
            | none => cases h
            | some o => exact wg_iald F h.1 hd (hnx _ _ _ _ h.2)
          · exact wg_sld F h.1 hd (hnx _ _ _ _ h.2)
      · cases h
      · cases h
  | laload =>
    obtain ⟨rfl, hlen⟩ := and_eq (show (decide (ins = Instr.laload) && Nat.beq len 1) = true from hE)
    have hlen := Nat.eq_of_beq_eq_true hlen
    subst hlen
    cases st with
    | nil => cases h
    | cons v st =>
      rcases v with j | j | j
      · cases st with
        | nil => cases h
        | cons v r =>
          rcases v with x | x | x | x
          · cases h
          · cases h
          · cases x with
            | none => cases h
            | some o => exact wg_lald F h.1 hd (hnx _ _ _ _ h.2)
          · cases h
      · cases h
      · cases h
  | baload =>
    obtain ⟨rfl, hlen⟩ := and_eq (show (decide (ins = Instr.baload) && Nat.beq len 1) = true from hE)
    have hlen := Nat.eq_of_beq_eq_true hlen
    subst hlen
    cases st with
    | nil => cases h
    | cons v st =>
      rcases v with j | j | j
      · cases st with
        | nil => cases h
        | cons v r =>
          rcases v with x | x | x | x
          · cases h
          · cases h
          · cases x with
            | none => cases h
            | some o => 
              obtain ⟨hc, h⟩ := cond_t (show cond (Nat.beq t 13 || Nat.beq t 14) (inb M o t j ∧ nx (pc + 1) K (vI (mI M o j.toNatClampNeg) :: r) M) False from h)
              rw [Bool.or_eq_true] at hc
              exact wg_bald F (hc.imp Nat.eq_of_beq_eq_true Nat.eq_of_beq_eq_true) h.1 hd (hnx _ _ _ _ h.2)
          · cases h
      · cases h
      · cases h
  | aaload =>
    obtain ⟨rfl, hlen⟩ := and_eq (show (decide (ins = Instr.aaload) && Nat.beq len 1) = true from hE)
    have hlen := Nat.eq_of_beq_eq_true hlen
    subst hlen
    cases st with
    | nil => cases h
    | cons v st =>
      rcases v with j | j | j
      · cases st with
        | nil => cases h
        | cons v r =>
          rcases v with x | x | x | x
          · cases h
          · cases h
          · cases x with
            | none => cases h
            | some o => 
              obtain ⟨hc, h⟩ := cond_t (show cond (Nat.beq t 15 || Nat.beq t 16) (inb M o t j ∧ nx (pc + 1) K (vR (mR M o j.toNatClampNeg) :: r) M) False from h)
              rw [Bool.or_eq_true] at hc
              exact wg_aald F (hc.imp Nat.eq_of_beq_eq_true Nat.eq_of_beq_eq_true) h.1 hd (hnx _ _ _ _ h.2)
          · cases h
      · cases h
      · cases h
  | iastore =>
    obtain ⟨rfl, hlen⟩ := and_eq (show (decide (ins = Instr.iastore) && Nat.beq len 1) = true from hE)
    have hlen := Nat.eq_of_beq_eq_true hlen
    subst hlen
    cases st with
    | nil => cases h
    | cons w st =>
      rcases w with x | x | x | x
      · cases st with
        | nil => cases h
        | cons v st =>
          rcases v with j | j | j
          · cases st with
            | nil => cases h
            | cons v r =>
              rcases v with z | z | z | z
              · cases h
              · cases h
              · cases z with
                | none => cases h
                | some o => exact wg_iast F h.1 hd (hnx _ _ _ _ h.2)
              · cases h
          · cases h
          · cases h
      · cases h
      · cases h
      · cases h
  | lastore =>
    obtain ⟨rfl, hlen⟩ := and_eq (show (decide (ins = Instr.lastore) && Nat.beq len 1) = true from hE)
    have hlen := Nat.eq_of_beq_eq_true hlen
    subst hlen
    cases st with
    | nil => cases h
    | cons w st =>
      rcases w with x | x | x | x
      · cases h
      · cases st with
        | nil => cases h
        | cons v st =>
          rcases v with j | j | j
          · cases st with
            | nil => cases h
            | cons v r =>
              rcases v with z | z | z | z
              · cases h
              · cases h
              · cases z with
                | none => cases h
                | some o => exact wg_last F h.1 hd (hnx _ _ _ _ h.2)
              · cases h
          · cases h
          · cases h
      · cases h
      · cases h
  | bastore =>
    obtain ⟨rfl, hlen⟩ := and_eq (show (decide (ins = Instr.bastore) && Nat.beq len 1) = true from hE)
    have hlen := Nat.eq_of_beq_eq_true hlen
    subst hlen
    cases st with
    | nil => cases h
    | cons w st =>
      rcases w with x | x | x | x
      · cases st with
        | nil => cases h
        | cons v st =>
          rcases v with j | j | j
          · cases st with
            | nil => cases h
            | cons v r =>
              rcases v with z | z | z | z
              · cases h
              · cases h
              · cases z with
                | none => cases h
                | some o => 
                  have h2 : cond (Nat.beq t 13) (inb M o 13 j ∧ nx (pc + 1) K r (sI M o j.toNatClampNeg x.toInt8.toInt32)) (cond (Nat.beq t 14) (inb M o 14 j ∧ nx (pc + 1) K r (sI M o j.toNatClampNeg (x &&& 1))) False) := h
                  cases hb1 : Nat.beq t 13 with
                  | true => rw [hb1] at h2; exact wg_bast F h2.1 hd (hnx _ _ _ _ h2.2)
                  | false =>
                    rw [hb1] at h2
                    obtain ⟨-, h3⟩ := cond_t (show cond (Nat.beq t 14) (inb M o 14 j ∧ nx (pc + 1) K r (sI M o j.toNatClampNeg (x &&& 1))) False from h2)
                    exact wg_zast F h3.1 hd (hnx _ _ _ _ h3.2)
              · cases h
          · cases h
          · cases h
      · cases h
      · cases h
      · cases h
  | aastore =>
    obtain ⟨rfl, hlen⟩ := and_eq (show (decide (ins = Instr.aastore) && Nat.beq len 1) = true from hE)
    have hlen := Nat.eq_of_beq_eq_true hlen
    subst hlen
    cases st with
    | nil => cases h
    | cons w st =>
      rcases w with x | x | x | x
      · cases h
      · cases h
      · cases x with
        | none => cases h
        | some v0 =>
          cases st with
          | nil => cases h
          | cons v st =>
            rcases v with j | j | j
            · cases st with
              | nil => cases h
              | cons v r =>
                rcases v with z | z | z | z
                · cases h
                · cases h
                · cases z with
                  | none => cases h
                  | some o =>
                    obtain ⟨hc, h⟩ := cond_t (show cond (Nat.beq t 15 || Nat.beq t 16) (inb M o t j ∧ kd M v0 (t - 8) ∧ nx (pc + 1) K r (sR M o j.toNatClampNeg (some v0))) False from h)
                    rw [Bool.or_eq_true] at hc
                    exact wg_aast F (hc.imp Nat.eq_of_beq_eq_true Nat.eq_of_beq_eq_true) h.1 h.2.1 hd (hnx _ _ _ _ h.2.2)
                · cases h
            · cases h
            · cases h
      · cases h
  | arraylength =>
    obtain ⟨rfl, hlen⟩ := and_eq (show (decide (ins = Instr.arraylength) && Nat.beq len 1) = true from hE)
    have hlen := Nat.eq_of_beq_eq_true hlen
    subst hlen
    cases st with
    | nil => cases h
    | cons v r =>
      rcases v with x | x | x | x
      · cases h
      · cases h
      · cases h
      · exact wg_slen F hd (hnx _ _ _ _ (show nx (pc + 1) K (vI (Int32.ofNat sl) :: r) M from h))
  | newarray ty =>
    obtain ⟨rfl, hF⟩ := and_eq (show (decide (ins = Instr.newarray ty) && Nat.beq len 2) = true from hE)
    have hlen := Nat.eq_of_beq_eq_true hF
    subst hlen
    obtain ⟨n, r, rfl, h1, h2, h3, h4, h⟩ := nx1_of (show nx1 st _ from h)
    cases ty with
    | int => exact wg_newa (t := 11) F hsz hRc hRs (Or.inl ⟨rfl, rfl⟩) (acW (by simp)) hd h1 h2 h3 h4 (hnx _ _ _ _ h)
    | long => exact wg_newa (t := 12) F hsz hRc hRs (Or.inr (Or.inl ⟨rfl, rfl⟩)) (acW (by simp)) hd h1 h2 h3 h4 (hnx _ _ _ _ h)
    | byte => exact wg_newa (t := 13) F hsz hRc hRs (Or.inr (Or.inr (Or.inl ⟨rfl, rfl⟩))) (acW (by simp)) hd h1 h2 h3 h4 (hnx _ _ _ _ h)
    | boolean => exact wg_newa (t := 14) F hsz hRc hRs (Or.inr (Or.inr (Or.inr ⟨rfl, rfl⟩))) (acW (by simp)) hd h1 h2 h3 h4 (hnx _ _ _ _ h)
    | _ => cases h
  | anewarray ix =>
    obtain ⟨rfl, hF⟩ := and_eq (show (decide (ins = Instr.anewarray ix) && _) = true from hE)
    obtain ⟨rfl, hG⟩ := and_n hF
    have hix : ix < 1000 := Nat.le_of_ble_eq_true hG
    obtain ⟨n, r, rfl, h5⟩ := nx1_of (show nx1 st _ from h)
    cases hv : as2 KLg (own * 1000 + ix) with
    | none => rw [hv] at h5; cases h5
    | some v =>
      rw [hv] at h5
      obtain ⟨q, ps⟩ := v
      obtain ⟨g1, g2⟩ := klOk hix hv
      dsimp only at h5
      obtain ⟨hc, h1, h2, h3, h4, h6⟩ := cond_t h5
      rw [Bool.or_eq_true] at hc
      exact wg_newq F hsz hRc hRs (hc.imp Nat.eq_of_beq_eq_true Nat.eq_of_beq_eq_true) g2 hd h1 h2 h3 h4 (hnx _ _ _ _ h6)
  | new ix =>
    obtain ⟨rfl, hF⟩ := and_eq (show (decide (ins = Instr.new ix) && _) = true from hE)
    obtain ⟨rfl, hG⟩ := and_n hF
    have hix : ix < 1000 := Nat.le_of_ble_eq_true hG
    have h2 : (match (generalizing := false) as2 KLg (own * 1000 + ix) with | some (q, _) => (mS M).length + 1 ≤ sz0 + mc0 ∧ mT M + nF q ≤ tt0 + ms0 ∧ nx (pc + 3) K (vR (some (mS M).length) :: st) (mN M q (nF q)) | none => False) := h
    cases hv : as2 KLg (own * 1000 + ix) with
    | none => rw [hv] at h2; cases h2
    | some v =>
      rw [hv] at h2
      obtain ⟨q, ps⟩ := v
      obtain ⟨g1, g2⟩ := klOk hix hv
      exact wg_new F hsz hRc hRs g1 g2 (clsW g1).1 (clsW g1).2 hd h2.1 h2.2.1 (hnx _ _ _ _ h2.2.2)
  | invokevirtual ix =>
    obtain ⟨rfl, hF⟩ := and_eq (show (decide (ins = Instr.invokevirtual ix) && _) = true from hE)
    obtain ⟨rfl, hG⟩ := and_n hF
    rw [Bool.and_eq_true] at hG
    exact call_ok (kd0 := 0) F hsz hRc hRs hC hnx (Nat.le_of_ble_eq_true hG.1) (Or.inl ⟨rfl, hd⟩) hG.2 h
  | invokestatic ix =>
    obtain ⟨rfl, hF⟩ := and_eq (show (decide (ins = Instr.invokestatic ix) && _) = true from hE)
    obtain ⟨rfl, hG⟩ := and_n hF
    rw [Bool.and_eq_true] at hG
    have hix : ix < 1000 := Nat.le_of_ble_eq_true hG.1
    have hE2 := hG.2
    have h2 : cond (Nat.beq t 999) (zcopy st M (fun st' M' => nx (pc + 3) K st' M')) (zcall own ix sz0 tt0 mc0 ms0 cw st M (fun st' M' => nx (pc + 3) K st' M')) := h
    dsimp only at hE2
    cases hb1 : Nat.beq t 999 with
    | false =>
      rw [hb1] at h2 hE2
      exact call_ok (kd0 := 1) F hsz hRc hRs hC hnx hix (Or.inr (Or.inl ⟨rfl, hd⟩)) hE2 h2
    | true =>
      rw [hb1] at h2 hE2
      have h2 : zcopy st M (fun st' M' => nx (pc + 3) K st' M') := h2
      unfold zcopy at h2
      split at h2
      · obtain ⟨hc, n0, n1, k0, k1, k2, k3, k4, k5, k6, k7⟩ := cond_t h2
        exact wg_copy F (alOk hix hE2) objW.2.2.1 objW.2.2.2.1 objW.2.2.2.2 hRf hRl (Nat.le_of_ble_eq_true hc) hd k0 k1 k2 k3 k4 k5 k6 (hnx _ _ _ _ k7)
      · cases h2
  | invokespecial ix =>
    obtain ⟨rfl, hF⟩ := and_eq (show (decide (ins = Instr.invokespecial ix) && _) = true from hE)
    obtain ⟨rfl, hG⟩ := and_n hF
    rw [Bool.and_eq_true] at hG
    have hix : ix < 1000 := Nat.le_of_ble_eq_true hG.1
    have hE2 := hG.2
    have h2 : cond (Nat.beq t 998) (match (generalizing := false) st with | .inr (.inr (.inl (some _))) :: r => cond (Nat.ble (cs r) 8) (nx (pc + 3) K r M) False | _ => False) (zcall own ix sz0 tt0 mc0 ms0 cw st M (fun st' M' => nx (pc + 3) K st' M')) := h
    dsimp only at hE2
    cases hb1 : Nat.beq t 998 with
    | false =>
      rw [hb1] at h2 hE2
      exact call_ok (kd0 := 2) F hsz hRc hRs hC hnx hix (Or.inr (Or.inr ⟨rfl, hd⟩)) hE2 h2
    | true =>
      rw [hb1] at h2 hE2
      cases st with
      | nil => cases h2
      | cons v r =>
        rcases v with x | x | x | x
        · cases h2
        · cases h2
        · cases x with
          | none => cases h2
          | some o =>
            obtain ⟨hc, h3⟩ := cond_t (show cond (Nat.ble (cs r) 8) (nx (pc + 3) K r M) False from h2)
            exact wg_obj F (olOk hix hE2) objW.1 objW.2.1 hRf hRl (Nat.le_of_ble_eq_true hc) hd (hnx _ _ _ _ h3)
        · cases h2
  | ireturn =>
    obtain ⟨rfl, hlen⟩ := and_eq (show (decide (ins = Instr.ireturn) && Nat.beq len 1) = true from hE)
    have hlen := Nat.eq_of_beq_eq_true hlen
    subst hlen
    cases st with
    | nil => cases h
    | cons v r =>
      rcases v with x | x | x | x
      · cases r with
        | nil => exact hri _ _ _ _ hd h
        | cons _ _ => cases h
      · cases r <;> cases h
      · cases r <;> cases h
      · cases r <;> cases h
  | lreturn =>
    obtain ⟨rfl, hlen⟩ := and_eq (show (decide (ins = Instr.lreturn) && Nat.beq len 1) = true from hE)
    have hlen := Nat.eq_of_beq_eq_true hlen
    subst hlen
    cases st with
    | nil => cases h
    | cons v r =>
      rcases v with x | x | x | x
      · cases r <;> cases h
      · cases r with
        | nil => exact hrl _ _ _ _ hd h
        | cons _ _ => cases h
      · cases r <;> cases h
      · cases r <;> cases h
  | areturn =>
    obtain ⟨rfl, hlen⟩ := and_eq (show (decide (ins = Instr.areturn) && Nat.beq len 1) = true from hE)
    have hlen := Nat.eq_of_beq_eq_true hlen
    subst hlen
    cases st with
    | nil => cases h
    | cons v r =>
      rcases v with x | x | x | x
      · cases r <;> cases h
      · cases r <;> cases h
      · cases r with
        | nil => exact hra _ _ _ _ hd h
        | cons _ _ => cases h
      · cases r <;> cases h
  | return_ =>
    obtain ⟨rfl, hlen⟩ := and_eq (show (decide (ins = Instr.return_) && Nat.beq len 1) = true from hE)
    have hlen := Nat.eq_of_beq_eq_true hlen
    subst hlen
    cases st with
    | nil => exact hrv _ _ _ hd h
    | cons _ _ => cases h
  | _ =>
    unfold eqI at hE
    dsimp only at hE
    obtain ⟨rfl, -⟩ := and_eq hE
    exact False.elim h
end SOK
