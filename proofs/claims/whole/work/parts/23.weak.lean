/-! ===== a run does not mind more locals ===== -/
def lesK : LL → LL → Prop
  | [], [] => True
  | none :: r, _ :: r' => lesK r r'
  | some v :: r, x :: r' => x = some v ∧ lesK r r'
  | _, _ => False
theorem lesK_gt : ∀ {K K' : LL} (_ : lesK K K') {n : Nat} {v : VV}, gt K n = some v → gt K' n = some v
  | [], [], _, n, v, h => h
  | [], _ :: _, hl, _, _, _ => by cases hl
  | none :: r, [], hl, _, _, _ => by cases hl
  | some w :: r, [], hl, _, _, _ => by cases hl
  | none :: r, y :: r', hl, 0, v, h => by cases h
  | none :: r, y :: r', hl, n + 1, v, h => lesK_gt (K := r) (K' := r') hl h
  | some w :: r, y :: r', hl, 0, v, h => by rw [← h]; exact hl.1
  | some w :: r, y :: r', hl, n + 1, v, h => lesK_gt (K := r) (K' := r') hl.2 h
theorem lesK_len : ∀ {K K' : LL} (_ : lesK K K'), K.length = K'.length
  | [], [], _ => rfl
  | [], _ :: _, hl => by cases hl
  | none :: r, [], hl => by cases hl
  | some w :: r, [], hl => by cases hl
  | none :: r, y :: r', hl => by simp [lesK_len (K := r) (K' := r') hl]
  | some w :: r, y :: r', hl => by simp [lesK_len (K := r) (K' := r') hl.2]
theorem lesK_sto : ∀ {K K' : LL} (_ : lesK K K') (a : Nat) (x : Option VV), lesK (sto K a x) (sto K' a x)
  | [], [], _, _, _ => trivial
  | [], _ :: _, hl, _, _ => by cases hl
  | none :: r, [], hl, _, _ => by cases hl
  | some w :: r, [], hl, _, _ => by cases hl
  | none :: r, y :: r', hl, 0, none => hl
  | none :: r, y :: r', hl, 0, some v => ⟨rfl, hl⟩
  | some w :: r, y :: r', hl, 0, none => hl.2
  | some w :: r, y :: r', hl, 0, some v => ⟨rfl, hl.2⟩
  | none :: r, y :: r', hl, a + 1, x => lesK_sto (K := r) (K' := r') hl a x
  | some w :: r, y :: r', hl, a + 1, x => ⟨hl.1, lesK_sto (K := r) (K' := r') hl.2 a x⟩
theorem lesK_kil : ∀ {K K' : LL} (_ : lesK K K') (a : Nat), lesK (kil K a) (kil K' a)
  | [], [], _, _ => trivial
  | [], _ :: _, hl, _ => by cases hl
  | none :: r, [], hl, _ => by cases hl
  | some w :: r, [], hl, _ => by cases hl
  | none :: r, y :: r', hl, 0 => hl
  | some w :: r, y :: r', hl, 0 => hl
  | none :: r, y :: r', hl, 1 => by
    have hl : lesK r r' := hl
    show lesK (cond (isL2 none) (none :: r) (none :: r)) (cond (isL2 y) (none :: r') (y :: r'))
    cases isL2 y <;> exact hl
  | some w :: r, y :: r', hl, 1 => by
    have e : y = some w := hl.1
    subst e
    show lesK (cond (isL2 (some w)) (none :: r) (some w :: r)) (cond (isL2 (some w)) (none :: r') (some w :: r'))
    cases isL2 (some w) with
    | true => exact hl.2
    | false => exact hl
  | none :: r, y :: r', hl, a + 2 => lesK_kil (K := r) (K' := r') hl (a + 1)
  | some w :: r, y :: r', hl, a + 2 => ⟨hl.1, lesK_kil (K := r) (K' := r') hl.2 (a + 1)⟩
section WEAK
variable {own : Nat} {isI : Bool} {sz0 tt0 mc0 ms0 sl : Nat} {sx : Nat → Int32} {cw : Nat → List VV → MM → (Option VV → MM → Prop) → Prop} {nx nx' : Nat → LL → List VV → MM → Prop} {rt : Option VV → MM → Prop}
theorem zcall_mono {ix : Nat} {st : List VV} {M : MM} {f g : List VV → MM → Prop} (hcw : cwDet cw) (hfg : ∀ st M, f st M → g st M) (h : zcall own ix sz0 tt0 mc0 ms0 cw st M f) : zcall own ix sz0 tt0 mc0 ms0 cw st M g := by
  obtain ⟨st', M', a1, a2⟩ := zcall_det hcw h
  exact a2 _ (hfg _ _ a1)
set_option maxHeartbeats 4000000 in
theorem step_weak {e0 : EE} {pc : Nat} {K K' : LL} {st : List VV} {M : MM} (hcw : cwDet cw) (hnx : ∀ pc K K' st M, lesK K K' → nx pc K st M → nx' pc K' st M) (hK : lesK K K') (h : stepW own isI sz0 tt0 mc0 ms0 sl sx cw nx rt e0 pc K st M) : stepW own isI sz0 tt0 mc0 ms0 sl sx cw nx' rt e0 pc K' st M := by
  obtain ⟨ins, len, t, i⟩ := e0
  cases ins with
  | bipush _ =>
    exact hnx _ _ _ _ _ hK h
  | lconst _ =>
    exact hnx _ _ _ _ _ hK h
  | aconst_null =>
    exact hnx _ _ _ _ _ hK h
  | goto _ =>
    exact hnx _ _ _ _ _ hK h
  | ldc ix =>
    unfold stepW at h ⊢
    dsimp only at h ⊢
    cases hv : as2 KIg (own * 1000 + ix) with
    | none => rw [hv] at h; cases h
    | some v =>
      rw [hv] at h
      exact hnx _ _ _ _ _ hK h
  | ldc2_w ix =>
    unfold stepW at h ⊢
    dsimp only at h ⊢
    cases hv : as2 KJg (own * 1000 + ix) with
    | none => rw [hv] at h; cases h
    | some v =>
      rw [hv] at h
      exact hnx _ _ _ _ _ hK h
  | iload a =>
    unfold stepW at h ⊢
    dsimp only at h ⊢
    cases hg : gt K a with
    | none => rw [hg] at h; cases h
    | some v =>
      rw [hg] at h
      rw [lesK_gt hK hg]
      rcases v with x | x | x <;> first | cases h; done | exact hnx _ _ _ _ _ hK h
  | lload a =>
    unfold stepW at h ⊢
    dsimp only at h ⊢
    cases hg : gt K a with
    | none => rw [hg] at h; cases h
    | some v =>
      rw [hg] at h
      rw [lesK_gt hK hg]
      rcases v with x | x | x <;> first | cases h; done | exact hnx _ _ _ _ _ hK h
  | aload a =>
    unfold stepW at h ⊢
    dsimp only at h ⊢
    cases hg : gt K a with
    | none => rw [hg] at h; cases h
    | some v =>
      rw [hg] at h
      rw [lesK_gt hK hg]
      rcases v with x | x | x <;> first | cases h; done | exact hnx _ _ _ _ _ hK h
  | iinc a _ =>
    unfold stepW at h ⊢
    dsimp only at h ⊢
    cases hg : gt K a with
    | none => rw [hg] at h; cases h
    | some v =>
      rw [hg] at h
      rw [lesK_gt hK hg]
      rcases v with x | x | x
      · exact hnx _ _ _ _ _ (lesK_sto (lesK_kil hK a) a _) h
      · cases h
      · cases h
  | istore a =>
    cases st with
    | nil => cases h
    | cons v r =>
      rcases v with x | x | x
      all_goals first
        | cases h; done
        | (obtain ⟨hc, h⟩ := cond_t (show cond (Nat.blt a K.length) _ False from h)
           show cond (Nat.blt a K'.length) _ False
           rw [← lesK_len hK, hc]
           exact hnx _ _ _ _ _ (lesK_sto (lesK_kil hK a) a _) h)
  | lstore a =>
    cases st with
    | nil => cases h
    | cons v r =>
      rcases v with x | x | x
      all_goals first
        | cases h; done
        | (obtain ⟨hc, h⟩ := cond_t (show cond (Nat.blt (a + 1) K.length) _ False from h)
           show cond (Nat.blt (a + 1) K'.length) _ False
           rw [← lesK_len hK, hc]
           exact hnx _ _ _ _ _ (lesK_sto (lesK_sto (lesK_kil hK a) a _) (a + 1) _) h)
  | astore a =>
    cases st with
    | nil => cases h
    | cons v r =>
      rcases v with x | x | x
      all_goals first
        | cases h; done
        | (obtain ⟨hc, h⟩ := cond_t (show cond (Nat.blt a K.length) _ False from h)
           show cond (Nat.blt a K'.length) _ False
           rw [← lesK_len hK, hc]
           exact hnx _ _ _ _ _ (lesK_sto (lesK_kil hK a) a _) h)
  | iadd =>
    obtain ⟨a1, a2, r, rfl, h⟩ := nx2_of (show nx2 st _ from h)
    exact hnx _ _ _ _ _ hK h
  | isub =>
    obtain ⟨a1, a2, r, rfl, h⟩ := nx2_of (show nx2 st _ from h)
    exact hnx _ _ _ _ _ hK h
  | imul =>
    obtain ⟨a1, a2, r, rfl, h⟩ := nx2_of (show nx2 st _ from h)
    exact hnx _ _ _ _ _ hK h
  | iand =>
    obtain ⟨a1, a2, r, rfl, h⟩ := nx2_of (show nx2 st _ from h)
    exact hnx _ _ _ _ _ hK h
  | ior =>
    obtain ⟨a1, a2, r, rfl, h⟩ := nx2_of (show nx2 st _ from h)
    exact hnx _ _ _ _ _ hK h
  | ixor =>
    obtain ⟨a1, a2, r, rfl, h⟩ := nx2_of (show nx2 st _ from h)
    exact hnx _ _ _ _ _ hK h
  | ishl =>
    obtain ⟨a1, a2, r, rfl, h⟩ := nx2_of (show nx2 st _ from h)
    exact hnx _ _ _ _ _ hK h
  | ishr =>
    obtain ⟨a1, a2, r, rfl, h⟩ := nx2_of (show nx2 st _ from h)
    exact hnx _ _ _ _ _ hK h
  | iushr =>
    obtain ⟨a1, a2, r, rfl, h⟩ := nx2_of (show nx2 st _ from h)
    exact hnx _ _ _ _ _ hK h
  | idiv =>
    obtain ⟨a1, a2, r, rfl, h⟩ := nx2_of (show nx2 st _ from h)
    exact ⟨h.1, hnx _ _ _ _ _ hK h.2⟩
  | irem =>
    obtain ⟨a1, a2, r, rfl, h⟩ := nx2_of (show nx2 st _ from h)
    exact ⟨h.1, hnx _ _ _ _ _ hK h.2⟩
  | ineg =>
    obtain ⟨a1, r, rfl, h⟩ := nx1_of (show nx1 st _ from h)
    exact hnx _ _ _ _ _ hK h
  | i2l =>
    obtain ⟨a1, r, rfl, h⟩ := nx1_of (show nx1 st _ from h)
    exact hnx _ _ _ _ _ hK h
  | i2b =>
    obtain ⟨a1, r, rfl, h⟩ := nx1_of (show nx1 st _ from h)
    exact hnx _ _ _ _ _ hK h
  | l2i =>
    obtain ⟨a1, r, rfl, h⟩ := nl1_of (show nl1 st _ from h)
    exact hnx _ _ _ _ _ hK h
  | lneg =>
    obtain ⟨a1, r, rfl, h⟩ := nl1_of (show nl1 st _ from h)
    exact hnx _ _ _ _ _ hK h
  | ladd =>
    obtain ⟨a1, a2, r, rfl, h⟩ := nl2_of (show nl2 st _ from h)
    exact hnx _ _ _ _ _ hK h
  | lsub =>
    obtain ⟨a1, a2, r, rfl, h⟩ := nl2_of (show nl2 st _ from h)
    exact hnx _ _ _ _ _ hK h
  | lmul =>
    obtain ⟨a1, a2, r, rfl, h⟩ := nl2_of (show nl2 st _ from h)
    exact hnx _ _ _ _ _ hK h
  | land =>
    obtain ⟨a1, a2, r, rfl, h⟩ := nl2_of (show nl2 st _ from h)
    exact hnx _ _ _ _ _ hK h
  | lor =>
    obtain ⟨a1, a2, r, rfl, h⟩ := nl2_of (show nl2 st _ from h)
    exact hnx _ _ _ _ _ hK h
  | lcmp =>
    obtain ⟨a1, a2, r, rfl, h⟩ := nl2_of (show nl2 st _ from h)
    exact hnx _ _ _ _ _ hK h
  | ldiv =>
    obtain ⟨a1, a2, r, rfl, h⟩ := nl2_of (show nl2 st _ from h)
    exact ⟨h.1, hnx _ _ _ _ _ hK h.2⟩
  | lrem =>
    obtain ⟨a1, a2, r, rfl, h⟩ := nl2_of (show nl2 st _ from h)
    exact ⟨h.1, hnx _ _ _ _ _ hK h.2⟩
  | lshl =>
    obtain ⟨a1, a2, r, rfl, h⟩ := nli_of (show nli st _ from h)
    exact hnx _ _ _ _ _ hK h
  | lshr =>
    obtain ⟨a1, a2, r, rfl, h⟩ := nli_of (show nli st _ from h)
    exact hnx _ _ _ _ _ hK h
  | lushr =>
    obtain ⟨a1, a2, r, rfl, h⟩ := nli_of (show nli st _ from h)
    exact hnx _ _ _ _ _ hK h
  | dup =>
    cases st with
    | nil => cases h
    | cons v r =>
      obtain ⟨hc, h⟩ := cond_t (show cond (Nat.beq (c2 v) 1) _ False from h)
      show cond (Nat.beq (c2 v) 1) _ False
      rw [hc]
      exact hnx _ _ _ _ _ hK h
  | pop =>
    cases st with
    | nil => cases h
    | cons v r =>
      obtain ⟨hc, h⟩ := cond_t (show cond (Nat.beq (c2 v) 1) _ False from h)
      show cond (Nat.beq (c2 v) 1) _ False
      rw [hc]
      exact hnx _ _ _ _ _ hK h
  | dup2 =>
    cases st with
    | nil => cases h
    | cons v r =>
      cases r with
      | nil => cases h
      | cons w r =>
        obtain ⟨hc, h⟩ := cond_t (show cond (Nat.beq (c2 v) 1 && Nat.beq (c2 w) 1) _ False from h)
        show cond (Nat.beq (c2 v) 1 && Nat.beq (c2 w) 1) _ False
        rw [hc]
        exact hnx _ _ _ _ _ hK h
  | ifCond cnd _ =>
    obtain ⟨a1, r, rfl, h⟩ := nx1_of (show nx1 st _ from h)
    cases cnd <;> exact ⟨fun q => hnx _ _ _ _ _ hK (h.1 q), fun q => hnx _ _ _ _ _ hK (h.2 q)⟩
  | if_icmp cnd _ =>
    obtain ⟨a1, a2, r, rfl, h⟩ := nx2_of (show nx2 st _ from h)
    cases cnd <;> exact ⟨fun q => hnx _ _ _ _ _ hK (h.1 q), fun q => hnx _ _ _ _ _ hK (h.2 q)⟩
  | ifnull _ =>
    cases st with
    | nil => cases h
    | cons v r =>
      rcases v with x | x | x | x
      · cases h
      · cases h
      · exact ⟨fun q => hnx _ _ _ _ _ hK (h.1 q), fun q => hnx _ _ _ _ _ hK (h.2 q)⟩
      · cases h
  | ifnonnull _ =>
    cases st with
    | nil => cases h
    | cons v r =>
      rcases v with x | x | x | x
      · cases h
      · cases h
      · exact ⟨fun q => hnx _ _ _ _ _ hK (h.1 q), fun q => hnx _ _ _ _ _ hK (h.2 q)⟩
      · cases h
  | tableswitch d lo hi offs =>
    obtain ⟨a1, r, rfl, h⟩ := nx1_of (show nx1 st _ from h)
    refine ⟨fun q => ⟨(h.1 q).1, hnx _ _ _ _ _ hK (h.1 q).2⟩, fun q1 q2 => ?_⟩
    obtain ⟨off, g0, g1, g2⟩ := h.2 q1 q2
    exact ⟨off, g0, g1, hnx _ _ _ _ _ hK g2⟩
  | getfield ix =>
    unfold stepW at h ⊢
    dsimp only at h ⊢
    cases hv : as2 FLg (own * 1000 + ix) with
    | none => rw [hv] at h; cases h
    | some v =>
      obtain ⟨q, k, ne, ps⟩ := v
      rw [hv] at h
      dsimp only at h ⊢
      cases st with
      | nil => cases h
      | cons v r =>
        rcases v with x | x | x | x
        · cases h
        · cases h
        · cases x with
          | none => cases h
          | some o => exact ⟨h.1, hnx _ _ _ _ _ hK h.2⟩
        · cases h
  | putfield ix =>
    unfold stepW at h ⊢
    dsimp only at h ⊢
    cases hv : as2 FLg (own * 1000 + ix) with
    | none => rw [hv] at h; cases h
    | some v =>
      obtain ⟨q, k, ne, ps⟩ := v
      rw [hv] at h
      dsimp only at h ⊢
      cases st with
      | nil => cases h
      | cons w st =>
        cases st with
        | nil => cases h
        | cons v r =>
          rcases v with x | x | x | x
          · cases h
          · cases h
          · cases x with
            | none => cases h
            | some o =>
              obtain ⟨hc, h3, h4⟩ := cond_t (show cond (cond (fFin q k) (isI && (Nat.beq own q && Nat.beq ne 0)) true) (kd M o q ∧ wrF M q o k w (fun M' => nx (pc + 3) K r M')) False from h)
              show cond (cond (fFin q k) (isI && (Nat.beq own q && Nat.beq ne 0)) true) (kd M o q ∧ wrF M q o k w (fun M' => nx' (pc + 3) K' r M')) False
              rw [hc]
              exact ⟨h3, wrF_mono (fun M' hm => hnx _ _ _ _ _ hK hm) h4⟩
          · cases h
  | iaload =>
    cases st with
    | nil => cases h
    | cons v st =>
      rcases v with j | j | j
      · cases st with
        | nil => cases h
        | cons v r =>
          rcases v with x | x | x | x
          · cases h
          · cases h
          · cases x with
            | none => cases h
            | some o => exact ⟨h.1, hnx _ _ _ _ _ hK h.2⟩
          · exact ⟨h.1, hnx _ _ _ _ _ hK h.2⟩
      · cases h
      · cases h
  | laload =>
    cases st with
    | nil => cases h
    | cons v st =>
      rcases v with j | j | j
      · cases st with
        | nil => cases h
        | cons v r =>
          rcases v with x | x | x | x
          · cases h
          · cases h
          · cases x with
            | none => cases h
            | some o => exact ⟨h.1, hnx _ _ _ _ _ hK h.2⟩
          · cases h
      · cases h
      · cases h
  | baload =>
    cases st with
    | nil => cases h
    | cons v st =>
      rcases v with j | j | j
      · cases st with
        | nil => cases h
        | cons v r =>
          rcases v with x | x | x | x
          · cases h
          · cases h
          · cases x with
            | none => cases h
            | some o => 
              obtain ⟨hc, h⟩ := cond_t (show cond (Nat.beq t 13 || Nat.beq t 14) _ False from h)
              show cond (Nat.beq t 13 || Nat.beq t 14) _ False
              rw [hc]
              exact ⟨h.1, hnx _ _ _ _ _ hK h.2⟩
          · cases h
      · cases h
      · cases h
  | aaload =>
    cases st with
    | nil => cases h
    | cons v st =>
      rcases v with j | j | j
      · cases st with
        | nil => cases h
        | cons v r =>
          rcases v with x | x | x | x
          · cases h
          · cases h
          · cases x with
            | none => cases h
            | some o => 
              obtain ⟨hc, h⟩ := cond_t (show cond (Nat.beq t 15 || Nat.beq t 16) _ False from h)
              show cond (Nat.beq t 15 || Nat.beq t 16) _ False
              rw [hc]
              exact ⟨h.1, hnx _ _ _ _ _ hK h.2⟩
          · cases h
      · cases h
      · cases h
  | iastore =>
    cases st with
    | nil => cases h
    | cons w st =>
      rcases w with x | x | x | x
      · cases st with
        | nil => cases h
        | cons v st =>
          rcases v with j | j | j
          · cases st with
            | nil => cases h
            | cons v r =>
              rcases v with z | z | z | z
              · cases h
              · cases h
              · cases z with
                | none => cases h
                | some o => exact ⟨h.1, hnx _ _ _ _ _ hK h.2⟩
              · cases h
          · cases h
          · cases h
      · cases h
      · cases h
      · cases h
  | lastore =>
    cases st with
    | nil => cases h
    | cons w st =>
      rcases w with x | x | x | x
      · cases h
      · cases st with
        | nil => cases h
        | cons v st =>
          rcases v with j | j | j
          · cases st with
            | nil => cases h
            | cons v r =>
              rcases v with z | z | z | z
              · cases h
              · cases h
              · cases z with
                | none => cases h
                | some o => exact ⟨h.1, hnx _ _ _ _ _ hK h.2⟩
              · cases h
          · cases h
          · cases h
      · cases h
      · cases h
  | bastore =>
    cases st with
    | nil => cases h
    | cons w st =>
      rcases w with x | x | x | x
      · cases st with
        | nil => cases h
        | cons v st =>
          rcases v with j | j | j
          · cases st with
            | nil => cases h
            | cons v r =>
              rcases v with z | z | z | z
              · cases h
              · cases h
              · cases z with
                | none => cases h
                | some o => 
                  have h2 : cond (Nat.beq t 13) (inb M o 13 j ∧ nx (pc + 1) K r (sI M o j.toNatClampNeg x.toInt8.toInt32)) (cond (Nat.beq t 14) (inb M o 14 j ∧ nx (pc + 1) K r (sI M o j.toNatClampNeg (x &&& 1))) False) := h
                  show cond (Nat.beq t 13) (inb M o 13 j ∧ nx' (pc + 1) K' r (sI M o j.toNatClampNeg x.toInt8.toInt32)) (cond (Nat.beq t 14) (inb M o 14 j ∧ nx' (pc + 1) K' r (sI M o j.toNatClampNeg (x &&& 1))) False)
                  cases hb1 : Nat.beq t 13 with
                  | true => rw [hb1] at h2; exact ⟨h2.1, hnx _ _ _ _ _ hK h2.2⟩
                  | false =>
                    rw [hb1] at h2
                    obtain ⟨hb2, h3⟩ := cond_t (show cond (Nat.beq t 14) (inb M o 14 j ∧ nx (pc + 1) K r (sI M o j.toNatClampNeg (x &&& 1))) False from h2)
                    rw [hb2]
                    exact ⟨h3.1, hnx _ _ _ _ _ hK h3.2⟩
              · cases h
          · cases h
          · cases h
      · cases h
      · cases h
      · cases h
  | aastore =>
    cases st with
    | nil => cases h
    | cons w st =>
      rcases w with x | x | x | x
      · cases h
      · cases h
      · cases x with
        | none => cases h
        | some v0 =>
          cases st with
          | nil => cases h
          | cons v st =>
            rcases v with j | j | j
            · cases st with
              | nil => cases h
              | cons v r =>
                rcases v with z | z | z | z
                · cases h
                · cases h
                · cases z with
                  | none => cases h
                  | some o =>
                    obtain ⟨hc, h⟩ := cond_t (show cond (Nat.beq t 15 || Nat.beq t 16) _ False from h)
                    show cond (Nat.beq t 15 || Nat.beq t 16) _ False
                    rw [hc]
                    exact ⟨h.1, h.2.1, hnx _ _ _ _ _ hK h.2.2⟩
                · cases h
            · cases h
            · cases h
      · cases h
  | arraylength =>
    cases st with
    | nil => cases h
    | cons v r =>
      rcases v with x | x | x | x
      · cases h
      · cases h
      · cases h
      · exact hnx _ _ _ _ _ hK h
  | newarray ty =>
    obtain ⟨n, r, rfl, h1, h2, h3, h4, h⟩ := nx1_of (show nx1 st _ from h)
    refine ⟨h1, h2, h3, h4, ?_⟩
    cases ty <;> first | exact hnx _ _ _ _ _ hK h | cases h
  | anewarray ix =>
    obtain ⟨n, r, rfl, h5⟩ := nx1_of (show nx1 st _ from h)
    show (match as2 KLg (own * 1000 + ix) with | some (c, _) => cond (Nat.beq c 7 || Nat.beq c 8) (¬ n < 0 ∧ n.toNatClampNeg ≤ 1000000 ∧ (mS M).length + 1 ≤ sz0 + mc0 ∧ mT M + n.toNatClampNeg ≤ tt0 + ms0 ∧ nx' (pc + 3) K' (vR (some (mS M).length) :: r) (mN M (c + 8) n.toNatClampNeg)) False | none => False)
    cases hv : as2 KLg (own * 1000 + ix) with
    | none => rw [hv] at h5; cases h5
    | some v =>
      rw [hv] at h5
      obtain ⟨q, ps⟩ := v
      dsimp only at h5 ⊢
      obtain ⟨hc, h1, h2, h3, h4, h6⟩ := cond_t h5
      rw [hc]
      exact ⟨h1, h2, h3, h4, hnx _ _ _ _ _ hK h6⟩
  | new ix =>
    unfold stepW at h ⊢
    dsimp only at h ⊢
    cases hv : as2 KLg (own * 1000 + ix) with
    | none => rw [hv] at h; cases h
    | some v =>
      obtain ⟨q, ps⟩ := v
      rw [hv] at h
      exact ⟨h.1, h.2.1, hnx _ _ _ _ _ hK h.2.2⟩
  | invokevirtual ix => exact zcall_mono hcw (fun st M hm => hnx _ _ _ _ _ hK hm) (show zcall own ix sz0 tt0 mc0 ms0 cw st M (fun st' M' => nx (pc + 3) K st' M') from h)
  | invokestatic ix =>
    have h2 : cond (Nat.beq t 999) (zcopy st M (fun st' M' => nx (pc + 3) K st' M')) (zcall own ix sz0 tt0 mc0 ms0 cw st M (fun st' M' => nx (pc + 3) K st' M')) := h
    show cond (Nat.beq t 999) (zcopy st M (fun st' M' => nx' (pc + 3) K' st' M')) (zcall own ix sz0 tt0 mc0 ms0 cw st M (fun st' M' => nx' (pc + 3) K' st' M'))
    cases hb1 : Nat.beq t 999 with
    | false => rw [hb1] at h2; exact zcall_mono hcw (fun st M hm => hnx _ _ _ _ _ hK hm) h2
    | true =>
      rw [hb1] at h2
      have h2 : zcopy st M (fun st' M' => nx (pc + 3) K st' M') := h2
      dsimp only [cond]
      unfold zcopy at h2 ⊢
      split at h2
      · obtain ⟨hc, n0, n1, k0, k1, k2, k3, k4, k5, k6, k7⟩ := cond_t h2
        dsimp only
        rw [hc]
        exact ⟨n0, n1, k0, k1, k2, k3, k4, k5, k6, hnx _ _ _ _ _ hK k7⟩
      · cases h2
  | invokespecial ix =>
    have h2 : cond (Nat.beq t 998) (match (generalizing := false) st with | .inr (.inr (.inl (some _))) :: r => cond (Nat.ble (cs r) 8) (nx (pc + 3) K r M) False | _ => False) (zcall own ix sz0 tt0 mc0 ms0 cw st M (fun st' M' => nx (pc + 3) K st' M')) := h
    cases hb1 : Nat.beq t 998 with
    | false =>
      rw [hb1] at h2
      show cond (Nat.beq t 998) _ (zcall own ix sz0 tt0 mc0 ms0 cw st M (fun st' M' => nx' (pc + 3) K' st' M'))
      rw [hb1]
      exact zcall_mono hcw (fun st M hm => hnx _ _ _ _ _ hK hm) h2
    | true =>
      rw [hb1] at h2
      cases st with
      | nil => cases h2
      | cons v r =>
        rcases v with x | x | x | x
        · cases h2
        · cases h2
        · cases x with
          | none => cases h2
          | some o =>
            obtain ⟨hc, h3⟩ := cond_t (show cond (Nat.ble (cs r) 8) (nx (pc + 3) K r M) False from h2)
            show cond (Nat.beq t 998) (cond (Nat.ble (cs r) 8) (nx' (pc + 3) K' r M) False) _
            rw [hb1, hc]
            exact hnx _ _ _ _ _ hK h3
        · cases h2
  | ireturn => exact h
  | lreturn => exact h
  | areturn => exact h
  | return_ => exact h
  | _ => exact False.elim h
variable {tb : Nat → Option EE}
theorem run_weak (hcw : cwDet cw) : ∀ (n pc : Nat) (K K' : LL) (st : List VV) (M : MM), lesK K K' → runN own isI sz0 tt0 mc0 ms0 sl sx cw rt tb n pc K st M → runN own isI sz0 tt0 mc0 ms0 sl sx cw rt tb n pc K' st M := by
  intro n
  induction n with
  | zero => intro pc K K' st M _ h; cases h
  | succ n ih =>
    intro pc K K' st M hK h
    unfold runN at h ⊢
    cases ht : tb pc with
    | none => rw [ht] at h; cases h
    | some e0 =>
      rw [ht] at h
      exact step_weak hcw ih hK h
theorem RN_weak (hcw : cwDet cw) {pc : Nat} {K K' : LL} {st : List VV} {M : MM} (hK : lesK K K') (h : RN own isI sz0 tt0 mc0 ms0 sl sx cw rt tb pc K st M) : RN own isI sz0 tt0 mc0 ms0 sl sx cw rt tb pc K' st M := by
  obtain ⟨n, hn⟩ := h
  exact ⟨n, run_weak hcw n pc K K' st M hK hn⟩
end WEAK
