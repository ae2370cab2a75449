/-! ===== a step of the small machine goes to one place ===== -/
section DET
variable {own : Nat} {isI : Bool} {sz0 tt0 mc0 ms0 sl : Nat} {sx : Nat → Int32} {cw : Nat → List VV → MM → (Option VV → MM → Prop) → Prop} {nx : Nat → LL → List VV → MM → Prop} {rt : Option VV → MM → Prop}
def cwDet (cw : Nat → List VV → MM → (Option VV → MM → Prop) → Prop) : Prop := ∀ j as M P, cw j as M P → ∃ v M', P v M' ∧ ∀ P' : Option VV → MM → Prop, P' v M' → cw j as M P'
/-- where a step goes: to a next place, or to the method's end -/
def Goes1 (own : Nat) (isI : Bool) (sz0 tt0 mc0 ms0 sl : Nat) (sx : Nat → Int32) (cw : Nat → List VV → MM → (Option VV → MM → Prop) → Prop) (nx : Nat → LL → List VV → MM → Prop) (rt : Option VV → MM → Prop) (e : EE) (pc : Nat) (K : LL) (st : List VV) (M : MM) : Prop :=
  (∃ pc' K' st' M', nx pc' K' st' M' ∧ ∀ (nx' : Nat → LL → List VV → MM → Prop) (rt' : Option VV → MM → Prop), nx' pc' K' st' M' → stepW own isI sz0 tt0 mc0 ms0 sl sx cw nx' rt' e pc K st M) ∨
  (∃ v M', rt v M' ∧ ∀ (nx' : Nat → LL → List VV → MM → Prop) (rt' : Option VV → MM → Prop), rt' v M' → stepW own isI sz0 tt0 mc0 ms0 sl sx cw nx' rt' e pc K st M)
theorem wrF_det {M : MM} {q o k : Nat} {v : VV} {f : MM → Prop} (hf : wrF M q o k v f) : ∃ M', f M' ∧ ∀ g : MM → Prop, g M' → wrF M q o k v g := by
  unfold wrF at hf ⊢
  generalize fT q k = t at hf ⊢
  match t, hf with
  | 0, hf =>
    rcases v with x | x | x | x
    · exact ⟨_, hf, fun g hg => hg⟩
    · cases hf
    · cases hf
    · cases hf
  | 1, hf =>
    rcases v with x | x | x | x
    · cases hf
    · exact ⟨_, hf, fun g hg => hg⟩
    · cases hf
    · cases hf
  | 2, hf =>
    rcases v with x | x | x | x
    · cases hf
    · cases hf
    · exact ⟨_, hf, fun g hg => hg⟩
    · cases hf
  | 3, hf =>
    rcases v with x | x | x | x
    · exact ⟨_, hf.2, fun g hg => ⟨hf.1, hg⟩⟩
    · cases hf
    · cases hf
    · cases hf
  | n + 4, hf => cases hf
theorem zcall_det {ix : Nat} {st : List VV} {M : MM} {f : List VV → MM → Prop} (hcw : cwDet cw) (h : zcall own ix sz0 tt0 mc0 ms0 cw st M f) : ∃ st' M', f st' M' ∧ ∀ g : List VV → MM → Prop, g st' M' → zcall own ix sz0 tt0 mc0 ms0 cw st M g := by
  unfold zcall at h ⊢
  cases h1 : as2 MLg (own * 1000 + ix) with
  | none => rw [h1] at h; cases h
  | some v =>
    obtain ⟨j, ne, ps⟩ := v
    rw [h1] at h
    dsimp only at h ⊢
    cases h2 : as2 MIg j with
    | none => rw [h2] at h; cases h
    | some q =>
      rw [h2] at h
      dsimp only at h ⊢
      cases h3 : pops q.1 [] st with
      | none => rw [h3] at h; cases h
      | some v =>
        obtain ⟨as, r⟩ := v
        rw [h3] at h
        dsimp only at h ⊢
        obtain ⟨hr, h⟩ := cond_t h
        rw [hr]
        dsimp only [cond]
        have key : ∀ X : Prop, recvOk M q as (callOk M q sz0 tt0 mc0 ms0 X) → X ∧ ∀ Y : Prop, Y → recvOk M q as (callOk M q sz0 tt0 mc0 ms0 Y) := by
          intro X hX
          have k2 : ∀ X : Prop, callOk M q sz0 tt0 mc0 ms0 X → X ∧ ∀ Y : Prop, Y → callOk M q sz0 tt0 mc0 ms0 Y := by
            intro X hX
            unfold callOk at hX ⊢
            cases hb : (Nat.beq q.2.2.2.2.1 0 && Nat.beq q.2.2.2.2.2.1 0) with
            | true => rw [hb] at hX; exact ⟨hX, fun Y hY => hY⟩
            | false => rw [hb] at hX; exact ⟨hX.2.2, fun Y hY => ⟨hX.1, hX.2.1, hY⟩⟩
          unfold recvOk at hX ⊢
          cases hb : Nat.beq q.2.1 1 with
          | false => rw [hb] at hX; exact ⟨(k2 X hX).1, fun Y hY => (k2 X hX).2 Y hY⟩
          | true =>
            rw [hb] at hX
            dsimp only [cond] at hX ⊢
            cases as with
            | nil => cases hX
            | cons v as' =>
              rcases v with x | x | x | x
              · cases hX
              · cases hX
              · cases x with
                | none => cases hX
                | some o => exact ⟨(k2 X hX.2).1, fun Y hY => ⟨hX.1, (k2 X hX.2).2 Y hY⟩⟩
              · cases hX
        obtain ⟨hX, hY⟩ := key _ h
        obtain ⟨v, M', a1, a2⟩ := hcw _ _ _ _ hX
        exact ⟨pushO v r, M', a1, fun g hg => hY _ (a2 _ hg)⟩
set_option maxHeartbeats 4000000 in
theorem step_det {e0 : EE} {pc : Nat} {K : LL} {st : List VV} {M : MM} (hcw : cwDet cw) (h : stepW own isI sz0 tt0 mc0 ms0 sl sx cw nx rt e0 pc K st M) : Goes1 own isI sz0 tt0 mc0 ms0 sl sx cw nx rt e0 pc K st M := by
  obtain ⟨ins, len, t, i⟩ := e0
  cases ins with
  | bipush _ =>
    exact Or.inl ⟨_, _, _, _, h, fun nx' rt' h' => h'⟩
  | lconst _ =>
    exact Or.inl ⟨_, _, _, _, h, fun nx' rt' h' => h'⟩
  | aconst_null =>
    exact Or.inl ⟨_, _, _, _, h, fun nx' rt' h' => h'⟩
  | goto _ =>
    exact Or.inl ⟨_, _, _, _, h, fun nx' rt' h' => h'⟩
  | ldc ix =>
    cases hv : as2 KIg (own * 1000 + ix) with
    | none => unfold stepW at h; dsimp only at h; rw [hv] at h; cases h
    | some v =>
      unfold stepW at h
      dsimp only at h
      rw [hv] at h
      exact Or.inl ⟨_, _, _, _, h, fun nx' rt' h' => by unfold stepW; dsimp only; rw [hv]; exact h'⟩
  | ldc2_w ix =>
    cases hv : as2 KJg (own * 1000 + ix) with
    | none => unfold stepW at h; dsimp only at h; rw [hv] at h; cases h
    | some v =>
      unfold stepW at h
      dsimp only at h
      rw [hv] at h
      exact Or.inl ⟨_, _, _, _, h, fun nx' rt' h' => by unfold stepW; dsimp only; rw [hv]; exact h'⟩
  | iload a =>
    cases hg : gt K a with
    | none => unfold stepW at h; dsimp only at h; rw [hg] at h; cases h
    | some v =>
      unfold stepW at h
      dsimp only at h
      rw [hg] at h
      rcases v with x | x | x <;> first | cases h | exact Or.inl ⟨_, _, _, _, h, fun nx' rt' h' => by unfold stepW; dsimp only; rw [hg]; exact h'⟩
  | lload a =>
    cases hg : gt K a with
    | none => unfold stepW at h; dsimp only at h; rw [hg] at h; cases h
    | some v =>
      unfold stepW at h
      dsimp only at h
      rw [hg] at h
      rcases v with x | x | x <;> first | cases h | exact Or.inl ⟨_, _, _, _, h, fun nx' rt' h' => by unfold stepW; dsimp only; rw [hg]; exact h'⟩
  | aload a =>
    cases hg : gt K a with
    | none => unfold stepW at h; dsimp only at h; rw [hg] at h; cases h
    | some v =>
      unfold stepW at h
      dsimp only at h
      rw [hg] at h
      rcases v with x | x | x <;> first | cases h | exact Or.inl ⟨_, _, _, _, h, fun nx' rt' h' => by unfold stepW; dsimp only; rw [hg]; exact h'⟩
  | iinc a _ =>
    cases hg : gt K a with
    | none => unfold stepW at h; dsimp only at h; rw [hg] at h; cases h
    | some v =>
      unfold stepW at h
      dsimp only at h
      rw [hg] at h
      rcases v with x | x | x <;> first | cases h | exact Or.inl ⟨_, _, _, _, h, fun nx' rt' h' => by unfold stepW; dsimp only; rw [hg]; exact h'⟩
  | istore a =>
    cases st with
    | nil => cases h
    | cons v r =>
      rcases v with x | x | x
      all_goals first
        | cases h; done
        | (obtain ⟨hc, h⟩ := cond_t (show cond (Nat.blt a K.length) _ False from h)
           exact Or.inl ⟨_, _, _, _, h, fun nx' rt' h' => (show cond (Nat.blt a K.length) _ False by rw [hc]; exact h')⟩)
  | lstore a =>
    cases st with
    | nil => cases h
    | cons v r =>
      rcases v with x | x | x
      all_goals first
        | cases h; done
        | (obtain ⟨hc, h⟩ := cond_t (show cond (Nat.blt (a + 1) K.length) _ False from h)
           exact Or.inl ⟨_, _, _, _, h, fun nx' rt' h' => (show cond (Nat.blt (a + 1) K.length) _ False by rw [hc]; exact h')⟩)
  | astore a =>
    cases st with
    | nil => cases h
    | cons v r =>
      rcases v with x | x | x
      all_goals first
        | cases h; done
        | (obtain ⟨hc, h⟩ := cond_t (show cond (Nat.blt a K.length) _ False from h)
           exact Or.inl ⟨_, _, _, _, h, fun nx' rt' h' => (show cond (Nat.blt a K.length) _ False by rw [hc]; exact h')⟩)
  | iadd =>
    obtain ⟨a1, a2, r, rfl, h⟩ := nx2_of (show nx2 st _ from h)
    exact Or.inl ⟨_, _, _, _, h, fun nx' rt' h' => h'⟩
  | isub =>
    obtain ⟨a1, a2, r, rfl, h⟩ := nx2_of (show nx2 st _ from h)
    exact Or.inl ⟨_, _, _, _, h, fun nx' rt' h' => h'⟩
  | imul =>
    obtain ⟨a1, a2, r, rfl, h⟩ := nx2_of (show nx2 st _ from h)
    exact Or.inl ⟨_, _, _, _, h, fun nx' rt' h' => h'⟩
  | iand =>
    obtain ⟨a1, a2, r, rfl, h⟩ := nx2_of (show nx2 st _ from h)
    exact Or.inl ⟨_, _, _, _, h, fun nx' rt' h' => h'⟩
  | ior =>
    obtain ⟨a1, a2, r, rfl, h⟩ := nx2_of (show nx2 st _ from h)
    exact Or.inl ⟨_, _, _, _, h, fun nx' rt' h' => h'⟩
  | ixor =>
    obtain ⟨a1, a2, r, rfl, h⟩ := nx2_of (show nx2 st _ from h)
    exact Or.inl ⟨_, _, _, _, h, fun nx' rt' h' => h'⟩
  | ishl =>
    obtain ⟨a1, a2, r, rfl, h⟩ := nx2_of (show nx2 st _ from h)
    exact Or.inl ⟨_, _, _, _, h, fun nx' rt' h' => h'⟩
  | ishr =>
    obtain ⟨a1, a2, r, rfl, h⟩ := nx2_of (show nx2 st _ from h)
    exact Or.inl ⟨_, _, _, _, h, fun nx' rt' h' => h'⟩
  | iushr =>
    obtain ⟨a1, a2, r, rfl, h⟩ := nx2_of (show nx2 st _ from h)
    exact Or.inl ⟨_, _, _, _, h, fun nx' rt' h' => h'⟩
  | idiv =>
    obtain ⟨a1, a2, r, rfl, h⟩ := nx2_of (show nx2 st _ from h)
    exact Or.inl ⟨_, _, _, _, h.2, fun nx' rt' h' => ⟨h.1, h'⟩⟩
  | irem =>
    obtain ⟨a1, a2, r, rfl, h⟩ := nx2_of (show nx2 st _ from h)
    exact Or.inl ⟨_, _, _, _, h.2, fun nx' rt' h' => ⟨h.1, h'⟩⟩
  | ineg =>
    obtain ⟨a1, r, rfl, h⟩ := nx1_of (show nx1 st _ from h)
    exact Or.inl ⟨_, _, _, _, h, fun nx' rt' h' => h'⟩
  | i2l =>
    obtain ⟨a1, r, rfl, h⟩ := nx1_of (show nx1 st _ from h)
    exact Or.inl ⟨_, _, _, _, h, fun nx' rt' h' => h'⟩
  | i2b =>
    obtain ⟨a1, r, rfl, h⟩ := nx1_of (show nx1 st _ from h)
    exact Or.inl ⟨_, _, _, _, h, fun nx' rt' h' => h'⟩
  | l2i =>
    obtain ⟨a1, r, rfl, h⟩ := nl1_of (show nl1 st _ from h)
    exact Or.inl ⟨_, _, _, _, h, fun nx' rt' h' => h'⟩
  | lneg =>
    obtain ⟨a1, r, rfl, h⟩ := nl1_of (show nl1 st _ from h)
    exact Or.inl ⟨_, _, _, _, h, fun nx' rt' h' => h'⟩
  | ladd =>
    obtain ⟨a1, a2, r, rfl, h⟩ := nl2_of (show nl2 st _ from h)
    exact Or.inl ⟨_, _, _, _, h, fun nx' rt' h' => h'⟩
  | lsub =>
    obtain ⟨a1, a2, r, rfl, h⟩ := nl2_of (show nl2 st _ from h)
    exact Or.inl ⟨_, _, _, _, h, fun nx' rt' h' => h'⟩
  | lmul =>
    obtain ⟨a1, a2, r, rfl, h⟩ := nl2_of (show nl2 st _ from h)
    exact Or.inl ⟨_, _, _, _, h, fun nx' rt' h' => h'⟩
  | land =>
    obtain ⟨a1, a2, r, rfl, h⟩ := nl2_of (show nl2 st _ from h)
    exact Or.inl ⟨_, _, _, _, h, fun nx' rt' h' => h'⟩
  | lor =>
    obtain ⟨a1, a2, r, rfl, h⟩ := nl2_of (show nl2 st _ from h)
    exact Or.inl ⟨_, _, _, _, h, fun nx' rt' h' => h'⟩
  | lcmp =>
    obtain ⟨a1, a2, r, rfl, h⟩ := nl2_of (show nl2 st _ from h)
    exact Or.inl ⟨_, _, _, _, h, fun nx' rt' h' => h'⟩
  | ldiv =>
    obtain ⟨a1, a2, r, rfl, h⟩ := nl2_of (show nl2 st _ from h)
    exact Or.inl ⟨_, _, _, _, h.2, fun nx' rt' h' => ⟨h.1, h'⟩⟩
  | lrem =>
    obtain ⟨a1, a2, r, rfl, h⟩ := nl2_of (show nl2 st _ from h)
    exact Or.inl ⟨_, _, _, _, h.2, fun nx' rt' h' => ⟨h.1, h'⟩⟩
  | lshl =>
    obtain ⟨a1, a2, r, rfl, h⟩ := nli_of (show nli st _ from h)
    exact Or.inl ⟨_, _, _, _, h, fun nx' rt' h' => h'⟩
  | lshr =>
    obtain ⟨a1, a2, r, rfl, h⟩ := nli_of (show nli st _ from h)
    exact Or.inl ⟨_, _, _, _, h, fun nx' rt' h' => h'⟩
  | lushr =>
    obtain ⟨a1, a2, r, rfl, h⟩ := nli_of (show nli st _ from h)
    exact Or.inl ⟨_, _, _, _, h, fun nx' rt' h' => h'⟩
  | dup =>
    cases st with
    | nil => cases h
    | cons v r =>
      obtain ⟨hc, h⟩ := cond_t (show cond (Nat.beq (c2 v) 1) _ False from h)
      exact Or.inl ⟨_, _, _, _, h, fun nx' rt' h' => (show cond (Nat.beq (c2 v) 1) _ False by rw [hc]; exact h')⟩
  | pop =>
    cases st with
    | nil => cases h
    | cons v r =>
      obtain ⟨hc, h⟩ := cond_t (show cond (Nat.beq (c2 v) 1) _ False from h)
      exact Or.inl ⟨_, _, _, _, h, fun nx' rt' h' => (show cond (Nat.beq (c2 v) 1) _ False by rw [hc]; exact h')⟩
  | dup2 =>
    cases st with
    | nil => cases h
    | cons v r =>
      cases r with
      | nil => cases h
      | cons w r =>
        obtain ⟨hc, h⟩ := cond_t (show cond (Nat.beq (c2 v) 1 && Nat.beq (c2 w) 1) _ False from h)
        exact Or.inl ⟨_, _, _, _, h, fun nx' rt' h' => (show cond (Nat.beq (c2 v) 1 && Nat.beq (c2 w) 1) _ False by rw [hc]; exact h')⟩
  | ifCond cnd _ =>
    obtain ⟨a1, r, rfl, h⟩ := nx1_of (show nx1 st _ from h)
    cases cnd with
    | eq =>
      by_cases hc : a1 = 0
      · exact Or.inl ⟨_, _, _, _, h.1 hc, fun nx' rt' h' => ⟨fun _ => h', fun q => absurd hc q⟩⟩
      · exact Or.inl ⟨_, _, _, _, h.2 hc, fun nx' rt' h' => ⟨fun q => absurd q hc, fun _ => h'⟩⟩
    | ne =>
      by_cases hc : a1 ≠ 0
      · exact Or.inl ⟨_, _, _, _, h.1 hc, fun nx' rt' h' => ⟨fun _ => h', fun q => absurd hc q⟩⟩
      · exact Or.inl ⟨_, _, _, _, h.2 hc, fun nx' rt' h' => ⟨fun q => absurd q hc, fun _ => h'⟩⟩
    | lt =>
      by_cases hc : a1 < 0
      · exact Or.inl ⟨_, _, _, _, h.1 hc, fun nx' rt' h' => ⟨fun _ => h', fun q => absurd hc q⟩⟩
      · exact Or.inl ⟨_, _, _, _, h.2 hc, fun nx' rt' h' => ⟨fun q => absurd q hc, fun _ => h'⟩⟩
    | ge =>
      by_cases hc : 0 ≤ a1
      · exact Or.inl ⟨_, _, _, _, h.1 hc, fun nx' rt' h' => ⟨fun _ => h', fun q => absurd hc q⟩⟩
      · exact Or.inl ⟨_, _, _, _, h.2 hc, fun nx' rt' h' => ⟨fun q => absurd q hc, fun _ => h'⟩⟩
    | gt =>
      by_cases hc : 0 < a1
      · exact Or.inl ⟨_, _, _, _, h.1 hc, fun nx' rt' h' => ⟨fun _ => h', fun q => absurd hc q⟩⟩
      · exact Or.inl ⟨_, _, _, _, h.2 hc, fun nx' rt' h' => ⟨fun q => absurd q hc, fun _ => h'⟩⟩
    | le =>
      by_cases hc : a1 ≤ 0
      · exact Or.inl ⟨_, _, _, _, h.1 hc, fun nx' rt' h' => ⟨fun _ => h', fun q => absurd hc q⟩⟩
      · exact Or.inl ⟨_, _, _, _, h.2 hc, fun nx' rt' h' => ⟨fun q => absurd q hc, fun _ => h'⟩⟩
  | if_icmp cnd _ =>
    obtain ⟨a1, a2, r, rfl, h⟩ := nx2_of (show nx2 st _ from h)
    cases cnd with
    | eq =>
      by_cases hc : a1 = a2
      · exact Or.inl ⟨_, _, _, _, h.1 hc, fun nx' rt' h' => ⟨fun _ => h', fun q => absurd hc q⟩⟩
      · exact Or.inl ⟨_, _, _, _, h.2 hc, fun nx' rt' h' => ⟨fun q => absurd q hc, fun _ => h'⟩⟩
    | ne =>
      by_cases hc : a1 ≠ a2
      · exact Or.inl ⟨_, _, _, _, h.1 hc, fun nx' rt' h' => ⟨fun _ => h', fun q => absurd hc q⟩⟩
      · exact Or.inl ⟨_, _, _, _, h.2 hc, fun nx' rt' h' => ⟨fun q => absurd q hc, fun _ => h'⟩⟩
    | lt =>
      by_cases hc : a1 < a2
      · exact Or.inl ⟨_, _, _, _, h.1 hc, fun nx' rt' h' => ⟨fun _ => h', fun q => absurd hc q⟩⟩
      · exact Or.inl ⟨_, _, _, _, h.2 hc, fun nx' rt' h' => ⟨fun q => absurd q hc, fun _ => h'⟩⟩
    | ge =>
      by_cases hc : a2 ≤ a1
      · exact Or.inl ⟨_, _, _, _, h.1 hc, fun nx' rt' h' => ⟨fun _ => h', fun q => absurd hc q⟩⟩
      · exact Or.inl ⟨_, _, _, _, h.2 hc, fun nx' rt' h' => ⟨fun q => absurd q hc, fun _ => h'⟩⟩
    | gt =>
      by_cases hc : a2 < a1
      · exact Or.inl ⟨_, _, _, _, h.1 hc, fun nx' rt' h' => ⟨fun _ => h', fun q => absurd hc q⟩⟩
      · exact Or.inl ⟨_, _, _, _, h.2 hc, fun nx' rt' h' => ⟨fun q => absurd q hc, fun _ => h'⟩⟩
    | le =>
      by_cases hc : a1 ≤ a2
      · exact Or.inl ⟨_, _, _, _, h.1 hc, fun nx' rt' h' => ⟨fun _ => h', fun q => absurd hc q⟩⟩
      · exact Or.inl ⟨_, _, _, _, h.2 hc, fun nx' rt' h' => ⟨fun q => absurd q hc, fun _ => h'⟩⟩
  | ifnull _ =>
    cases st with
    | nil => cases h
    | cons v r =>
      rcases v with x | x | x | x
      · cases h
      · cases h
      · cases x with
        | none => exact Or.inl ⟨_, _, _, _, h.1 rfl, fun nx' rt' h' => ⟨fun _ => h', fun q => absurd rfl q⟩⟩
        | some o => exact Or.inl ⟨_, _, _, _, h.2 (fun q => by cases q), fun nx' rt' h' => ⟨fun q => (by cases q), fun _ => h'⟩⟩
      · cases h
  | ifnonnull _ =>
    cases st with
    | nil => cases h
    | cons v r =>
      rcases v with x | x | x | x
      · cases h
      · cases h
      · cases x with
        | none => exact Or.inl ⟨_, _, _, _, h.2 rfl, fun nx' rt' h' => ⟨fun q => absurd rfl q, fun _ => h'⟩⟩
        | some o => exact Or.inl ⟨_, _, _, _, h.1 (fun q => by cases q), fun nx' rt' h' => ⟨fun _ => h', fun q => by cases q⟩⟩
      · cases h
  | tableswitch d lo hi offs =>
    obtain ⟨a1, r, rfl, h⟩ := nx1_of (show nx1 st _ from h)
    by_cases h1 : a1.toInt < lo ∨ hi < a1.toInt
    · obtain ⟨g1, g2⟩ := h.1 h1
      exact Or.inl ⟨_, _, _, _, g2, fun nx' rt' h' => ⟨fun _ => ⟨g1, h'⟩, fun q1 q2 => absurd h1 (fun q => q.elim q1 q2)⟩⟩
    · have h2 : ¬ a1.toInt < lo := fun q => h1 (Or.inl q)
      have h3 : ¬ hi < a1.toInt := fun q => h1 (Or.inr q)
      obtain ⟨off, g0, g1, g2⟩ := h.2 h2 h3
      exact Or.inl ⟨_, _, _, _, g2, fun nx' rt' h' => ⟨fun q => absurd q h1, fun _ _ => ⟨off, g0, g1, h'⟩⟩⟩
  | getfield ix =>
    cases hv : as2 FLg (own * 1000 + ix) with
    | none => unfold stepW at h; dsimp only at h; rw [hv] at h; cases h
    | some v =>
      obtain ⟨q, k, ne, ps⟩ := v
      unfold stepW at h
      dsimp only at h
      rw [hv] at h
      dsimp only at h
      cases st with
      | nil => cases h
      | cons v r =>
        rcases v with x | x | x | x
        · cases h
        · cases h
        · cases x with
          | none => cases h
          | some o => exact Or.inl ⟨_, _, _, _, h.2, fun nx' rt' h' => by unfold stepW; dsimp only; rw [hv]; exact ⟨h.1, h'⟩⟩
        · cases h
  | putfield ix =>
    cases hv : as2 FLg (own * 1000 + ix) with
    | none => unfold stepW at h; dsimp only at h; rw [hv] at h; cases h
    | some v =>
      obtain ⟨q, k, ne, ps⟩ := v
      unfold stepW at h
      dsimp only at h
      rw [hv] at h
      dsimp only at h
      cases st with
      | nil => cases h
      | cons w st =>
        cases st with
        | nil => cases h
        | cons v r =>
          rcases v with x | x | x | x
          · cases h
          · cases h
          · cases x with
            | none => cases h
            | some o =>
              obtain ⟨hc, h3, h4⟩ := cond_t (show cond (cond (fFin q k) (isI && (Nat.beq own q && Nat.beq ne 0)) true) (kd M o q ∧ wrF M q o k w (fun M' => nx (pc + 3) K r M')) False from h)
              obtain ⟨M', a1, a2⟩ := wrF_det h4
              refine Or.inl ⟨_, _, _, _, a1, fun nx' rt' h' => ?_⟩
              unfold stepW
              dsimp only
              rw [hv]
              show cond (cond (fFin q k) (isI && (Nat.beq own q && Nat.beq ne 0)) true) (kd M o q ∧ wrF M q o k w (fun M' => nx' (pc + 3) K r M')) False
              rw [hc]
              exact ⟨h3, a2 _ h'⟩
          · cases h
  | iaload =>
    cases st with
    | nil => cases h
    | cons v st =>
      rcases v with j | j | j
      · cases st with
        | nil => cases h
        | cons v r =>
          rcases v with x | x | x | x
          · cases h
          · cases h
          · cases x with
            | none => cases h
            | some o => exact Or.inl ⟨_, _, _, _, h.2, fun nx' rt' h' => ⟨h.1, h'⟩⟩
          · exact Or.inl ⟨_, _, _, _, h.2, fun nx' rt' h' => ⟨h.1, h'⟩⟩
      · cases h
      · cases h
  | laload =>
    cases st with
    | nil => cases h
    | cons v st =>
      rcases v with j | j | j
      · cases st with
        | nil => cases h
        | cons v r =>
          rcases v with x | x | x | x
          · cases h
          · cases h
          · cases x with
            | none => cases h
            | some o => exact Or.inl ⟨_, _, _, _, h.2, fun nx' rt' h' => ⟨h.1, h'⟩⟩
          · cases h
      · cases h
      · cases h
  | baload =>
    cases st with
    | nil => cases h
    | cons v st =>
      rcases v with j | j | j
      · cases st with
        | nil => cases h
        | cons v r =>
          rcases v with x | x | x | x
          · cases h
          · cases h
          · cases x with
            | none => cases h
            | some o => 
              obtain ⟨hc, h⟩ := cond_t (show cond (Nat.beq t 13 || Nat.beq t 14) _ False from h)
              exact Or.inl ⟨_, _, _, _, h.2, fun nx' rt' h' => (show cond (Nat.beq t 13 || Nat.beq t 14) _ False by rw [hc]; exact ⟨h.1, h'⟩)⟩
          · cases h
      · cases h
      · cases h
  | aaload =>
    cases st with
    | nil => cases h
    | cons v st =>
      rcases v with j | j | j
      · cases st with
        | nil => cases h
        | cons v r =>
          rcases v with x | x | x | x
          · cases h
          · cases h
          · cases x with
            | none => cases h
            | some o => 
              obtain ⟨hc, h⟩ := cond_t (show cond (Nat.beq t 15 || Nat.beq t 16) _ False from h)
              exact Or.inl ⟨_, _, _, _, h.2, fun nx' rt' h' => (show cond (Nat.beq t 15 || Nat.beq t 16) _ False by rw [hc]; exact ⟨h.1, h'⟩)⟩
          · cases h
      · cases h
      · cases h
  | iastore =>
    cases st with
    | nil => cases h
    | cons w st =>
      rcases w with x | x | x | x
      · cases st with
        | nil => cases h
        | cons v st =>
          rcases v with j | j | j
          · cases st with
            | nil => cases h
            | cons v r =>
              rcases v with z | z | z | z
              · cases h
              · cases h
              · cases z with
                | none => cases h
                | some o => exact Or.inl ⟨_, _, _, _, h.2, fun nx' rt' h' => ⟨h.1, h'⟩⟩
              · cases h
          · cases h
          · cases h
      · cases h
      · cases h
      · cases h
  | lastore =>
    cases st with
    | nil => cases h
    | cons w st =>
      rcases w with x | x | x | x
      · cases h
      · cases st with
        | nil => cases h
        | cons v st =>
          rcases v with j | j | j
          · cases st with
            | nil => cases h
            | cons v r =>
              rcases v with z | z | z | z
              · cases h
              · cases h
              · cases z with
                | none => cases h
                | some o => exact Or.inl ⟨_, _, _, _, h.2, fun nx' rt' h' => ⟨h.1, h'⟩⟩
              · cases h
          · cases h
          · cases h
      · cases h
      · cases h
  | bastore =>
    cases st with
    | nil => cases h
    | cons w st =>
      rcases w with x | x | x | x
      · cases st with
        | nil => cases h
        | cons v st =>
          rcases v with j | j | j
          · cases st with
            | nil => cases h
            | cons v r =>
              rcases v with z | z | z | z
              · cases h
              · cases h
              · cases z with
                | none => cases h
                | some o => 
                  have h2 : cond (Nat.beq t 13) (inb M o 13 j ∧ nx (pc + 1) K r (sI M o j.toNatClampNeg x.toInt8.toInt32)) (cond (Nat.beq t 14) (inb M o 14 j ∧ nx (pc + 1) K r (sI M o j.toNatClampNeg (x &&& 1))) False) := h
                  cases hb1 : Nat.beq t 13 with
                  | true =>
                    rw [hb1] at h2
                    exact Or.inl ⟨_, _, _, _, h2.2, fun nx' rt' h' => (show cond (Nat.beq t 13) (inb M o 13 j ∧ nx' (pc + 1) K r (sI M o j.toNatClampNeg x.toInt8.toInt32)) (cond (Nat.beq t 14) (inb M o 14 j ∧ nx' (pc + 1) K r (sI M o j.toNatClampNeg (x &&& 1))) False) by rw [hb1]; exact ⟨h2.1, h'⟩)⟩
                  | false =>
                    rw [hb1] at h2
                    obtain ⟨hb2, h3⟩ := cond_t (show cond (Nat.beq t 14) (inb M o 14 j ∧ nx (pc + 1) K r (sI M o j.toNatClampNeg (x &&& 1))) False from h2)
                    exact Or.inl ⟨_, _, _, _, h3.2, fun nx' rt' h' => (show cond (Nat.beq t 13) (inb M o 13 j ∧ nx' (pc + 1) K r (sI M o j.toNatClampNeg x.toInt8.toInt32)) (cond (Nat.beq t 14) (inb M o 14 j ∧ nx' (pc + 1) K r (sI M o j.toNatClampNeg (x &&& 1))) False) by rw [hb1, hb2]; exact ⟨h3.1, h'⟩)⟩
              · cases h
          · cases h
          · cases h
      · cases h
      · cases h
      · cases h
  | aastore =>
    cases st with
    | nil => cases h
    | cons w st =>
      rcases w with x | x | x | x
      · cases h
      · cases h
      · cases x with
        | none => cases h
        | some v0 =>
          cases st with
          | nil => cases h
          | cons v st =>
            rcases v with j | j | j
            · cases st with
              | nil => cases h
              | cons v r =>
                rcases v with z | z | z | z
                · cases h
                · cases h
                · cases z with
                  | none => cases h
                  | some o =>
                    obtain ⟨hc, h⟩ := cond_t (show cond (Nat.beq t 15 || Nat.beq t 16) _ False from h)
                    exact Or.inl ⟨_, _, _, _, h.2.2, fun nx' rt' h' => (show cond (Nat.beq t 15 || Nat.beq t 16) _ False by rw [hc]; exact ⟨h.1, h.2.1, h'⟩)⟩
                · cases h
            · cases h
            · cases h
      · cases h
  | arraylength =>
    cases st with
    | nil => cases h
    | cons v r =>
      rcases v with x | x | x | x
      · cases h
      · cases h
      · cases h
      · exact Or.inl ⟨_, _, _, _, h, fun nx' rt' h' => h'⟩
  | newarray ty =>
    obtain ⟨n, r, rfl, h1, h2, h3, h4, h⟩ := nx1_of (show nx1 st _ from h)
    cases ty with
    | int => exact Or.inl ⟨_, _, _, _, h, fun nx' rt' h' => ⟨h1, h2, h3, h4, h'⟩⟩
    | long => exact Or.inl ⟨_, _, _, _, h, fun nx' rt' h' => ⟨h1, h2, h3, h4, h'⟩⟩
    | byte => exact Or.inl ⟨_, _, _, _, h, fun nx' rt' h' => ⟨h1, h2, h3, h4, h'⟩⟩
    | boolean => exact Or.inl ⟨_, _, _, _, h, fun nx' rt' h' => ⟨h1, h2, h3, h4, h'⟩⟩
    | _ => cases h
  | anewarray ix =>
    obtain ⟨n, r, rfl, h5⟩ := nx1_of (show nx1 st _ from h)
    cases hv : as2 KLg (own * 1000 + ix) with
    | none => rw [hv] at h5; cases h5
    | some v =>
      rw [hv] at h5
      obtain ⟨q, ps⟩ := v
      dsimp only at h5
      obtain ⟨hc, h1, h2, h3, h4, h6⟩ := cond_t h5
      refine Or.inl ⟨_, _, _, _, h6, fun nx' rt' h' => ?_⟩
      show (match as2 KLg (own * 1000 + ix) with | some (c, _) => cond (Nat.beq c 7 || Nat.beq c 8) (¬ n < 0 ∧ n.toNatClampNeg ≤ 1000000 ∧ (mS M).length + 1 ≤ sz0 + mc0 ∧ mT M + n.toNatClampNeg ≤ tt0 + ms0 ∧ nx' (pc + 3) K (vR (some (mS M).length) :: r) (mN M (c + 8) n.toNatClampNeg)) False | none => False)
      rw [hv]
      dsimp only
      rw [hc]
      exact ⟨h1, h2, h3, h4, h'⟩
  | new ix =>
    cases hv : as2 KLg (own * 1000 + ix) with
    | none => unfold stepW at h; dsimp only at h; rw [hv] at h; cases h
    | some v =>
      obtain ⟨q, ps⟩ := v
      unfold stepW at h
      dsimp only at h
      rw [hv] at h
      exact Or.inl ⟨_, _, _, _, h.2.2, fun nx' rt' h' => by unfold stepW; dsimp only; rw [hv]; exact ⟨h.1, h.2.1, h'⟩⟩
  | invokevirtual ix =>
    obtain ⟨st', M', a1, a2⟩ := zcall_det hcw (show zcall own ix sz0 tt0 mc0 ms0 cw st M (fun st' M' => nx (pc + 3) K st' M') from h)
    exact Or.inl ⟨_, _, _, _, a1, fun nx' rt' h' => a2 _ h'⟩
  | invokestatic ix =>
    have h2 : cond (Nat.beq t 999) (zcopy st M (fun st' M' => nx (pc + 3) K st' M')) (zcall own ix sz0 tt0 mc0 ms0 cw st M (fun st' M' => nx (pc + 3) K st' M')) := h
    cases hb1 : Nat.beq t 999 with
    | false =>
      rw [hb1] at h2
      obtain ⟨st', M', a1, a2⟩ := zcall_det hcw (show zcall own ix sz0 tt0 mc0 ms0 cw st M (fun st' M' => nx (pc + 3) K st' M') from h2)
      exact Or.inl ⟨_, _, _, _, a1, fun nx' rt' h' => (show cond (Nat.beq t 999) _ _ by rw [hb1]; exact a2 _ h')⟩
    | true =>
      rw [hb1] at h2
      have h2 : zcopy st M (fun st' M' => nx (pc + 3) K st' M') := h2
      unfold zcopy at h2
      split at h2
      · obtain ⟨hc, n0, n1, k0, k1, k2, k3, k4, k5, k6, k7⟩ := cond_t h2
        refine Or.inl ⟨_, _, _, _, k7, fun nx' rt' h' => ?_⟩
        show cond (Nat.beq t 999) (zcopy _ M (fun st' M' => nx' (pc + 3) K st' M')) _
        rw [hb1]
        dsimp only [cond]
        unfold zcopy
        dsimp only
        rw [hc]
        exact ⟨n0, n1, k0, k1, k2, k3, k4, k5, k6, h'⟩
      · cases h2
  | invokespecial ix =>
    have h2 : cond (Nat.beq t 998) (match (generalizing := false) st with | .inr (.inr (.inl (some _))) :: r => cond (Nat.ble (cs r) 8) (nx (pc + 3) K r M) False | _ => False) (zcall own ix sz0 tt0 mc0 ms0 cw st M (fun st' M' => nx (pc + 3) K st' M')) := h
    cases hb1 : Nat.beq t 998 with
    | false =>
      rw [hb1] at h2
      obtain ⟨st', M', a1, a2⟩ := zcall_det hcw (show zcall own ix sz0 tt0 mc0 ms0 cw st M (fun st' M' => nx (pc + 3) K st' M') from h2)
      exact Or.inl ⟨_, _, _, _, a1, fun nx' rt' h' => (show cond (Nat.beq t 998) _ _ by rw [hb1]; exact a2 _ h')⟩
    | true =>
      rw [hb1] at h2
      cases st with
      | nil => cases h2
      | cons v r =>
        rcases v with x | x | x | x
        · cases h2
        · cases h2
        · cases x with
          | none => cases h2
          | some o =>
            obtain ⟨hc, h3⟩ := cond_t (show cond (Nat.ble (cs r) 8) (nx (pc + 3) K r M) False from h2)
            refine Or.inl ⟨_, _, _, _, h3, fun nx' rt' h' => ?_⟩
            show cond (Nat.beq t 998) (cond (Nat.ble (cs r) 8) (nx' (pc + 3) K r M) False) _
            rw [hb1, hc]
            exact h'
        · cases h2
  | ireturn =>
    cases st with
    | nil => cases h
    | cons v r =>
      rcases v with x | x | x | x
      · cases r with
        | nil => exact Or.inr ⟨_, _, h, fun nx' rt' h' => h'⟩
        | cons _ _ => cases h
      · cases r <;> cases h
      · cases r <;> cases h
      · cases r <;> cases h
  | lreturn =>
    cases st with
    | nil => cases h
    | cons v r =>
      rcases v with x | x | x | x
      · cases r <;> cases h
      · cases r with
        | nil => exact Or.inr ⟨_, _, h, fun nx' rt' h' => h'⟩
        | cons _ _ => cases h
      · cases r <;> cases h
      · cases r <;> cases h
  | areturn =>
    cases st with
    | nil => cases h
    | cons v r =>
      rcases v with x | x | x | x
      · cases r <;> cases h
      · cases r <;> cases h
      · cases r with
        | nil => exact Or.inr ⟨_, _, h, fun nx' rt' h' => h'⟩
        | cons _ _ => cases h
      · cases r <;> cases h
  | return_ =>
    cases st with
    | nil => exact Or.inr ⟨_, _, h, fun nx' rt' h' => h'⟩
    | cons _ _ => cases h
  | _ => exact False.elim h
variable {tb : Nat → Option EE}
theorem run_det (hcw : cwDet cw) : ∀ (n pc : Nat) (K : LL) (st : List VV) (M : MM), runN own isI sz0 tt0 mc0 ms0 sl sx cw rt tb n pc K st M → ∃ v M', rt v M' ∧ ∀ rt' : Option VV → MM → Prop, rt' v M' → runN own isI sz0 tt0 mc0 ms0 sl sx cw rt' tb n pc K st M := by
  intro n
  induction n with
  | zero => intro pc K st M h; cases h
  | succ n ih =>
    intro pc K st M h
    unfold runN at h ⊢
    cases ht : tb pc with
    | none => rw [ht] at h; cases h
    | some e0 =>
      rw [ht] at h
      dsimp only at h ⊢
      rcases step_det hcw h with ⟨pc', K', st', M', a1, a2⟩ | ⟨v, M', a1, a2⟩
      · obtain ⟨v, M'', b1, b2⟩ := ih _ _ _ _ a1
        exact ⟨v, M'', b1, fun rt' hr => a2 _ _ (b2 rt' hr)⟩
      · exact ⟨v, M', a1, fun rt' hr => a2 _ _ hr⟩
theorem run_more (hcw : cwDet cw) : ∀ (n pc : Nat) (K : LL) (st : List VV) (M : MM), runN own isI sz0 tt0 mc0 ms0 sl sx cw rt tb n pc K st M → runN own isI sz0 tt0 mc0 ms0 sl sx cw rt tb (n + 1) pc K st M := by
  intro n
  induction n with
  | zero => intro pc K st M h; cases h
  | succ n ih =>
    intro pc K st M h
    unfold runN at h ⊢
    cases ht : tb pc with
    | none => rw [ht] at h; cases h
    | some e0 =>
      rw [ht] at h
      dsimp only at h ⊢
      rcases step_det hcw h with ⟨pc', K', st', M', a1, a2⟩ | ⟨v, M', a1, a2⟩
      · exact a2 _ _ (ih _ _ _ _ a1)
      · exact a2 _ _ a1
def RN (own : Nat) (isI : Bool) (sz0 tt0 mc0 ms0 sl : Nat) (sx : Nat → Int32) (cw : Nat → List VV → MM → (Option VV → MM → Prop) → Prop) (rt : Option VV → MM → Prop) (tb : Nat → Option EE) (pc : Nat) (K : LL) (st : List VV) (M : MM) : Prop := ∃ n, runN own isI sz0 tt0 mc0 ms0 sl sx cw rt tb n pc K st M
/-- some steps, and then what is asked -/
def runK (own : Nat) (isI : Bool) (sz0 tt0 mc0 ms0 sl : Nat) (sx : Nat → Int32) (cw : Nat → List VV → MM → (Option VV → MM → Prop) → Prop) (rt : Option VV → MM → Prop) (tb : Nat → Option EE) (nx : Nat → LL → List VV → MM → Prop) : Nat → Nat → LL → List VV → MM → Prop
  | 0 => nx
  | n + 1 => fun pc K st M => match tb pc with
    | some e => stepW own isI sz0 tt0 mc0 ms0 sl sx cw (runK own isI sz0 tt0 mc0 ms0 sl sx cw rt tb nx n) rt e pc K st M
    | none => False
theorem RN_k (hcw : cwDet cw) : ∀ (k pc : Nat) (K : LL) (st : List VV) (M : MM), runK own isI sz0 tt0 mc0 ms0 sl sx cw rt tb (RN own isI sz0 tt0 mc0 ms0 sl sx cw rt tb) k pc K st M → RN own isI sz0 tt0 mc0 ms0 sl sx cw rt tb pc K st M := by
  intro k
  induction k with
  | zero => intro pc K st M h; exact h
  | succ k ih =>
    intro pc K st M h
    unfold runK at h
    cases ht : tb pc with
    | none => rw [ht] at h; cases h
    | some e0 =>
      rw [ht] at h
      dsimp only at h
      rcases step_det hcw h with ⟨pc', K', st', M', a1, a2⟩ | ⟨v, M', a1, a2⟩
      · obtain ⟨n, hn⟩ := ih _ _ _ _ a1
        exact ⟨n + 1, by unfold runN; rw [ht]; exact a2 _ _ hn⟩
      · exact ⟨1, by unfold runN; rw [ht]; exact a2 _ _ a1⟩
theorem callX_det {TB : TBT} : ∀ d : Nat, cwDet (callX TB sl sx d) := by
  intro d
  induction d with
  | zero => intro j as M P h; cases h
  | succ d ih =>
    intro j as M P h
    unfold callX at h ⊢
    cases h1 : as2 MIg j with
    | none => rw [h1] at h; cases h
    | some q =>
      rw [h1] at h
      dsimp only at h ⊢
      cases h2 : as2 TB j with
      | none => rw [h2] at h; cases h
      | some v =>
        rw [h2] at h
        dsimp only at h ⊢
        obtain ⟨hc, n, hn⟩ := cond_t h
        rw [hc]
        obtain ⟨v', M', b1, b2⟩ := run_det ih _ _ _ _ _ hn
        exact ⟨v', M', b1.2.2.2, fun P' hP => ⟨n, b2 _ ⟨b1.1, b1.2.1, b1.2.2.1, hP⟩⟩⟩
theorem callX_mono {TB : TBT} {d j : Nat} {as : List VV} {M : MM} {P P' : Option VV → MM → Prop} (h : callX TB sl sx d j as M P) (hP : ∀ v M', P v M' → P' v M') : callX TB sl sx d j as M P' := by
  obtain ⟨v, M', a1, a2⟩ := callX_det d j as M P h
  exact a2 _ (hP _ _ a1)
end DET
