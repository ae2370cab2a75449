/-! ===== LOW along an edge; which sides are REACHED: pure ===== -/
def cf (fre acr : Bool) (ahd : Option Nat) (self : Nat) (k1 k2 : Nat → Bool) : Option Nat :=
  if fre = true then (if acr = true then some self else match ahd with
    | none => none
    | some b => if k1 b = true then some self else if k2 b = true then some b else none) else none
def lo (r0 : Bool) (fre ent : Nat → Bool) (c1 c2 : Nat → Nat → Bool) : Nat → Option Nat
  | 0 => if r0 = true then some 0 else none
  | i + 1 => cf (fre (i + 1)) (ent (i + 1)) (lo r0 fre ent c1 c2 i) (i + 1) (fun b => c1 b (i + 1)) (fun b => c2 b (i + 1))
/-- what comparisons must keep: A m l: no later begun; F l k: begun ahead of k's end -/
def okC (N : Nat) (fre : Nat → Bool) (c1 c2 : Nat → Nat → Bool) (F A : Nat → Nat → Prop) : Prop :=
  (∀ l k, l < N → k < N → fre l = true → fre k = true → c1 l k = true → A l k) ∧
  (∀ l k, l < N → k < N → fre l = true → fre k = true → c1 l k = false → A k l) ∧
  (∀ l k, l < N → k < N → fre l = true → fre k = true → (c2 l k = true ↔ F l k)) ∧
  (∀ m l k, m < N → l < N → k < N → fre m = true → fre l = true → fre k = true → A m l → F l k → F m k) ∧
  (∀ m l k, m < N → l < N → k < N → fre m = true → fre l = true → fre k = true → A m l → A l k → A m k) ∧
  (∀ m, A m m) ∧ (∀ m, m < N → fre m = true → F m m)
def chn (fre : Nat → Bool) (F : Nat → Nat → Prop) (k i : Nat) : Prop := ∀ m m', k ≤ m → m ≤ m' → m' ≤ i → fre m = true ∧ fre m' = true ∧ F m m'
def Ent (r0 : Bool) (ent : Nat → Bool) (k : Nat) : Prop := (k = 0 ∧ r0 = true) ∨ (0 < k ∧ ent k = true)
theorem lo_inv {N : Nat} {r0 : Bool} {fre ent : Nat → Bool} {c1 c2 : Nat → Nat → Bool} {F A : Nat → Nat → Prop} (ok : okC N fre c1 c2 F A) (hr : r0 = true → fre 0 = true) :
    ∀ i, i < N → ∀ l, lo r0 fre ent c1 c2 i = some l → ∃ k, k ≤ l ∧ l ≤ i ∧ Ent r0 ent k ∧ chn fre F k i ∧ ∀ m, k ≤ m → m ≤ i → A m l := by
  obtain ⟨o1, o2, o3, o4, o5, o6, o7⟩ := ok
  intro i
  induction i with
  | zero =>
    intro hN l h
    unfold lo at h
    by_cases q : r0 = true
    · rw [if_pos q] at h
      cases h
      refine ⟨0, Nat.le_refl _, Nat.le_refl _, Or.inl ⟨rfl, q⟩, fun m m' h1 h2 h3 => ?_, fun m h1 h2 => ?_⟩
      · have e1 : m' = 0 := by omega
        have e2 : m = 0 := by omega
        subst e1; subst e2
        exact ⟨hr q, hr q, o7 0 hN (hr q)⟩
      · have e2 : m = 0 := by omega
        subst e2; exact o6 0
    · rw [if_neg q] at h; cases h
  | succ i ih =>
    intro hN l h
    unfold lo cf at h
    by_cases hf : fre (i + 1) = true
    · rw [if_pos hf] at h
      by_cases ha : ent (i + 1) = true
      · rw [if_pos ha] at h
        cases h
        refine ⟨i + 1, Nat.le_refl _, Nat.le_refl _, Or.inr ⟨by omega, ha⟩, fun m m' h1 h2 h3 => ?_, fun m h1 h2 => ?_⟩
        · have e1 : m' = i + 1 := by omega
          have e2 : m = i + 1 := by omega
          subst e1; subst e2
          exact ⟨hf, hf, o7 _ hN hf⟩
        · have e2 : m = i + 1 := by omega
          subst e2; exact o6 _
      · rw [if_neg ha] at h
        cases hb : lo r0 fre ent c1 c2 i with
        | none => rw [hb] at h; cases h
        | some b =>
          rw [hb] at h
          dsimp only at h
          obtain ⟨k, h1, h2, h3, h4, h5⟩ := ih (by omega) b hb
          have fb : fre b = true := (h4 b b h1 (Nat.le_refl _) h2).1
          have fm : ∀ m, k ≤ m → m ≤ i → fre m = true := fun m a c => (h4 m m a (Nat.le_refl _) c).1
          by_cases q1 : c1 b (i + 1) = true
          · rw [if_pos q1] at h
            cases h
            have A1 := o1 b (i + 1) (by omega) hN fb hf q1
            have F1 := o4 b (i + 1) (i + 1) (by omega) hN hN fb hf hf A1 (o7 _ hN hf)
            refine ⟨k, by omega, Nat.le_refl _, h3, fun m m' a1 a2 a3 => ?_, fun m a1 a2 => ?_⟩
            · by_cases e : m' ≤ i
              · exact h4 m m' a1 a2 e
              · have e1 : m' = i + 1 := by omega
                subst e1
                by_cases e3 : m ≤ i
                · exact ⟨fm m a1 e3, hf, o4 m b (i + 1) (by omega) (by omega) hN (fm m a1 e3) fb hf (h5 m a1 e3) F1⟩
                · have e4 : m = i + 1 := by omega
                  subst e4; exact ⟨hf, hf, o7 _ hN hf⟩
            · by_cases e3 : m ≤ i
              · exact o5 m b (i + 1) (by omega) (by omega) hN (fm m a1 e3) fb hf (h5 m a1 e3) A1
              · have e4 : m = i + 1 := by omega
                subst e4; exact o6 _
          · rw [if_neg q1] at h
            by_cases q2 : c2 b (i + 1) = true
            · rw [if_pos q2] at h
              obtain rfl : b = l := Option.some.inj h
              have F1 := (o3 b (i + 1) (by omega) hN fb hf).mp q2
              refine ⟨k, h1, by omega, h3, fun m m' a1 a2 a3 => ?_, fun m a1 a2 => ?_⟩
              · by_cases e : m' ≤ i
                · exact h4 m m' a1 a2 e
                · have e1 : m' = i + 1 := by omega
                  subst e1
                  by_cases e3 : m ≤ i
                  · exact ⟨fm m a1 e3, hf, o4 m b (i + 1) (by omega) (by omega) hN (fm m a1 e3) fb hf (h5 m a1 e3) F1⟩
                  · have e4 : m = i + 1 := by omega
                    subst e4; exact ⟨hf, hf, o7 _ hN hf⟩
              · by_cases e3 : m ≤ i
                · exact h5 m a1 e3
                · have e4 : m = i + 1 := by omega
                  subst e4
                  exact o2 b (i + 1) (by omega) hN fb hf (Bool.eq_false_iff.mpr q1)
            · rw [if_neg q2] at h; cases h
    · rw [if_neg hf] at h; cases h
theorem lo_le {r0 : Bool} {fre ent : Nat → Bool} {c1 c2 : Nat → Nat → Bool} : ∀ i l, lo r0 fre ent c1 c2 i = some l → l ≤ i := by
  intro i
  induction i with
  | zero =>
    intro l h
    unfold lo at h
    by_cases q : r0 = true
    · rw [if_pos q] at h; cases h; omega
    · rw [if_neg q] at h; cases h
  | succ i ih =>
    intro l h
    unfold lo cf at h
    by_cases hf : fre (i + 1) = true
    · rw [if_pos hf] at h
      by_cases ha : ent (i + 1) = true
      · rw [if_pos ha] at h; cases h; omega
      · rw [if_neg ha] at h
        cases hb : lo r0 fre ent c1 c2 i with
        | none => rw [hb] at h; cases h
        | some b =>
          rw [hb] at h
          dsimp only at h
          have := ih b hb
          by_cases q1 : c1 b (i + 1) = true
          · rw [if_pos q1] at h; cases h; omega
          · rw [if_neg q1] at h
            by_cases q2 : c2 b (i + 1) = true
            · rw [if_pos q2] at h; cases h; omega
            · rw [if_neg q2] at h; cases h
    · rw [if_neg hf] at h; cases h
theorem lo_of {N : Nat} {r0 : Bool} {fre ent : Nat → Bool} {c1 c2 : Nat → Nat → Bool} {F A : Nat → Nat → Prop} (ok : okC N fre c1 c2 F A) :
    ∀ i, i < N → ∀ k, k ≤ i → Ent r0 ent k → chn fre F k i → ∃ l, lo r0 fre ent c1 c2 i = some l ∧ k ≤ l := by
  intro i
  induction i with
  | zero =>
    intro hN k hk he hc
    refine ⟨0, ?_, hk⟩
    unfold lo
    rcases he with he | he
    · rw [if_pos he.2]
    · omega
  | succ i ih =>
    intro hN k hk he hc
    have hf : fre (i + 1) = true := (hc (i + 1) (i + 1) hk (Nat.le_refl _) (Nat.le_refl _)).1
    unfold lo cf
    rw [if_pos hf]
    by_cases ha : ent (i + 1) = true
    · rw [if_pos ha]; exact ⟨i + 1, rfl, hk⟩
    · rw [if_neg ha]
      have hki : k ≤ i := by
        by_cases e : k ≤ i
        · exact e
        · have e1 : k = i + 1 := by omega
          subst e1
          rcases he with he | he
          · omega
          · exact absurd he.2 ha
      obtain ⟨b, hb, hkb⟩ := ih (by omega) k hki he (fun m m' a1 a2 a3 => hc m m' a1 a2 (by omega))
      have hbi := lo_le i b hb
      rw [hb]
      dsimp only
      by_cases q1 : c1 b (i + 1) = true
      · rw [if_pos q1]; exact ⟨i + 1, rfl, hk⟩
      · rw [if_neg q1]
        have := hc b (i + 1) hkb (by omega) (Nat.le_refl _)
        rw [if_pos ((ok.2.2.1 b (i + 1) (by omega) hN this.1 hf).mpr this.2.2)]
        exact ⟨b, rfl, hkb⟩
theorem lo_iff {N : Nat} {r0 : Bool} {fre ent : Nat → Bool} {c1 c2 : Nat → Nat → Bool} {F A : Nat → Nat → Prop} (ok : okC N fre c1 c2 F A) (hr : r0 = true → fre 0 = true) {i : Nat} (hi : i < N) :
    (lo r0 fre ent c1 c2 i).isSome = true ↔ ∃ k, k ≤ i ∧ Ent r0 ent k ∧ chn fre F k i := by
  refine ⟨fun h => ?_, fun ⟨k, h1, h2, h3⟩ => ?_⟩
  · obtain ⟨l, hl⟩ := Option.isSome_iff_exists.mp h
    obtain ⟨k, h1, h2, h3, h4, _⟩ := lo_inv ok hr i hi l hl
    exact ⟨k, by omega, h3, h4⟩
  · obtain ⟨l, hl, _⟩ := lo_of ok i hi k h1 h2 h3
    rw [hl]; rfl
/-! both ways -/
abbrev GG : Type := (Nat → Nat → Bool) × (Bool → Nat → Nat → Bool) × (Bool → Nat → Nat → Nat → Bool) × (Bool → Nat → Nat → Nat → Bool)
def gN (G : GG) : Nat → Nat → Bool := G.1
def gF (G : GG) : Bool → Nat → Nat → Bool := G.2.1
def g1 (G : GG) : Bool → Nat → Nat → Nat → Bool := G.2.2.1
def g2 (G : GG) : Bool → Nat → Nat → Nat → Bool := G.2.2.2
def rimL (G : GG) : Nat → Bool
  | 0 => gN G 0 0
  | j + 1 => rimL G j && gN G 0 (j + 1)
def rimB (G : GG) : Nat → Bool
  | 0 => gN G 0 0
  | i + 1 => rimB G i && gN G (i + 1) 0
def cfL (G : GG) (i j : Nat) (p : Option Nat × Option Nat) : Option Nat := cf (gF G true (i + 1) j) p.2.isSome p.1 (i + 1) (fun b => g1 G true j b (i + 1)) (fun b => g2 G true j b (i + 1))
def cfW (G : GG) (i j : Nat) (p : Option Nat × Option Nat) : Option Nat := cf (gF G false i (j + 1)) p.1.isSome p.2 (j + 1) (fun b => g1 G false i b (j + 1)) (fun b => g2 G false i b (j + 1))
def rw0 (G : GG) : Nat → Option Nat × Option Nat
  | 0 => (if rimL G 0 = true then some 0 else none, if rimB G 0 = true then some 0 else none)
  | j + 1 => (if rimL G (j + 1) = true then some 0 else none, cfW G 0 j (rw0 G j))
def rwS (G : GG) (i : Nat) (prev : Nat → Option Nat × Option Nat) : Nat → Option Nat × Option Nat
  | 0 => (cfL G i 0 (prev 0), if rimB G (i + 1) = true then some 0 else none)
  | j + 1 => (cfL G i (j + 1) (prev (j + 1)), cfW G (i + 1) j (rwS G i prev j))
/-- LOW of LEFT i, j and of LOWER i, j: the point whose first place it is -/
def rp (G : GG) : Nat → Nat → Option Nat × Option Nat
  | 0 => rw0 G
  | i + 1 => rwS G i (rp G i)
def lf (G : GG) (i j : Nat) : Option Nat := (rp G i j).1
def lw (G : GG) (i j : Nat) : Option Nat := (rp G i j).2
theorem lf_0 (G : GG) (j : Nat) : lf G 0 j = if rimL G j = true then some 0 else none := by cases j <;> rfl
theorem lw_0 (G : GG) (i : Nat) : lw G i 0 = if rimB G i = true then some 0 else none := by cases i <;> rfl
theorem lf_s (G : GG) (i j : Nat) : lf G (i + 1) j = cf (gF G true (i + 1) j) (lw G i j).isSome (lf G i j) (i + 1) (fun b => g1 G true j b (i + 1)) (fun b => g2 G true j b (i + 1)) := by cases j <;> rfl
theorem lw_s (G : GG) (i j : Nat) : lw G i (j + 1) = cf (gF G false i (j + 1)) (lf G i j).isSome (lw G i j) (j + 1) (fun b => g1 G false i b (j + 1)) (fun b => g2 G false i b (j + 1)) := by cases i <;> rfl
theorem lf_lo (G : GG) (j : Nat) : ∀ i, lf G i j = lo (rimL G j) (fun i => gF G true i j) (fun i => (lw G (i - 1) j).isSome) (g1 G true j) (g2 G true j) i
  | 0 => lf_0 G j
  | i + 1 => by rw [lf_s, lf_lo G j i]; rfl
theorem lw_lo (G : GG) (i : Nat) : ∀ j, lw G i j = lo (rimB G i) (fun j => gF G false i j) (fun j => (lf G i (j - 1)).isSome) (g1 G false i) (g2 G false i) j
  | 0 => lw_0 G i
  | j + 1 => by rw [lw_s, lw_lo G i j]; rfl
/-- the same of both ways changed -/
def gT (G : GG) : GG := (fun i j => gN G j i, fun l i j => gF G (!l) j i, fun l e b t => g1 G (!l) e b t, fun l e b t => g2 G (!l) e b t)
theorem rim_T (G : GG) : ∀ i, rimL (gT G) i = rimB G i
  | 0 => rfl
  | i + 1 => by
    show (rimL (gT G) i && gN G (i + 1) 0) = _
    rw [rim_T G i]; rfl
theorem rim_T' (G : GG) : ∀ i, rimB (gT G) i = rimL G i
  | 0 => rfl
  | i + 1 => by
    show (rimB (gT G) i && gN G 0 (i + 1)) = _
    rw [rim_T' G i]; rfl
theorem rp_T (G : GG) : ∀ s i j, i + j ≤ s → lf (gT G) i j = lw G j i ∧ lw (gT G) i j = lf G j i := by
  intro s
  induction s with
  | zero =>
    intro i j h
    have e1 : i = 0 := by omega
    have e2 : j = 0 := by omega
    subst e1; subst e2
    exact ⟨rfl, rfl⟩
  | succ s ih =>
    intro i j h
    refine ⟨?_, ?_⟩
    · cases i with
      | zero => rw [lf_0, lw_0, rim_T]
      | succ i =>
        have := ih i j (by omega)
        rw [lf_s, lw_s, this.1, this.2]; rfl
    · cases j with
      | zero => rw [lf_0, lw_0, rim_T']
      | succ j =>
        have := ih i j (by omega)
        rw [lf_s, lw_s, this.1, this.2]; rfl
