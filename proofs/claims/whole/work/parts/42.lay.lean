/-! ===== which leashes are ENOUGH: longer ones, the critical one below, that of HOPS ===== -/
def okG (an bn : Nat) (G : GG) (F A : Bool → Nat → Nat → Nat → Prop) : Prop :=
  (∀ j, j + 1 < bn → okC an (fun i => gF G true i j) (g1 G true j) (g2 G true j) (F true j) (A true j)) ∧
  (∀ i, i + 1 < an → okC bn (fun j => gF G false i j) (g1 G false i) (g2 G false i) (F false i) (A false i)) ∧
  (∀ i j, i < an → j + 1 < bn → gN G i j = true → gF G true i j = true ∧ ∀ k, k < an → gF G true k j = true → F true j i k) ∧
  (∀ i j, i + 1 < an → j < bn → gN G i j = true → gF G false i j = true ∧ ∀ k, k < bn → gF G false i k = true → F false i j k) ∧
  (∀ i j, i < an → j + 1 < bn → gN G i (j + 1) = true → gF G true i j = true ∧ ∀ k, k < an → gF G true k j = true → F true j k i) ∧
  (∀ i j, i + 1 < an → j < bn → gN G (i + 1) j = true → gF G false i j = true ∧ ∀ k, k < bn → gF G false i k = true → F false i k j)
theorem rimL_n {G : GG} : ∀ {j : Nat}, rimL G j = true → ∀ k, k ≤ j → gN G 0 k = true
  | 0, h, k, hk => by
    have : k = 0 := by omega
    subst this; exact h
  | j + 1, h, k, hk => by
    have q := Bool.and_eq_true_iff.mp h
    by_cases e : k ≤ j
    · exact rimL_n q.1 k e
    · have : k = j + 1 := by omega
      subst this; exact q.2
theorem rimB_n {G : GG} : ∀ {j : Nat}, rimB G j = true → ∀ k, k ≤ j → gN G k 0 = true
  | 0, h, k, hk => by
    have : k = 0 := by omega
    subst this; exact h
  | j + 1, h, k, hk => by
    have q := Bool.and_eq_true_iff.mp h
    by_cases e : k ≤ j
    · exact rimB_n q.1 k e
    · have : k = j + 1 := by omega
      subst this; exact q.2
theorem rimL_i {G : GG} : ∀ {j : Nat}, (∀ k, k ≤ j → gN G 0 k = true) → rimL G j = true
  | 0, h => h 0 (Nat.le_refl _)
  | j + 1, h => Bool.and_eq_true_iff.mpr ⟨rimL_i (fun k hk => h k (by omega)), h (j + 1) (Nat.le_refl _)⟩
theorem rimB_i {G : GG} : ∀ {j : Nat}, (∀ k, k ≤ j → gN G k 0 = true) → rimB G j = true
  | 0, h => h 0 (Nat.le_refl _)
  | j + 1, h => Bool.and_eq_true_iff.mpr ⟨rimB_i (fun k hk => h k (by omega)), h (j + 1) (Nat.le_refl _)⟩
abbrev Rl (G : GG) (i j : Nat) : Prop := (lf G i j).isSome = true
abbrev Rw (G : GG) (i j : Nat) : Prop := (lw G i j).isSome = true
theorem Rl_iff {an bn : Nat} {G : GG} {F A : Bool → Nat → Nat → Nat → Prop} (ok : okG an bn G F A) {i j : Nat} (hi : i < an) (hj : j + 1 < bn) :
    Rl G i j ↔ ∃ k, k ≤ i ∧ Ent (rimL G j) (fun i => (lw G (i - 1) j).isSome) k ∧ chn (fun i => gF G true i j) (F true j) k i := by
  show (lf G i j).isSome = true ↔ _
  rw [lf_lo]
  exact lo_iff (ok.1 j hj) (fun h => (ok.2.2.1 0 j (by omega) hj (rimL_n h j (Nat.le_refl _))).1) hi
theorem Rw_iff {an bn : Nat} {G : GG} {F A : Bool → Nat → Nat → Nat → Prop} (ok : okG an bn G F A) {i j : Nat} (hi : i + 1 < an) (hj : j < bn) :
    Rw G i j ↔ ∃ k, k ≤ j ∧ Ent (rimB G i) (fun j => (lf G i (j - 1)).isSome) k ∧ chn (fun j => gF G false i j) (F false i) k j := by
  show (lw G i j).isSome = true ↔ _
  rw [lw_lo]
  exact lo_iff (ok.2.1 i hi) (fun h => (ok.2.2.2.1 i 0 hi (by omega) (rimB_n h i (Nat.le_refl _))).1) hj
/-- what changes between two leashes: free sides and passages stay -/
def goesOn (an bn : Nat) (G G' : GG) (F F' : Bool → Nat → Nat → Nat → Prop) : Prop :=
  (∀ i j, i < an → j + 1 < bn → gF G true i j = true → gF G' true i j = true) ∧
  (∀ i j, i + 1 < an → j < bn → gF G false i j = true → gF G' false i j = true) ∧
  (∀ j m k, j + 1 < bn → m < an → k < an → gF G true m j = true → gF G true k j = true → F true j m k → F' true j m k) ∧
  (∀ i m k, i + 1 < an → m < bn → k < bn → gF G false i m = true → gF G false i k = true → F false i m k → F' false i m k)
theorem go_L {an bn : Nat} {G G' : GG} {F F' : Bool → Nat → Nat → Nat → Prop} (g : goesOn an bn G G' F F') {k i j : Nat} (hi : i < an) (hj : j + 1 < bn) (h : chn (fun i => gF G true i j) (F true j) k i) : chn (fun i => gF G' true i j) (F' true j) k i := by
  intro m m' a1 a2 a3
  have q := h m m' a1 a2 a3
  exact ⟨g.1 m j (by omega) hj q.1, g.1 m' j (by omega) hj q.2.1, g.2.2.1 j m m' hj (by omega) (by omega) q.1 q.2.1 q.2.2⟩
theorem go_W {an bn : Nat} {G G' : GG} {F F' : Bool → Nat → Nat → Nat → Prop} (g : goesOn an bn G G' F F') {k i j : Nat} (hi : i + 1 < an) (hj : j < bn) (h : chn (fun j => gF G false i j) (F false i) k j) : chn (fun j => gF G' false i j) (F' false i) k j := by
  intro m m' a1 a2 a3
  have q := h m m' a1 a2 a3
  exact ⟨g.2.1 i m hi (by omega) q.1, g.2.1 i m' hi (by omega) q.2.1, g.2.2.2 i m m' hi (by omega) (by omega) q.1 q.2.1 q.2.2⟩
/-- a longer leash -/
theorem reach_mono {an bn : Nat} {G G' : GG} {F F' A A' : Bool → Nat → Nat → Nat → Prop} (ok : okG an bn G F A) (ok' : okG an bn G' F' A') (g : goesOn an bn G G' F F') (hn : ∀ i j, i < an → j < bn → gN G i j = true → gN G' i j = true) :
    ∀ s i j, i + j < s → (i < an → j + 1 < bn → Rl G i j → Rl G' i j) ∧ (i + 1 < an → j < bn → Rw G i j → Rw G' i j) := by
  intro s
  induction s with
  | zero => intro i j h; omega
  | succ s ih =>
    intro i j h
    refine ⟨fun hi hj hR => ?_, fun hi hj hR => ?_⟩
    · obtain ⟨k, h1, h2, h3⟩ := (Rl_iff ok hi hj).mp hR
      refine (Rl_iff ok' hi hj).mpr ⟨k, h1, ?_, go_L g hi hj h3⟩
      rcases h2 with h2 | h2
      · exact Or.inl ⟨h2.1, rimL_i (fun k hk => hn 0 k (by omega) (by omega) (rimL_n h2.2 k hk))⟩
      · exact Or.inr ⟨h2.1, (ih (k - 1) j (by omega)).2 (by omega) (by omega) h2.2⟩
    · obtain ⟨k, h1, h2, h3⟩ := (Rw_iff ok hi hj).mp hR
      refine (Rw_iff ok' hi hj).mpr ⟨k, h1, ?_, go_W g hi hj h3⟩
      rcases h2 with h2 | h2
      · exact Or.inl ⟨h2.1, rimB_i (fun k hk => hn k 0 (by omega) (by omega) (rimB_n h2.2 k hk))⟩
      · exact Or.inr ⟨h2.1, (ih i (k - 1) (by omega)).1 (by omega) (by omega) h2.2⟩
/-- near points all along the rim -/
theorem rim_chL {an bn : Nat} {G : GG} {F A : Bool → Nat → Nat → Nat → Prop} (ok : okG an bn G F A) {k i j : Nat} (hi : i < an) (hj : j + 1 < bn) (hr : ∀ m, m < k → gN G m j = true) (h : chn (fun i => gF G true i j) (F true j) k i) : chn (fun i => gF G true i j) (F true j) 0 i := by
  intro m m' _ a2 a3
  have f : ∀ q, q ≤ i → gF G true q j = true := by
    intro q hq
    by_cases e : q < k
    · exact (ok.2.2.1 q j (by omega) hj (hr q e)).1
    · exact (h q q (by omega) (Nat.le_refl _) hq).1
  refine ⟨f m (by omega), f m' a3, ?_⟩
  by_cases e : m < k
  · exact (ok.2.2.1 m j (by omega) hj (hr m e)).2 m' (by omega) (f m' a3)
  · exact (h m m' (by omega) a2 a3).2.2
theorem rim_chW {an bn : Nat} {G : GG} {F A : Bool → Nat → Nat → Nat → Prop} (ok : okG an bn G F A) {k i j : Nat} (hi : i + 1 < an) (hj : j < bn) (hr : ∀ m, m < k → gN G i m = true) (h : chn (fun j => gF G false i j) (F false i) k j) : chn (fun j => gF G false i j) (F false i) 0 j := by
  intro m m' _ a2 a3
  have f : ∀ q, q ≤ j → gF G false i q = true := by
    intro q hq
    by_cases e : q < k
    · exact (ok.2.2.2.1 i q hi (by omega) (hr q e)).1
    · exact (h q q (by omega) (Nat.le_refl _) hq).1
  refine ⟨f m (by omega), f m' a3, ?_⟩
  by_cases e : m < k
  · exact (ok.2.2.2.1 i m hi (by omega) (hr m e)).2 m' (by omega) (f m' a3)
  · exact (h m m' (by omega) a2 a3).2.2
theorem ch_nil {fre : Nat → Bool} {F : Nat → Nat → Prop} {i : Nat} : chn fre F (i + 1) i := fun m m' a1 a2 a3 => by omega
theorem rim_RW {an bn : Nat} {G : GG} {F A : Bool → Nat → Nat → Nat → Prop} (ok : okG an bn G F A) {j : Nat} (ha : 1 < an) (hj : j < bn) (h : rimL G j = true) : Rw G 0 j := by
  refine (Rw_iff ok (by omega) hj).mpr ⟨0, Nat.zero_le _, Or.inl ⟨rfl, rimL_n h 0 (Nat.zero_le _)⟩, ?_⟩
  exact rim_chW ok (k := j + 1) (by omega) hj (fun m hm => rimL_n h m (by omega)) ch_nil
theorem rim_RL {an bn : Nat} {G : GG} {F A : Bool → Nat → Nat → Nat → Prop} (ok : okG an bn G F A) {i : Nat} (hb : 1 < bn) (hi : i < an) (h : rimB G i = true) : Rl G i 0 := by
  refine (Rl_iff ok hi (by omega)).mpr ⟨0, Nat.zero_le _, Or.inl ⟨rfl, rimB_n h 0 (Nat.zero_le _)⟩, ?_⟩
  exact rim_chL ok (k := i + 1) hi (by omega) (fun m hm => rimB_n h m (by omega)) ch_nil
/-- the critical leash below -/
theorem reach_crit {an bn : Nat} {G G' : GG} {F F' A A' : Bool → Nat → Nat → Nat → Prop} (ok : okG an bn G F A) (ok' : okG an bn G' F' A') (g : goesOn an bn G G' F F') (h0 : gN G 0 0 = true → gN G' 0 0 = true) :
    ∀ s i j, i + j < s → (i < an → j + 1 < bn → (0 < i ∨ j = 0) → Rl G i j → Rl G' i j) ∧ (i + 1 < an → j < bn → (0 < j ∨ i = 0) → Rw G i j → Rw G' i j) := by
  intro s
  induction s with
  | zero => intro i j h; omega
  | succ s ih =>
    intro i j h
    refine ⟨fun hi hj hc hR => ?_, fun hi hj hc hR => ?_⟩
    · obtain ⟨k, h1, h2, h3⟩ := (Rl_iff ok hi hj).mp hR
      by_cases hj0 : j = 0
      · subst hj0
        have hr : ∀ m, m < k → gN G m 0 = true := by
          intro m hm
          rcases h2 with h2 | h2
          · omega
          · have q : Rw G (k - 1) 0 := h2.2
            unfold Rw at q
            rw [lw_0] at q
            by_cases e : rimB G (k - 1) = true
            · exact rimB_n e m (by omega)
            · rw [if_neg e] at q; cases q
        have hn0 : gN G 0 0 = true := by
          rcases h2 with h2 | h2
          · exact h2.2
          · exact hr 0 h2.1
        exact (Rl_iff ok' hi hj).mpr ⟨0, Nat.zero_le _, Or.inl ⟨rfl, h0 hn0⟩, go_L g hi hj (rim_chL ok hi hj hr h3)⟩
      · have hi0 : 0 < i := by omega
        rcases h2 with h2 | h2
        · have q := rim_RW ok (by omega) (by omega) h2.2
          refine (Rl_iff ok' hi hj).mpr ⟨1, by omega, Or.inr ⟨by omega, (ih 0 j (by omega)).2 (by omega) (by omega) (Or.inr rfl) q⟩, go_L g hi hj (fun m m' a1 a2 a3 => h3 m m' (by omega) a2 a3)⟩
        · exact (Rl_iff ok' hi hj).mpr ⟨k, h1, Or.inr ⟨h2.1, (ih (k - 1) j (by omega)).2 (by omega) (by omega) (Or.inl (by omega)) h2.2⟩, go_L g hi hj h3⟩
    · obtain ⟨k, h1, h2, h3⟩ := (Rw_iff ok hi hj).mp hR
      by_cases hi0 : i = 0
      · subst hi0
        have hr : ∀ m, m < k → gN G 0 m = true := by
          intro m hm
          rcases h2 with h2 | h2
          · omega
          · have q : Rl G 0 (k - 1) := h2.2
            unfold Rl at q
            rw [lf_0] at q
            by_cases e : rimL G (k - 1) = true
            · exact rimL_n e m (by omega)
            · rw [if_neg e] at q; cases q
        have hn0 : gN G 0 0 = true := by
          rcases h2 with h2 | h2
          · exact h2.2
          · exact hr 0 h2.1
        exact (Rw_iff ok' hi hj).mpr ⟨0, Nat.zero_le _, Or.inl ⟨rfl, h0 hn0⟩, go_W g hi hj (rim_chW ok hi hj hr h3)⟩
      · have hj0 : 0 < j := by omega
        rcases h2 with h2 | h2
        · have q := rim_RL ok (by omega) (by omega) h2.2
          refine (Rw_iff ok' hi hj).mpr ⟨1, by omega, Or.inr ⟨by omega, (ih i 0 (by omega)).1 (by omega) (by omega) (Or.inr rfl) q⟩, go_W g hi hj (fun m m' a1 a2 a3 => h3 m m' (by omega) a2 a3)⟩
        · exact (Rw_iff ok' hi hj).mpr ⟨k, h1, Or.inr ⟨h2.1, (ih i (k - 1) (by omega)).1 (by omega) (by omega) (Or.inl (by omega)) h2.2⟩, go_W g hi hj h3⟩
/-- ENOUGH by WALK -/
def srv (an bn : Nat) (G : GG) : Bool := gN G 0 0 && gN G (an - 1) (bn - 1) && ((lf G (an - 2) (bn - 2)).isSome || (lw G (an - 2) (bn - 2)).isSome)
theorem srv_iff {an bn : Nat} {G : GG} : srv an bn G = true ↔ gN G 0 0 = true ∧ gN G (an - 1) (bn - 1) = true ∧ (Rl G (an - 2) (bn - 2) ∨ Rw G (an - 2) (bn - 2)) := by
  unfold srv
  rw [Bool.and_eq_true, Bool.and_eq_true, Bool.or_eq_true, and_assoc]
theorem srv_mono {an bn : Nat} {G G' : GG} {F F' A A' : Bool → Nat → Nat → Nat → Prop} (ha : 2 ≤ an) (hb : 2 ≤ bn) (ok : okG an bn G F A) (ok' : okG an bn G' F' A') (g : goesOn an bn G G' F F') (hn : ∀ i j, i < an → j < bn → gN G i j = true → gN G' i j = true) (h : srv an bn G = true) : srv an bn G' = true := by
  obtain ⟨h1, h2, h3⟩ := srv_iff.mp h
  have m := reach_mono ok ok' g hn (an - 2 + (bn - 2) + 1) (an - 2) (bn - 2) (by omega)
  refine srv_iff.mpr ⟨hn _ _ (by omega) (by omega) h1, hn _ _ (by omega) (by omega) h2, ?_⟩
  rcases h3 with h3 | h3
  · exact Or.inl (m.1 (by omega) (by omega) h3)
  · exact Or.inr (m.2 (by omega) (by omega) h3)
theorem srv_crit {an bn : Nat} {G G' : GG} {F F' A A' : Bool → Nat → Nat → Nat → Prop} (ha : 2 ≤ an) (hb : 2 ≤ bn) (ok : okG an bn G F A) (ok' : okG an bn G' F' A') (g : goesOn an bn G G' F F') (h0 : gN G 0 0 = true → gN G' 0 0 = true) (h9 : gN G (an - 1) (bn - 1) = true → gN G' (an - 1) (bn - 1) = true) (h : srv an bn G = true) : srv an bn G' = true := by
  obtain ⟨h1, h2, h3⟩ := srv_iff.mp h
  have m := reach_crit ok ok' g h0 (an - 2 + (bn - 2) + 1) (an - 2) (bn - 2) (by omega)
  refine srv_iff.mpr ⟨h0 h1, h9 h2, ?_⟩
  rcases h3 with h3 | h3
  · by_cases e : 0 < an - 2 ∨ bn - 2 = 0
    · exact Or.inl (m.1 (by omega) (by omega) e h3)
    · have ea : an - 2 = 0 := by omega
      rw [ea] at h3 m ⊢
      have q : Rl G 0 (bn - 2) := h3
      unfold Rl at q
      rw [lf_0] at q
      by_cases r : rimL G (bn - 2) = true
      · exact Or.inr (m.2 (by omega) (by omega) (Or.inr rfl) (rim_RW ok (by omega) (by omega) r))
      · rw [if_neg r] at q; cases q
  · by_cases e : 0 < bn - 2 ∨ an - 2 = 0
    · exact Or.inr (m.2 (by omega) (by omega) e h3)
    · have eb : bn - 2 = 0 := by omega
      rw [eb] at h3 m ⊢
      have q : Rw G (an - 2) 0 := h3
      unfold Rw at q
      rw [lw_0] at q
      by_cases r : rimB G (an - 2) = true
      · exact Or.inl (m.1 (by omega) (by omega) (Or.inr rfl) (rim_RL ok (by omega) (by omega) r))
      · rw [if_neg r] at q; cases q
