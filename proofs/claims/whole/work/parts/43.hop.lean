/-! ===== what HOPS need is enough for WALK; WALK's is for WEAK ===== -/
theorem cross_L {G : GG} {i j : Nat} (hf : gF G true (i + 1) j = true) (h : Rw G i j) : Rl G (i + 1) j := by
  show (lf G (i + 1) j).isSome = true
  rw [lf_s, cf.eq_def, if_pos hf, if_pos h]; rfl
theorem cross_W {G : GG} {i j : Nat} (hf : gF G false i (j + 1) = true) (h : Rl G i j) : Rw G i (j + 1) := by
  show (lw G i (j + 1)).isSome = true
  rw [lw_s, cf.eq_def, if_pos hf, if_pos h]; rfl
theorem ahead_L {an bn : Nat} {G : GG} {F A : Bool → Nat → Nat → Nat → Prop} (ok : okG an bn G F A) {i j : Nat} (hi : i + 1 < an) (hj : j + 1 < bn) (hn : gN G (i + 1) (j + 1) = true) (h : Rl G i j) : Rl G (i + 1) j := by
  obtain ⟨hf, hF⟩ := ok.2.2.2.2.1 (i + 1) j hi hj hn
  obtain ⟨b, hb⟩ := Option.isSome_iff_exists.mp h
  have hb' := hb
  rw [lf_lo] at hb'
  obtain ⟨k, h1, h2, h3, h4, _⟩ := lo_inv (ok.1 j hj) (fun h => (ok.2.2.1 0 j (by omega) hj (rimL_n h j (Nat.le_refl _))).1) i (by omega) b hb'
  have fb := (h4 b b h1 (Nat.le_refl _) h2).1
  show (lf G (i + 1) j).isSome = true
  rw [lf_s, cf.eq_def, if_pos hf, hb]
  dsimp only
  by_cases q : (lw G i j).isSome = true
  · rw [if_pos q]; rfl
  · rw [if_neg q]
    by_cases q1 : g1 G true j b (i + 1) = true
    · rw [if_pos q1]; rfl
    · rw [if_neg q1, if_pos (((ok.1 j hj).2.2.1 b (i + 1) (by omega) hi fb hf).mpr (hF b (by omega) fb))]; rfl
theorem ahead_W {an bn : Nat} {G : GG} {F A : Bool → Nat → Nat → Nat → Prop} (ok : okG an bn G F A) {i j : Nat} (hi : i + 1 < an) (hj : j + 1 < bn) (hn : gN G (i + 1) (j + 1) = true) (h : Rw G i j) : Rw G i (j + 1) := by
  obtain ⟨hf, hF⟩ := ok.2.2.2.2.2 i (j + 1) hi hj hn
  obtain ⟨b, hb⟩ := Option.isSome_iff_exists.mp h
  have hb' := hb
  rw [lw_lo] at hb'
  obtain ⟨k, h1, h2, h3, h4, _⟩ := lo_inv (ok.2.1 i hi) (fun h => (ok.2.2.2.1 i 0 hi (by omega) (rimB_n h i (Nat.le_refl _))).1) j (by omega) b hb'
  have fb := (h4 b b h1 (Nat.le_refl _) h2).1
  show (lw G i (j + 1)).isSome = true
  rw [lw_s, cf.eq_def, if_pos hf, hb]
  dsimp only
  by_cases q : (lf G i j).isSome = true
  · rw [if_pos q]; rfl
  · rw [if_neg q]
    by_cases q1 : g1 G false i b (j + 1) = true
    · rw [if_pos q1]; rfl
    · rw [if_neg q1, if_pos (((ok.2.1 i hi).2.2.1 b (j + 1) (by omega) hj fb hf).mpr (hF b (by omega) fb))]; rfl
/-- both walkers can be at these points -/
def Vx (G : GG) (i j : Nat) : Prop := gN G i j = true ∧ (0 < j → Rl G i (j - 1)) ∧ (0 < i → Rw G (i - 1) j)
theorem Vx_W {an bn : Nat} {G : GG} {F A : Bool → Nat → Nat → Nat → Prop} (ok : okG an bn G F A) {i j : Nat} (hi : i + 1 < an) (hj : j < bn) (h : Vx G i j) : Rw G i j := by
  cases j with
  | zero =>
    show (lw G i 0).isSome = true
    rw [lw_0]
    have hr : rimB G i = true := by
      cases i with
      | zero => exact h.1
      | succ i =>
        have q : (lw G i 0).isSome = true := h.2.2 (by omega)
        rw [lw_0] at q
        by_cases r : rimB G i = true
        · exact Bool.and_eq_true_iff.mpr ⟨r, h.1⟩
        · rw [if_neg r] at q; cases q
    rw [if_pos hr]; rfl
  | succ j => exact cross_W (ok.2.2.2.1 i (j + 1) hi hj h.1).1 (h.2.1 (by omega))
theorem Vx_L {an bn : Nat} {G : GG} {F A : Bool → Nat → Nat → Nat → Prop} (ok : okG an bn G F A) {i j : Nat} (hi : i < an) (hj : j + 1 < bn) (h : Vx G i j) : Rl G i j := by
  cases i with
  | zero =>
    show (lf G 0 j).isSome = true
    rw [lf_0]
    have hr : rimL G j = true := by
      cases j with
      | zero => exact h.1
      | succ j =>
        have q : (lf G 0 j).isSome = true := h.2.1 (by omega)
        rw [lf_0] at q
        by_cases r : rimL G j = true
        · exact Bool.and_eq_true_iff.mpr ⟨r, h.1⟩
        · rw [if_neg r] at q; cases q
    rw [if_pos hr]; rfl
  | succ i => exact cross_L (ok.2.2.1 (i + 1) j hi hj h.1).1 (h.2.2 (by omega))
def isHp (an bn : Nat) (G : GG) (Hp : Nat → Nat → Prop) : Prop := ∀ i j, i < an → j < bn → Hp i j → gN G i j = true ∧ ((i + 1 = an ∧ j + 1 = bn) ∨ (i + 1 < an ∧ j + 1 < bn ∧ Hp (i + 1) (j + 1)) ∨ (i + 1 < an ∧ Hp (i + 1) j) ∨ (j + 1 < bn ∧ Hp i (j + 1)))
theorem Vx_hop {an bn : Nat} {G : GG} {F A : Bool → Nat → Nat → Nat → Prop} (ok : okG an bn G F A) {Hp : Nat → Nat → Prop} (hp : isHp an bn G Hp) : ∀ s i j, an - i + (bn - j) ≤ s → i < an → j < bn → Vx G i j → Hp i j → Vx G (an - 1) (bn - 1) := by
  intro s
  induction s with
  | zero => intro i j h hi hj; omega
  | succ s ih =>
    intro i j h hi hj hV hH
    obtain ⟨_, q | q | q | q⟩ := hp i j hi hj hH
    · have e1 : i = an - 1 := by omega
      have e2 : j = bn - 1 := by omega
      rw [← e1, ← e2]; exact hV
    · obtain ⟨q1, q2, q3⟩ := q
      have hn := (hp (i + 1) (j + 1) q1 q2 q3).1
      refine ih (i + 1) (j + 1) (by omega) q1 q2 ⟨hn, fun _ => ?_, fun _ => ?_⟩ q3
      · exact cross_L (ok.2.2.2.2.1 (i + 1) j q1 q2 hn).1 (Vx_W ok q1 hj hV)
      · exact cross_W (ok.2.2.2.2.2 i (j + 1) q1 q2 hn).1 (Vx_L ok hi q2 hV)
    · obtain ⟨q1, q3⟩ := q
      have hn := (hp (i + 1) j q1 hj q3).1
      refine ih (i + 1) j (by omega) q1 hj ⟨hn, fun hj0 => ?_, fun _ => Vx_W ok q1 hj hV⟩ q3
      have e : j - 1 + 1 = j := by omega
      exact ahead_L ok (j := j - 1) q1 (by omega) (by rw [e]; exact hn) (hV.2.1 hj0)
    · obtain ⟨q2, q3⟩ := q
      have hn := (hp i (j + 1) hi q2 q3).1
      refine ih i (j + 1) (by omega) hi q2 ⟨hn, fun _ => Vx_L ok hi q2 hV, fun hi0 => ?_⟩ q3
      have e : i - 1 + 1 = i := by omega
      exact ahead_W ok (i := i - 1) (by omega) q2 (by rw [e]; exact hn) (hV.2.2 hi0)
theorem Rl_back {G : GG} {i j : Nat} (h : Rl G (i + 1) j) : gF G true (i + 1) j = true ∧ (Rl G i j ∨ Rw G i j) := by
  have q : (lf G (i + 1) j).isSome = true := h
  rw [lf_s, cf.eq_def] at q
  by_cases hf : gF G true (i + 1) j = true
  · refine ⟨hf, ?_⟩
    rw [if_pos hf] at q
    by_cases a : (lw G i j).isSome = true
    · exact Or.inr a
    · rw [if_neg a] at q
      cases hb : lf G i j with
      | none => rw [hb] at q; cases q
      | some b => left; show (lf G i j).isSome = true; rw [hb]; rfl
  · rw [if_neg hf] at q; cases q
theorem Rw_back {G : GG} {i j : Nat} (h : Rw G i (j + 1)) : gF G false i (j + 1) = true ∧ (Rl G i j ∨ Rw G i j) := by
  have q : (lw G i (j + 1)).isSome = true := h
  rw [lw_s, cf.eq_def] at q
  by_cases hf : gF G false i (j + 1) = true
  · refine ⟨hf, ?_⟩
    rw [if_pos hf] at q
    by_cases a : (lf G i j).isSome = true
    · exact Or.inl a
    · rw [if_neg a] at q
      cases hb : lw G i j with
      | none => rw [hb] at q; cases q
      | some b => right; show (lw G i j).isSome = true; rw [hb]; rfl
  · rw [if_neg hf] at q; cases q
theorem srv_hop {an bn : Nat} {G : GG} {F A : Bool → Nat → Nat → Nat → Prop} (ha : 2 ≤ an) (hb : 2 ≤ bn) (ok : okG an bn G F A) {Hp : Nat → Nat → Prop} (hp : isHp an bn G Hp) (h : Hp 0 0) : srv an bn G = true := by
  have h0 := (hp 0 0 (by omega) (by omega) h).1
  have V := Vx_hop ok hp (an + bn) 0 0 (by omega) (by omega) (by omega) ⟨h0, fun q => by omega, fun q => by omega⟩ h
  refine srv_iff.mpr ⟨h0, V.1, ?_⟩
  have q := V.2.1 (by omega)
  have e1 : an - 1 = an - 2 + 1 := by omega
  have e2 : bn - 1 - 1 = bn - 2 := by omega
  rw [e1, e2] at q
  exact (Rl_back q).2
/-- cells one comes to over free sides, whichever way -/
def clQ (an bn : Nat) (G : GG) (Q : Nat → Nat → Prop) : Prop :=
  (∀ i j, i + 2 < an → j + 1 < bn → gF G true (i + 1) j = true → (Q i j ↔ Q (i + 1) j)) ∧ (∀ i j, i + 1 < an → j + 2 < bn → gF G false i (j + 1) = true → (Q i j ↔ Q i (j + 1)))
def Sto (an bn : Nat) (G : GG) (i j : Nat) : Prop := ∀ Q : Nat → Nat → Prop, Q 0 0 → clQ an bn G Q → Q i j
theorem Sto_mono {an bn : Nat} {G G' : GG} (g1 : ∀ i j, i < an → j + 1 < bn → gF G true i j = true → gF G' true i j = true) (g2 : ∀ i j, i + 1 < an → j < bn → gF G false i j = true → gF G' false i j = true) {i j : Nat} (h : Sto an bn G i j) : Sto an bn G' i j :=
  fun Q h0 hc => h Q h0 ⟨fun i j a b c => hc.1 i j a b (g1 _ _ (by omega) b c), fun i j a b c => hc.2 i j a b (g2 _ _ a (by omega) c)⟩
theorem Sto_of {an bn : Nat} {G : GG} {F A : Bool → Nat → Nat → Nat → Prop} (ok : okG an bn G F A) : ∀ s i j, i + j < s → i + 1 < an → j + 1 < bn → (Rl G i j ∨ Rw G i j) → Sto an bn G i j := by
  intro s
  induction s with
  | zero => intro i j h; omega
  | succ s ih =>
    intro i j h hi hj hR Q h0 hc
    -- back over LEFT, or over LOWER
    have goL : ∀ i', i = i' + 1 → Rl G i j → Q i j := by
      intro i' e hl
      subst e
      have b := Rl_back hl
      exact (hc.1 i' j (by omega) hj b.1).mp (ih i' j (by omega) (by omega) hj b.2 Q h0 hc)
    have goW : ∀ j', j = j' + 1 → Rw G i j → Q i j := by
      intro j' e hl
      subst e
      have b := Rw_back hl
      exact (hc.2 i j' hi (by omega) b.1).mp (ih i j' (by omega) hi (by omega) b.2 Q h0 hc)
    rcases hR with hR | hR
    · cases i with
      | succ i' => exact goL i' rfl hR
      | zero =>
        cases j with
        | zero => exact h0
        | succ j' =>
          have q : (lf G 0 (j' + 1)).isSome = true := hR
          rw [lf_0] at q
          by_cases r : rimL G (j' + 1) = true
          · have r2 := (Bool.and_eq_true_iff.mp r)
            have l' : Rl G 0 j' := by
              show (lf G 0 j').isSome = true
              rw [lf_0, if_pos r2.1]; rfl
            exact (hc.2 0 j' hi (by omega) (ok.2.2.2.1 0 (j' + 1) hi (by omega) r2.2).1).mp (ih 0 j' (by omega) hi (by omega) (Or.inl l') Q h0 hc)
          · rw [if_neg r] at q; cases q
    · cases j with
      | succ j' => exact goW j' rfl hR
      | zero =>
        cases i with
        | zero => exact h0
        | succ i' =>
          have q : (lw G (i' + 1) 0).isSome = true := hR
          rw [lw_0] at q
          by_cases r : rimB G (i' + 1) = true
          · have r2 := (Bool.and_eq_true_iff.mp r)
            have l' : Rw G i' 0 := by
              show (lw G i' 0).isSome = true
              rw [lw_0, if_pos r2.1]; rfl
            exact (hc.1 i' 0 (by omega) hj (ok.2.2.1 (i' + 1) 0 (by omega) hj r2.2).1).mp (ih i' 0 (by omega) (by omega) hj (Or.inr l') Q h0 hc)
          · rw [if_neg r] at q; cases q
