/-! ===== locals; the frame at a place of a method ===== -/
def asL (f : VV → Value) : Nat → LL → List (Nat × Value)
  | _, [] => []
  | i, none :: r => asL f (i + 1) r
  | i, some v :: r => (i, f v) :: asL f (i + 1) r
theorem asL_mem (f : VV → Value) : ∀ (K : LL) (i : Nat) (q : Nat × Value), q ∈ asL f i K ↔ ∃ n v, gt K n = some v ∧ q = (i + n, f v)
  | [], i, q => by
    constructor
    · intro h; cases h
    · rintro ⟨n, v, h, -⟩; cases h
  | none :: r, i, q => by
    rw [show asL f i (none :: r) = asL f (i + 1) r from rfl, asL_mem f r (i + 1) q]
    constructor
    · rintro ⟨n, v, h, e⟩
      exact ⟨n + 1, v, h, by rw [e]; congr 1; omega⟩
    · rintro ⟨n, v, h, e⟩
      cases n with
      | zero => cases h
      | succ n => exact ⟨n, v, h, by rw [e]; congr 1; omega⟩
  | some w :: r, i, q => by
    rw [show asL f i (some w :: r) = (i, f w) :: asL f (i + 1) r from rfl, List.mem_cons, asL_mem f r (i + 1) q]
    constructor
    · rintro (h | ⟨n, v, h, e⟩)
      · exact ⟨0, w, rfl, h⟩
      · exact ⟨n + 1, v, h, by rw [e]; congr 1; omega⟩
    · rintro ⟨n, v, h, e⟩
      cases n with
      | zero => left; have e2 : w = v := Option.some.inj h; rw [e, e2]; rfl
      | succ n => right; exact ⟨n, v, h, by rw [e]; congr 1; omega⟩
theorem gt_sto : ∀ (K : LL) (a : Nat) (x : Option VV) (n : Nat), gt (sto K a x) n = if n = a ∧ a < K.length then x else gt K n
  | [], a, x, n => by simp [sto]
  | y :: r, 0, x, n => by cases n <;> simp [sto, gt]
  | y :: r, a + 1, x, 0 => by simp [sto, gt]
  | y :: r, a + 1, x, n + 1 => by
    show gt (sto r a x) n = _
    rw [gt_sto r a x n]
    simp [gt]
theorem len_sto : ∀ (K : LL) (a : Nat) (x : Option VV), (sto K a x).length = K.length
  | [], _, _ => rfl
  | _ :: _, 0, _ => rfl
  | _ :: r, a + 1, x => by simp [sto, len_sto r a x]
theorem len_kil : ∀ (K : LL) (a : Nat), (kil K a).length = K.length
  | [], _ => rfl
  | _ :: _, 0 => rfl
  | x :: r, 1 => by unfold kil; dsimp only; cases isL2 x <;> rfl
  | x :: r, a + 2 => by show (kil r (a + 1)).length + 1 = _; rw [len_kil r (a + 1)]; rfl
theorem gt_kil : ∀ (K : LL) (a n : Nat) (v : VV), gt (kil K a) n = some v → gt K n = some v ∧ (n + 1 = a → c2 v ≠ 2)
  | [], _, _, v, h => by cases h
  | x :: r, 0, n, v, h => ⟨h, fun h => by omega⟩
  | x :: r, 1, n, v, h => by
    unfold kil at h
    dsimp only at h
    cases n with
    | zero =>
      cases hx : isL2 x with
      | true => rw [hx] at h; cases h
      | false =>
        rw [hx] at h
        refine ⟨h, fun _ => ?_⟩
        have h2 : x = some v := h
        subst h2
        rcases v with y | y | y | y
        · exact fun h => by cases h
        · cases hx
        · exact fun h => by cases h
        · exact fun h => by cases h
    | succ n =>
      refine ⟨?_, fun h => by omega⟩
      cases hx : isL2 x with
      | true => rw [hx] at h; exact h
      | false => rw [hx] at h; exact h
  | x :: r, a + 2, 0, v, h => ⟨h, fun h => by omega⟩
  | x :: r, a + 2, n + 1, v, h => by
    have h1 : gt (kil r (a + 1)) n = some v := h
    obtain ⟨g1, g2⟩ := gt_kil r (a + 1) n v h1
    exact ⟨g1, fun h => g2 (by omega)⟩
theorem lv_of_gt {B b : Nat} {K : LL} {ls : Array Slot} {nL a : Nat} {v : VV} (h : lv_has ls nL (asL (tv B b) 0 K)) (hg : gt K a = some v) : ls[a]? = some (.val (tv B b v)) := by
  have := h.2.2 (a, tv B b v) ((asL_mem _ K 0 _).mpr ⟨a, v, hg, by simp⟩)
  exact this
theorem lv_mem {B b : Nat} {K : LL} {ls : Array Slot} {nL a : Nat} {v : VV} (h : lv_has ls nL (asL (tv B b) 0 K)) (hg : gt K a = some v) : ∃ k : Nat, (asL (tv B b) 0 K)[k]? = some (a, tv B b v) :=
  List.getElem?_of_mem ((asL_mem _ K 0 _).mpr ⟨a, v, hg, by simp⟩)
theorem lv_st1 {B b : Nat} {K : LL} {ls' : Array Slot} {nL a : Nat} {v : VV} (h : lv_has ls' nL ((a, tv B b v) :: (asL (tv B b) 0 K).filter (fun q => !(q.1 == a) && !(q.1 + 1 == a && q.2.category == 2)))) : lv_has ls' nL (asL (tv B b) 0 (sto1 K a v)) := by
  refine ⟨h.1, h.2.1, fun q hq => ?_⟩
  obtain ⟨n, w, hg, rfl⟩ := (asL_mem _ _ 0 q).mp hq
  unfold sto1 at hg
  rw [gt_sto] at hg
  by_cases hn : n = a ∧ a < (kil K a).length
  · rw [if_pos hn] at hg
    cases hg
    have := h.2.2 (a, tv B b v) List.mem_cons_self
    rw [show (0 + n, tv B b v) = (a, tv B b v) by rw [hn.1]; simp]
    exact this
  · rw [if_neg hn] at hg
    obtain ⟨g1, g2⟩ := gt_kil K a n w hg
    have hna : n ≠ a := fun e => hn ⟨e, by
      subst e
      rw [len_kil]
      rcases Nat.lt_or_ge n K.length with q | q
      · exact q
      · exfalso
        have : ∀ (K : LL) (n : Nat), K.length ≤ n → gt K n = none := by
          intro K
          induction K with
          | nil => intro n _; rfl
          | cons x r ih => intro n h; cases n with
            | zero => simp at h
            | succ n => exact ih n (by simpa using h)
        rw [this K n q] at g1
        cases g1⟩
    refine h.2.2 _ (List.mem_cons_of_mem _ (List.mem_filter.mpr ⟨(asL_mem _ K 0 _).mpr ⟨n, w, g1, rfl⟩, ?_⟩))
    have h2 : n + 1 = a → ¬ (tv B b w).category = 2 := fun e => by rw [tv_cat]; exact g2 e
    have e1 : (0 + n == a) = false := by simp; exact hna
    have e2 : ((0 + n + 1 == a) && ((tv B b w).category == 2)) = false := by
      by_cases hh : n + 1 = a
      · have := h2 hh
        simp [this]
      · simp [hh]
    show (!(0 + n == a) && !((0 + n + 1 == a) && ((tv B b w).category == 2))) = true
    rw [e1, e2]
    rfl
theorem gt_len : ∀ (K : LL) (n : Nat), K.length ≤ n → gt K n = none
  | [], _, _ => rfl
  | x :: r, 0, h => by simp at h
  | x :: r, n + 1, h => gt_len r n (by simpa using h)
theorem lv_st2 {B b : Nat} {K : LL} {ls' : Array Slot} {nL a : Nat} {x : Int64} (hl : a + 1 < K.length) (h : lv_has ls' nL ((a, Value.long x) :: (asL (tv B b) 0 K).filter (fun q => !(q.1 == a) && (!(q.1 == a + 1) && !(q.1 + 1 == a && q.2.category == 2))))) : lv_has ls' nL (asL (tv B b) 0 (sto2 K a (vL x))) := by
  refine ⟨h.1, h.2.1, fun q hq => ?_⟩
  obtain ⟨n, w, hg, rfl⟩ := (asL_mem _ _ 0 q).mp hq
  unfold sto2 at hg
  rw [gt_sto, gt_sto, len_sto, len_kil] at hg
  by_cases h1 : n = a + 1 ∧ a + 1 < K.length
  · rw [if_pos h1] at hg; cases hg
  · rw [if_neg h1] at hg
    have hn1 : n ≠ a + 1 := fun e => h1 ⟨e, hl⟩
    by_cases h2 : n = a ∧ a < K.length
    · rw [if_pos h2] at hg
      cases hg
      have := h.2.2 (a, Value.long x) List.mem_cons_self
      rw [show (0 + n, tv B b (vL x)) = (a, Value.long x) by rw [h2.1]; simp [tv]]
      exact this
    · rw [if_neg h2] at hg
      have hn2 : n ≠ a := fun e => h2 ⟨e, by omega⟩
      obtain ⟨g1, g2⟩ := gt_kil K a n w hg
      refine h.2.2 _ (List.mem_cons_of_mem _ (List.mem_filter.mpr ⟨(asL_mem _ K 0 _).mpr ⟨n, w, g1, rfl⟩, ?_⟩))
      have h3 : n + 1 = a → ¬ (tv B b w).category = 2 := fun e => by rw [tv_cat]; exact g2 e
      have e1 : (0 + n == a) = false := by simp; exact hn2
      have e3 : (0 + n == a + 1) = false := by simp; exact hn1
      have e2 : ((0 + n + 1 == a) && ((tv B b w).category == 2)) = false := by
        by_cases hh : n + 1 = a
        · have := h3 hh
          simp [this]
        · simp [hh]
      show (!(0 + n == a) && (!(0 + n == a + 1) && !((0 + n + 1 == a) && ((tv B b w).category == 2)))) = true
      rw [e1, e2, e3]
      rfl
theorem asL_none (f : VV → Value) : ∀ (k i : Nat), asL f i (List.replicate k none) = []
  | 0, _ => rfl
  | k + 1, i => by rw [List.replicate_succ]; exact asL_none f k (i + 1)
theorem aL_args {B b : Nat} : ∀ (as : List VV) (k i : Nat), asL (tv B b) i (aL as ++ List.replicate k none) = lv_args i (as.map (tv B b))
  | [], k, i => asL_none _ k i
  | v :: r, k, i => by
    have ih := aL_args (B := B) (b := b) r k
    show _ = (i, tv B b v) :: lv_args (if (tv B b v).category = 2 then i + 2 else i + 1) (r.map (tv B b))
    rw [tv_cat]
    unfold aL
    by_cases hc : c2 v = 2
    · have hb : Nat.beq (c2 v) 2 = true := by rw [hc]; rfl
      rw [hb, if_pos hc, ← ih]
      rfl
    · have hb : Nat.beq (c2 v) 2 = false := by
        cases hq : Nat.beq (c2 v) 2 with
        | true => exact absurd (Nat.eq_of_beq_eq_true hq) hc
        | false => rfl
      rw [hb, if_neg hc, ← ih]
      rfl
theorem aL_len {B b : Nat} : ∀ (as : List VV), (lg_sl (as.map (tv B b))).length = (aL as).length
  | [] => rfl
  | v :: r => by
    have ih := aL_len (B := B) (b := b) r
    unfold lg_sl at ih ⊢
    rw [List.map_cons, List.flatMap_cons, List.length_append, ih, tv_cat]
    rw [show aL (v :: r) = cond (Nat.beq (c2 v) 2) (some v :: none :: aL r) (some v :: aL r) from rfl]
    by_cases hc : c2 v = 2
    · have hb : Nat.beq (c2 v) 2 = true := by rw [hc]; rfl
      rw [hb, if_pos hc]
      simp
      omega
    · have hb : Nat.beq (c2 v) 2 = false := by
        cases hq : Nat.beq (c2 v) 2 with
        | true => exact absurd (Nat.eq_of_beq_eq_true hq) hc
        | false => rfl
      rw [hb, if_neg hc]
      simp
      omega
