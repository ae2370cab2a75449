/-! ===== sums: rows of hops counted from before and from behind ===== -/
def pN (q : Int → Int → Int) : Nat → Int → Int → Int → Int → Int → Nat
  | 0, _, _, _, _, _ => 0
  | k + 1, i, j, m, n, w => (if i = m ∧ j = n ∧ w = q i j then 1 else 0) + (pN q k (i + 1) (j + 1) m n (w - q i j) + (pN q k (i + 1) j m n (w - q i j) + pN q k i (j + 1) m n (w - q i j)))
theorem pN_s (q : Int → Int → Int) (k : Nat) (i j m n w : Int) : pN q (k + 1) i j m n w = (if i = m ∧ j = n ∧ w = q i j then 1 else 0) + (pN q k (i + 1) (j + 1) m n (w - q i j) + (pN q k (i + 1) j m n (w - q i j) + pN q k i (j + 1) m n (w - q i j))) := rfl
theorem pN_d (q : Int → Int → Int) {i j m n w di dj : Int} : (if i + di = m ∧ j + dj = n ∧ w - q i j = q (i + di) (j + dj) then 1 else 0) = (if i = m - di ∧ j = n - dj ∧ w - q m n = q i j then (1 : Nat) else 0) := by
  by_cases c : i + di = m ∧ j + dj = n ∧ w - q i j = q (i + di) (j + dj)
  · obtain ⟨rfl, rfl, c3⟩ := c
    rw [if_pos ⟨rfl, rfl, c3⟩, if_pos ⟨by omega, by omega, by omega⟩]
  · rw [if_neg c, if_neg]
    rintro ⟨c1, c2, c3⟩
    have e1 : m = i + di := by omega
    have e2 : n = j + dj := by omega
    subst e1 e2
    exact c ⟨rfl, rfl, by omega⟩
theorem pN_t (q : Int → Int → Int) : ∀ (k : Nat) (i j m n w : Int), pN q (k + 1) i j m n w = (if i = m ∧ j = n ∧ w = q i j then 1 else 0) + (pN q k i j (m - 1) (n - 1) (w - q m n) + (pN q k i j (m - 1) n (w - q m n) + pN q k i j m (n - 1) (w - q m n)))
  | 0, i, j, m, n, w => rfl
  | k + 1, i, j, m, n, w => by
    rw [pN_s q (k + 1) i j m n w, pN_t q k (i + 1) (j + 1), pN_t q k (i + 1) j, pN_t q k i (j + 1), pN_s q k i j (m - 1) (n - 1), pN_s q k i j (m - 1) n, pN_s q k i j m (n - 1)]
    have d1 := pN_d q (i := i) (j := j) (m := m) (n := n) (w := w) (di := 1) (dj := 1)
    have d2 := pN_d q (i := i) (j := j) (m := m) (n := n) (w := w) (di := 1) (dj := 0)
    have d3 := pN_d q (i := i) (j := j) (m := m) (n := n) (w := w) (di := 0) (dj := 1)
    rw [Int.add_zero, Int.sub_zero] at d2 d3
    rw [d1, d2, d3, show w - q m n - q i j = w - q i j - q m n by omega]
    omega
theorem pN_o (q : Int → Int → Int) : ∀ (k : Nat) (i j m n w : Int), (m < i ∨ n < j) → pN q k i j m n w = 0
  | 0, _, _, _, _, _, _ => rfl
  | k + 1, i, j, m, n, w, h => by
    rw [pN_s, pN_o q k (i + 1) (j + 1) m n _ (by omega), pN_o q k (i + 1) j m n _ (by omega), pN_o q k i (j + 1) m n _ (by omega), if_neg (by omega)]
/-! the least of the next -/
theorem nxa {an bn i j : Nat} {h : Nat → Nat → Int} (c1 : i + 1 < an) (c2 : j + 1 < bn) : nxM an bn h i j ≤ h (i + 1) (j + 1) := by unfold nxM; rw [if_pos c1, if_pos c2]; omega
theorem nxb {an bn i j : Nat} {h : Nat → Nat → Int} (c1 : i + 1 < an) : nxM an bn h i j ≤ h (i + 1) j := by unfold nxM; rw [if_pos c1]; split <;> omega
theorem nxc {an bn i j : Nat} {h : Nat → Nat → Int} (c2 : j + 1 < bn) : nxM an bn h i j ≤ h i (j + 1) := by
  unfold nxM
  by_cases c1 : i + 1 < an
  · rw [if_pos c1, if_pos c2]; omega
  · rw [if_neg c1, if_pos c2]; omega
theorem nxd {an bn i j : Nat} {h : Nat → Nat → Int} (c : i + 1 < an ∨ j + 1 < bn) : (i + 1 < an ∧ j + 1 < bn ∧ h (i + 1) (j + 1) = nxM an bn h i j) ∨ (i + 1 < an ∧ h (i + 1) j = nxM an bn h i j) ∨ (j + 1 < bn ∧ h i (j + 1) = nxM an bn h i j) := by
  unfold nxM
  by_cases c1 : i + 1 < an
  · by_cases c2 : j + 1 < bn
    · rw [if_pos c1, if_pos c2]; omega
    · rw [if_pos c1, if_neg c2]; omega
  · by_cases c2 : j + 1 < bn
    · rw [if_neg c1, if_pos c2]; omega
    · omega
def sv (Q : Nat → Nat → Int) (an bn i j : Nat) : Int :=
  Q i j + (if i + 1 < an then (if j + 1 < bn then min (min (sv Q an bn (i + 1) (j + 1)) (sv Q an bn (i + 1) j)) (sv Q an bn i (j + 1)) else sv Q an bn (i + 1) j) else (if j + 1 < bn then sv Q an bn i (j + 1) else 0))
termination_by (an - i) + (bn - j)
decreasing_by all_goals omega
theorem sv_e (Q : Nat → Nat → Int) (an bn i j : Nat) : sv Q an bn i j = Q i j + nxM an bn (sv Q an bn) i j := by rw [sv.eq_def]; rfl
def cvv (Q : Nat → Nat → Int) (an bn i j : Nat) : Nat :=
  if i + 1 = an ∧ j + 1 = bn then 1 else
    (if h : i + 1 < an ∧ j + 1 < bn ∧ sv Q an bn (i + 1) (j + 1) = nxM an bn (sv Q an bn) i j then cvv Q an bn (i + 1) (j + 1) else 0) + ((if h : i + 1 < an ∧ j < bn ∧ sv Q an bn (i + 1) j = nxM an bn (sv Q an bn) i j then cvv Q an bn (i + 1) j else 0) + (if h : i < an ∧ j + 1 < bn ∧ sv Q an bn i (j + 1) = nxM an bn (sv Q an bn) i j then cvv Q an bn i (j + 1) else 0))
termination_by (an - i) + (bn - j)
decreasing_by all_goals omega
/-- rows behind a hop that leads to l -/
def tK (an bn : Nat) (h : Nat → Nat → Int) (c : Nat → Nat → Nat) (l : Int) (i j : Nat) : Nat := if i < an ∧ j < bn ∧ h i j = l then c i j else 0
theorem cvv_e (Q : Nat → Nat → Int) (an bn i j : Nat) : cvv Q an bn i j = if i + 1 = an ∧ j + 1 = bn then 1 else tK an bn (sv Q an bn) (cvv Q an bn) (nxM an bn (sv Q an bn) i j) (i + 1) (j + 1) + (tK an bn (sv Q an bn) (cvv Q an bn) (nxM an bn (sv Q an bn) i j) (i + 1) j + tK an bn (sv Q an bn) (cvv Q an bn) (nxM an bn (sv Q an bn) i j) i (j + 1)) := by rw [cvv.eq_def]; rfl
def qI (Q : Nat → Nat → Int) (i j : Int) : Int := Q i.toNat j.toNat
theorem bw (Q : Nat → Nat → Int) (an bn : Nat) : ∀ (s i j K : Nat), (an - i) + (bn - j) ≤ s → i < an → j < bn → (an - 1 - i) + (bn - 1 - j) < K →
    (∀ w, w < sv Q an bn i j → pN (qI Q) K (i : Int) (j : Int) ((an : Int) - 1) ((bn : Int) - 1) w = 0) ∧ pN (qI Q) K (i : Int) (j : Int) ((an : Int) - 1) ((bn : Int) - 1) (sv Q an bn i j) = cvv Q an bn i j ∧ 0 < cvv Q an bn i j := by
  intro s
  induction s with
  | zero => intro i j K h hi; omega
  | succ s ih =>
    intro i j K h hi hj hK
    obtain ⟨K, rfl⟩ : ∃ m, K = m + 1 := ⟨K - 1, by omega⟩
    have eq : qI Q (i : Int) (j : Int) = Q i j := rfl
    have e1 : ((i : Int) + 1) = ((i + 1 : Nat) : Int) := rfl
    have e2 : ((j : Int) + 1) = ((j + 1 : Nat) : Int) := rfl
    -- a next one, taken by itself
    have nxt : ∀ i' j' : Nat, (an - i') + (bn - j') ≤ s → i ≤ i' → j ≤ j' → i + j < i' + j' → (i' < an ∧ j' < bn → nxM an bn (sv Q an bn) i j ≤ sv Q an bn i' j') → (∀ w, w < nxM an bn (sv Q an bn) i j → pN (qI Q) K (i' : Int) (j' : Int) ((an : Int) - 1) ((bn : Int) - 1) w = 0) ∧ pN (qI Q) K (i' : Int) (j' : Int) ((an : Int) - 1) ((bn : Int) - 1) (nxM an bn (sv Q an bn) i j) = tK an bn (sv Q an bn) (cvv Q an bn) (nxM an bn (sv Q an bn) i j) i' j' := by
      intro i' j' h1 h2 h3 h4 h5
      by_cases c : i' < an ∧ j' < bn
      · obtain ⟨a1, a2, a3⟩ := ih i' j' K h1 c.1 c.2 (by omega)
        have l := h5 c
        refine ⟨fun w hw => a1 w (by omega), ?_⟩
        unfold tK
        by_cases e : sv Q an bn i' j' = nxM an bn (sv Q an bn) i j
        · rw [if_pos ⟨c.1, c.2, e⟩, ← e]; exact a2
        · rw [if_neg (fun z => e z.2.2)]; exact a1 _ (by omega)
      · refine ⟨fun w _ => pN_o _ _ _ _ _ _ _ (by omega), ?_⟩
        unfold tK
        rw [if_neg (fun z => c ⟨z.1, z.2.1⟩)]
        exact pN_o _ _ _ _ _ _ _ (by omega)
    by_cases c : i + 1 = an ∧ j + 1 = bn
    · have n0 : nxM an bn (sv Q an bn) i j = 0 := by unfold nxM; rw [if_neg (by omega), if_neg (by omega)]
      rw [sv_e, cvv_e, if_pos c, n0]
      refine ⟨fun w hw => ?_, ?_, by omega⟩
      · rw [pN_s, eq, pN_o _ _ _ _ _ _ _ (by omega), pN_o _ _ _ _ _ _ _ (by omega), pN_o _ _ _ _ _ _ _ (by omega), if_neg (by omega)]
      · rw [pN_s, eq, pN_o _ _ _ _ _ _ _ (by omega), pN_o _ _ _ _ _ _ _ (by omega), pN_o _ _ _ _ _ _ _ (by omega), if_pos ⟨by omega, by omega, by omega⟩]
    · have t1 := nxt (i + 1) (j + 1) (by omega) (by omega) (by omega) (by omega) (fun z => nxa z.1 z.2)
      have t2 := nxt (i + 1) j (by omega) (by omega) (by omega) (by omega) (fun z => nxb z.1)
      have t3 := nxt i (j + 1) (by omega) (by omega) (by omega) (by omega) (fun z => nxc z.2)
      have sE := sv_e Q an bn i j
      have cE := cvv_e Q an bn i j
      rw [if_neg c] at cE
      refine ⟨fun w hw => ?_, ?_, ?_⟩
      · rw [pN_s, eq, e1, e2, t1.1 _ (by omega), t2.1 _ (by omega), t3.1 _ (by omega), if_neg (by omega)]
      · rw [pN_s, eq, e1, e2, show sv Q an bn i j - Q i j = nxM an bn (sv Q an bn) i j by omega, t1.2, t2.2, t3.2, if_neg (by omega), cE, Nat.zero_add]
      · rw [cE]
        unfold tK
        rcases nxd (h := sv Q an bn) (show i + 1 < an ∨ j + 1 < bn by omega) with ⟨c1, c2, c3⟩ | ⟨c1, c3⟩ | ⟨c2, c3⟩
        · rw [if_pos (show i + 1 < an ∧ j + 1 < bn ∧ sv Q an bn (i + 1) (j + 1) = nxM an bn (sv Q an bn) i j from ⟨c1, c2, c3⟩)]
          have := (ih (i + 1) (j + 1) K (by omega) c1 c2 (by omega)).2.2
          omega
        · rw [if_pos (show i + 1 < an ∧ j < bn ∧ sv Q an bn (i + 1) j = nxM an bn (sv Q an bn) i j from ⟨c1, hj, c3⟩)]
          have := (ih (i + 1) j K (by omega) c1 hj (by omega)).2.2
          omega
        · rw [if_pos (show i < an ∧ j + 1 < bn ∧ sv Q an bn i (j + 1) = nxM an bn (sv Q an bn) i j from ⟨hi, c2, c3⟩)]
          have := (ih i (j + 1) K (by omega) hi c2 (by omega)).2.2
          omega
/-! from before -/
def pvM (h : Nat → Nat → Int) (i j : Nat) : Int := if 0 < i then (if 0 < j then min (min (h (i - 1) (j - 1)) (h (i - 1) j)) (h i (j - 1)) else h (i - 1) j) else (if 0 < j then h i (j - 1) else 0)
def fS (Q : Nat → Nat → Int) (i j : Nat) : Int :=
  Q i j + (if 0 < i then (if 0 < j then min (min (fS Q (i - 1) (j - 1)) (fS Q (i - 1) j)) (fS Q i (j - 1)) else fS Q (i - 1) j) else (if 0 < j then fS Q i (j - 1) else 0))
termination_by i + j
decreasing_by all_goals omega
theorem fS_e (Q : Nat → Nat → Int) (i j : Nat) : fS Q i j = Q i j + pvM (fS Q) i j := by rw [fS.eq_def]; rfl
def fN (Q : Nat → Nat → Int) (i j : Nat) : Nat :=
  if i = 0 ∧ j = 0 then 1 else
    (if h : 0 < i ∧ 0 < j ∧ fS Q (i - 1) (j - 1) = pvM (fS Q) i j then fN Q (i - 1) (j - 1) else 0) + ((if h : 0 < i ∧ fS Q (i - 1) j = pvM (fS Q) i j then fN Q (i - 1) j else 0) + (if h : 0 < j ∧ fS Q i (j - 1) = pvM (fS Q) i j then fN Q i (j - 1) else 0))
termination_by i + j
decreasing_by all_goals omega
theorem fN_e (Q : Nat → Nat → Int) (i j : Nat) : fN Q i j = if i = 0 ∧ j = 0 then 1 else (if 0 < i ∧ 0 < j ∧ fS Q (i - 1) (j - 1) = pvM (fS Q) i j then fN Q (i - 1) (j - 1) else 0) + ((if 0 < i ∧ fS Q (i - 1) j = pvM (fS Q) i j then fN Q (i - 1) j else 0) + (if 0 < j ∧ fS Q i (j - 1) = pvM (fS Q) i j then fN Q i (j - 1) else 0)) := by rw [fN.eq_def]; rfl
theorem pv1 {i j : Nat} {h : Nat → Nat → Int} (c1 : 0 < i) (c2 : 0 < j) : pvM h i j ≤ h (i - 1) (j - 1) := by unfold pvM; rw [if_pos c1, if_pos c2]; omega
theorem pv2 {i j : Nat} {h : Nat → Nat → Int} (c1 : 0 < i) : pvM h i j ≤ h (i - 1) j := by unfold pvM; rw [if_pos c1]; split <;> omega
theorem pv3 {i j : Nat} {h : Nat → Nat → Int} (c2 : 0 < j) : pvM h i j ≤ h i (j - 1) := by
  unfold pvM
  by_cases c1 : 0 < i
  · rw [if_pos c1, if_pos c2]; omega
  · rw [if_neg c1, if_pos c2]; omega
theorem pv4 {i j : Nat} {h : Nat → Nat → Int} (c : 0 < i ∨ 0 < j) : (0 < i ∧ 0 < j ∧ h (i - 1) (j - 1) = pvM h i j) ∨ (0 < i ∧ h (i - 1) j = pvM h i j) ∨ (0 < j ∧ h i (j - 1) = pvM h i j) := by
  unfold pvM
  by_cases c1 : 0 < i
  · by_cases c2 : 0 < j
    · rw [if_pos c1, if_pos c2]; omega
    · rw [if_pos c1, if_neg c2]; omega
  · by_cases c2 : 0 < j
    · rw [if_neg c1, if_pos c2]; omega
    · omega
theorem fw (Q : Nat → Nat → Int) : ∀ (s i j K : Nat), i + j ≤ s → i + j < K →
    (∀ w, w < fS Q i j → pN (qI Q) K 0 0 (i : Int) (j : Int) w = 0) ∧ pN (qI Q) K 0 0 (i : Int) (j : Int) (fS Q i j) = fN Q i j ∧ 0 < fN Q i j := by
  intro s
  induction s with
  | zero =>
    intro i j K h hK
    obtain ⟨K, rfl⟩ : ∃ m, K = m + 1 := ⟨K - 1, by omega⟩
    have ei : i = 0 := by omega
    have ej : j = 0 := by omega
    subst ei ej
    have eq : qI Q ((0 : Nat) : Int) ((0 : Nat) : Int) = Q 0 0 := rfl
    have eq0 : qI Q 0 0 = Q 0 0 := rfl
    have n0 : pvM (fS Q) 0 0 = 0 := rfl
    rw [fS_e, fN_e, if_pos ⟨rfl, rfl⟩, n0]
    refine ⟨fun w hw => ?_, ?_, by omega⟩
    · rw [pN_t, eq, eq0, pN_o _ _ _ _ _ _ _ (by omega), pN_o _ _ _ _ _ _ _ (by omega), pN_o _ _ _ _ _ _ _ (by omega), if_neg (by omega)]
    · rw [pN_t, eq, eq0, pN_o _ _ _ _ _ _ _ (by omega), pN_o _ _ _ _ _ _ _ (by omega), pN_o _ _ _ _ _ _ _ (by omega), if_pos ⟨by omega, by omega, by omega⟩]
  | succ s ih =>
    intro i j K h hK
    by_cases c : i = 0 ∧ j = 0
    · exact ih i j K (by omega) hK
    obtain ⟨K, rfl⟩ : ∃ m, K = m + 1 := ⟨K - 1, by omega⟩
    have eq : qI Q (i : Int) (j : Int) = Q i j := rfl
    have e1 : 0 < i → ((i : Int) - 1) = ((i - 1 : Nat) : Int) := fun z => by omega
    have e2 : 0 < j → ((j : Int) - 1) = ((j - 1 : Nat) : Int) := fun z => by omega
    have t1 : (∀ w, w < pvM (fS Q) i j → pN (qI Q) K 0 0 ((i : Int) - 1) ((j : Int) - 1) w = 0) ∧ pN (qI Q) K 0 0 ((i : Int) - 1) ((j : Int) - 1) (pvM (fS Q) i j) = (if 0 < i ∧ 0 < j ∧ fS Q (i - 1) (j - 1) = pvM (fS Q) i j then fN Q (i - 1) (j - 1) else 0) := by
      by_cases z : 0 < i ∧ 0 < j
      · obtain ⟨a1, a2, a3⟩ := ih (i - 1) (j - 1) K (by omega) (by omega)
        have l := pv1 (h := fS Q) z.1 z.2
        rw [e1 z.1, e2 z.2]
        refine ⟨fun w hw => a1 w (by omega), ?_⟩
        by_cases e : fS Q (i - 1) (j - 1) = pvM (fS Q) i j
        · rw [if_pos ⟨z.1, z.2, e⟩, ← e]; exact a2
        · rw [if_neg (fun y => e y.2.2)]; exact a1 _ (by omega)
      · refine ⟨fun w _ => pN_o _ _ _ _ _ _ _ (by omega), ?_⟩
        rw [if_neg (fun y => z ⟨y.1, y.2.1⟩)]; exact pN_o _ _ _ _ _ _ _ (by omega)
    have t2 : (∀ w, w < pvM (fS Q) i j → pN (qI Q) K 0 0 ((i : Int) - 1) (j : Int) w = 0) ∧ pN (qI Q) K 0 0 ((i : Int) - 1) (j : Int) (pvM (fS Q) i j) = (if 0 < i ∧ fS Q (i - 1) j = pvM (fS Q) i j then fN Q (i - 1) j else 0) := by
      by_cases z : 0 < i
      · obtain ⟨a1, a2, a3⟩ := ih (i - 1) j K (by omega) (by omega)
        have l := pv2 (h := fS Q) (j := j) z
        rw [e1 z]
        refine ⟨fun w hw => a1 w (by omega), ?_⟩
        by_cases e : fS Q (i - 1) j = pvM (fS Q) i j
        · rw [if_pos ⟨z, e⟩, ← e]; exact a2
        · rw [if_neg (fun y => e y.2)]; exact a1 _ (by omega)
      · refine ⟨fun w _ => pN_o _ _ _ _ _ _ _ (by omega), ?_⟩
        rw [if_neg (fun y => z y.1)]; exact pN_o _ _ _ _ _ _ _ (by omega)
    have t3 : (∀ w, w < pvM (fS Q) i j → pN (qI Q) K 0 0 (i : Int) ((j : Int) - 1) w = 0) ∧ pN (qI Q) K 0 0 (i : Int) ((j : Int) - 1) (pvM (fS Q) i j) = (if 0 < j ∧ fS Q i (j - 1) = pvM (fS Q) i j then fN Q i (j - 1) else 0) := by
      by_cases z : 0 < j
      · obtain ⟨a1, a2, a3⟩ := ih i (j - 1) K (by omega) (by omega)
        have l := pv3 (h := fS Q) (i := i) z
        rw [e2 z]
        refine ⟨fun w hw => a1 w (by omega), ?_⟩
        by_cases e : fS Q i (j - 1) = pvM (fS Q) i j
        · rw [if_pos ⟨z, e⟩, ← e]; exact a2
        · rw [if_neg (fun y => e y.2)]; exact a1 _ (by omega)
      · refine ⟨fun w _ => pN_o _ _ _ _ _ _ _ (by omega), ?_⟩
        rw [if_neg (fun y => z y.1)]; exact pN_o _ _ _ _ _ _ _ (by omega)
    have sE := fS_e Q i j
    have cE := fN_e Q i j
    rw [if_neg c] at cE
    refine ⟨fun w hw => ?_, ?_, ?_⟩
    · rw [pN_t, eq, t1.1 _ (by omega), t2.1 _ (by omega), t3.1 _ (by omega), if_neg (by omega)]
    · rw [pN_t, eq, show fS Q i j - Q i j = pvM (fS Q) i j by omega, t1.2, t2.2, t3.2, if_neg (by omega), cE, Nat.zero_add]
    · rw [cE]
      rcases pv4 (h := fS Q) (show 0 < i ∨ 0 < j by omega) with c3 | c3 | c3
      · rw [if_pos c3]
        have := (ih (i - 1) (j - 1) K (by omega) (by omega)).2.2
        omega
      · rw [if_pos c3]
        have := (ih (i - 1) j K (by omega) (by omega)).2.2
        omega
      · rw [if_pos c3]
        have := (ih i (j - 1) K (by omega) (by omega)).2.2
        omega
/-- both ways of counting come to the same -/
theorem both (Q : Nat → Nat → Int) {an bn : Nat} (a0 : 0 < an) (b0 : 0 < bn) : fS Q (an - 1) (bn - 1) = sv Q an bn 0 0 ∧ fN Q (an - 1) (bn - 1) = cvv Q an bn 0 0 := by
  obtain ⟨x1, x2, x3⟩ := bw Q an bn _ 0 0 (an + bn + 2) (Nat.le_refl _) a0 b0 (by omega)
  obtain ⟨y1, y2, y3⟩ := fw Q _ (an - 1) (bn - 1) (an + bn + 2) (Nat.le_refl _) (by omega)
  rw [show (((an - 1 : Nat) : Int)) = (an : Int) - 1 by omega, show (((bn - 1 : Nat) : Int)) = (bn : Int) - 1 by omega] at y1 y2
  rw [show ((0 : Nat) : Int) = 0 from rfl] at x1 x2
  have e : fS Q (an - 1) (bn - 1) = sv Q an bn 0 0 := by
    rcases Int.lt_trichotomy (fS Q (an - 1) (bn - 1)) (sv Q an bn 0 0) with z | z | z
    · have := x1 _ z; omega
    · exact z
    · have := y1 _ z; omega
  refine ⟨e, ?_⟩
  rw [← x2, ← y2, e]
/-! how large they are -/
theorem mulB {B x y : Int} (B0 : 0 ≤ B) (h : x + 1 ≤ y) : B * x + B ≤ B * y := by
  have := Int.mul_le_mul_of_nonneg_left h B0
  rw [Int.mul_add, Int.mul_one] at this
  exact this
theorem sv_b (Q : Nat → Nat → Int) {B : Int} (an bn : Nat) (hQ : ∀ i j, i < an → j < bn → 0 ≤ Q i j ∧ Q i j ≤ B) : ∀ (s i j : Nat), (an - i) + (bn - j) ≤ s → i < an → j < bn → 0 ≤ sv Q an bn i j ∧ sv Q an bn i j ≤ B * (((an - i) + (bn - j) : Nat) : Int) := by
  intro s
  induction s with
  | zero => intro i j h hi; omega
  | succ s ih =>
    intro i j h hi hj
    have q := hQ i j hi hj
    have B0 : 0 ≤ B := by omega
    rw [sv_e]
    by_cases c : i + 1 < an ∨ j + 1 < bn
    · rcases nxd (h := sv Q an bn) c with ⟨c1, c2, c3⟩ | ⟨c1, c3⟩ | ⟨c2, c3⟩
      · have t := ih (i + 1) (j + 1) (by omega) c1 c2
        rw [← c3]
        have : B * (((an - (i + 1)) + (bn - (j + 1)) : Nat) : Int) + B ≤ B * (((an - i) + (bn - j) : Nat) : Int) := mulB B0 (by omega)
        omega
      · have t := ih (i + 1) j (by omega) c1 hj
        rw [← c3]
        have : B * (((an - (i + 1)) + (bn - j) : Nat) : Int) + B ≤ B * (((an - i) + (bn - j) : Nat) : Int) := mulB B0 (by omega)
        omega
      · have t := ih i (j + 1) (by omega) hi c2
        rw [← c3]
        have : B * (((an - i) + (bn - (j + 1)) : Nat) : Int) + B ≤ B * (((an - i) + (bn - j) : Nat) : Int) := mulB B0 (by omega)
        omega
    · have n0 : nxM an bn (sv Q an bn) i j = 0 := by unfold nxM; rw [if_neg (by omega), if_neg (by omega)]
      have : B * 1 ≤ B * (((an - i) + (bn - j) : Nat) : Int) := Int.mul_le_mul_of_nonneg_left (by omega) B0
      omega
theorem cv_b (Q : Nat → Nat → Int) (an bn : Nat) : ∀ (s i j : Nat), (an - i) + (bn - j) ≤ s → i < an → j < bn → cvv Q an bn i j ≤ 3 ^ ((an - 1 - i) + (bn - 1 - j)) := by
  intro s
  induction s with
  | zero => intro i j h hi; omega
  | succ s ih =>
    intro i j h hi hj
    rw [cvv_e]
    by_cases c : i + 1 = an ∧ j + 1 = bn
    · rw [if_pos c]; exact Nat.one_le_pow _ _ (by omega)
    · rw [if_neg c]
      obtain ⟨m, hm⟩ : ∃ m, (an - 1 - i) + (bn - 1 - j) = m + 1 := ⟨(an - 1 - i) + (bn - 1 - j) - 1, by omega⟩
      have t : ∀ i' j' : Nat, i ≤ i' → j ≤ j' → i + j < i' + j' → ∀ l, tK an bn (sv Q an bn) (cvv Q an bn) l i' j' ≤ 3 ^ m := by
        intro i' j' h1 h2 h3 l
        unfold tK
        split
        · rename_i z
          exact Nat.le_trans (ih i' j' (by omega) z.1 z.2.1) (Nat.pow_le_pow_right (by omega) (by omega))
        · exact Nat.zero_le _
      have t1 := t (i + 1) (j + 1) (by omega) (by omega) (by omega) (nxM an bn (sv Q an bn) i j)
      have t2 := t (i + 1) j (by omega) (by omega) (by omega) (nxM an bn (sv Q an bn) i j)
      have t3 := t i (j + 1) (by omega) (by omega) (by omega) (nxM an bn (sv Q an bn) i j)
      rw [hm, Nat.pow_succ]
      omega
theorem cv_9 (Q : Nat → Nat → Int) {an bn i j : Nat} (a8 : an ≤ 8) (b8 : bn ≤ 8) (hi : i < an) (hj : j < bn) : cvv Q an bn i j ≤ 4782969 := by
  have h := cv_b Q an bn _ i j (Nat.le_refl _) hi hj
  have : 3 ^ ((an - 1 - i) + (bn - 1 - j)) ≤ 3 ^ 14 := Nat.pow_le_pow_right (by omega) (by omega)
  have e : (3 : Nat) ^ 14 = 4782969 := by decide
  omega
theorem fN_b (Q : Nat → Nat → Int) : ∀ (s i j : Nat), i + j ≤ s → fN Q i j ≤ 3 ^ (i + j) := by
  intro s
  induction s with
  | zero =>
    intro i j h
    rw [fN_e, if_pos (by omega)]; exact Nat.one_le_pow _ _ (by omega)
  | succ s ih =>
    intro i j h
    rw [fN_e]
    by_cases c : i = 0 ∧ j = 0
    · rw [if_pos c]; exact Nat.one_le_pow _ _ (by omega)
    · rw [if_neg c]
      obtain ⟨m, hm⟩ : ∃ m, i + j = m + 1 := ⟨i + j - 1, by omega⟩
      have t1 : (if 0 < i ∧ 0 < j ∧ fS Q (i - 1) (j - 1) = pvM (fS Q) i j then fN Q (i - 1) (j - 1) else 0) ≤ 3 ^ m := by
        split
        · rename_i z
          exact Nat.le_trans (ih (i - 1) (j - 1) (by omega)) (Nat.pow_le_pow_right (by omega) (by omega))
        · exact Nat.zero_le _
      have t2 : (if 0 < i ∧ fS Q (i - 1) j = pvM (fS Q) i j then fN Q (i - 1) j else 0) ≤ 3 ^ m := by
        split
        · rename_i z
          exact Nat.le_trans (ih (i - 1) j (by omega)) (Nat.pow_le_pow_right (by omega) (by omega))
        · exact Nat.zero_le _
      have t3 : (if 0 < j ∧ fS Q i (j - 1) = pvM (fS Q) i j then fN Q i (j - 1) else 0) ≤ 3 ^ m := by
        split
        · rename_i z
          exact Nat.le_trans (ih i (j - 1) (by omega)) (Nat.pow_le_pow_right (by omega) (by omega))
        · exact Nat.zero_le _
      rw [hm, Nat.pow_succ]
      omega
theorem fN_9 (Q : Nat → Nat → Int) {i j : Nat} (hi : i < 8) (hj : j < 8) : fN Q i j ≤ 4782969 := by
  have h := fN_b Q _ i j (Nat.le_refl _)
  have : 3 ^ (i + j) ≤ 3 ^ 14 := Nat.pow_le_pow_right (by omega) (by omega)
  have e : (3 : Nat) ^ 14 = 4782969 := by decide
  omega
theorem fS_b (Q : Nat → Nat → Int) {B : Int} {an bn : Nat} (hQ : ∀ i j, i < an → j < bn → 0 ≤ Q i j ∧ Q i j ≤ B) : ∀ (s i j : Nat), i + j ≤ s → i < an → j < bn → 0 ≤ fS Q i j ∧ fS Q i j ≤ B * ((i + j + 1 : Nat) : Int) := by
  intro s
  induction s with
  | zero =>
    intro i j h hi hj
    have q := hQ i j hi hj
    have ei : i = 0 := by omega
    have ej : j = 0 := by omega
    subst ei ej
    rw [fS_e, show pvM (fS Q) 0 0 = 0 from rfl, show ((0 + 0 + 1 : Nat) : Int) = 1 from rfl]
    omega
  | succ s ih =>
    intro i j h hi hj
    have q := hQ i j hi hj
    have B0 : 0 ≤ B := by omega
    rw [fS_e]
    by_cases c : 0 < i ∨ 0 < j
    · rcases pv4 (h := fS Q) c with ⟨c1, c2, c3⟩ | ⟨c1, c3⟩ | ⟨c2, c3⟩
      · have t := ih (i - 1) (j - 1) (by omega) (by omega) (by omega)
        rw [← c3]
        have : B * ((i - 1 + (j - 1) + 1 : Nat) : Int) + B ≤ B * ((i + j + 1 : Nat) : Int) := mulB B0 (by omega)
        omega
      · have t := ih (i - 1) j (by omega) (by omega) (by omega)
        rw [← c3]
        have : B * ((i - 1 + j + 1 : Nat) : Int) + B ≤ B * ((i + j + 1 : Nat) : Int) := mulB B0 (by omega)
        omega
      · have t := ih i (j - 1) (by omega) (by omega) (by omega)
        rw [← c3]
        have : B * ((i + (j - 1) + 1 : Nat) : Int) + B ≤ B * ((i + j + 1 : Nat) : Int) := mulB B0 (by omega)
        omega
    · have ei : i = 0 := by omega
      have ej : j = 0 := by omega
      subst ei ej
      rw [show pvM (fS Q) 0 0 = 0 from rfl, show ((0 + 0 + 1 : Nat) : Int) = 1 from rfl]
      omega
/-- with no weights every row has the least sum -/
def qz0 (_ _ : Nat) : Int := 0
theorem sv_0 (an bn : Nat) {i j : Nat} (hi : i < an) (hj : j < bn) : sv qz0 an bn i j = 0 := by
  have := sv_b qz0 (B := 0) an bn (fun _ _ _ _ => ⟨Int.le_refl _, Int.le_refl _⟩) _ i j (Nat.le_refl _) hi hj
  omega
theorem fS_0 (i j : Nat) : fS qz0 i j = 0 := by
  have := fS_b qz0 (B := 0) (an := i + 1) (bn := j + 1) (fun _ _ _ _ => ⟨Int.le_refl _, Int.le_refl _⟩) _ i j (Nat.le_refl _) (by omega) (by omega)
  omega
