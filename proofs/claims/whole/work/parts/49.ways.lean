/-! ===== ways as numbers: points, squares, sides ===== -/
abbrev WY : Type := Nat × (Nat → Int) × (Nat → Int)
def wn (a : WY) : Nat := a.1
def wx (a : WY) (i : Nat) : Int := a.2.1 i
def wy (a : WY) (i : Nat) : Int := a.2.2 i
def gW (a : WY) : Prop := 2 ≤ wn a ∧ wn a ≤ 8 ∧ (∀ i, i < wn a → 0 ≤ wx a i ∧ wx a i ≤ 18 ∧ 0 ≤ wy a i ∧ wy a i ≤ 18) ∧ ∀ i, i + 1 < wn a → ¬ (wx a i = wx a (i + 1) ∧ wy a i = wy a (i + 1))
def qd (a : WY) (i : Nat) (b : WY) (j : Nat) : Int := (wx a i - wx b j) * (wx a i - wx b j) + (wy a i - wy b j) * (wy a i - wy b j)
def eL (a : WY) (e : Nat) : Int := qd a (e + 1) a e
def eF (a : WY) (e : Nat) (b : WY) (p : Nat) : Int := (wx a (e + 1) - wx a e) * (wx b p - wx a e) + (wy a (e + 1) - wy a e) * (wy b p - wy a e)
def eC (a : WY) (e : Nat) (b : WY) (p : Nat) : Int := (wx a (e + 1) - wx a e) * (wy b p - wy a e) - (wy a (e + 1) - wy a e) * (wx b p - wx a e)
def eS (a : WY) (e : Nat) (b : WY) (p : Nat) : Int := qd b p a e
theorem mul_b {x y B C : Int} (h1 : -B ≤ x) (h2 : x ≤ B) (h3 : -C ≤ y) (h4 : y ≤ C) : -(B * C) ≤ x * y ∧ x * y ≤ B * C := by
  have a1 := mul_p (show 0 ≤ B - x by omega) (show 0 ≤ C + y by omega)
  have a2 := mul_p (show 0 ≤ B + x by omega) (show 0 ≤ C - y by omega)
  have a3 := mul_p (show 0 ≤ B - x by omega) (show 0 ≤ C - y by omega)
  have a4 := mul_p (show 0 ≤ B + x by omega) (show 0 ≤ C + y by omega)
  have e1 : (B - x) * (C + y) + (B + x) * (C - y) = 2 * (B * C) - 2 * (x * y) := by grind
  have e2 : (B - x) * (C - y) + (B + x) * (C + y) = 2 * (B * C) + 2 * (x * y) := by grind
  omega
theorem qd_sym (a : WY) (i : Nat) (b : WY) (j : Nat) : qd a i b j = qd b j a i := by unfold qd; grind
theorem eE (a : WY) (e : Nat) (b : WY) (p : Nat) : eS a e b p - 2 * eF a e b p + eL a e = qd b p a (e + 1) := by unfold eS eF eL qd; grind
theorem eCC (a : WY) (e : Nat) (b : WY) (p : Nat) : eC a e b p * eC a e b p = eL a e * eS a e b p - eF a e b p * eF a e b p := by unfold eS eF eL eC qd; grind
theorem qd_b {a b : WY} (ha : gW a) (hb : gW b) {i j : Nat} (hi : i < wn a) (hj : j < wn b) : 0 ≤ qd a i b j ∧ qd a i b j ≤ 648 := by
  have p := ha.2.2.1 i hi
  have q := hb.2.2.1 j hj
  have m1 := mul_b (x := wx a i - wx b j) (y := wx a i - wx b j) (B := 18) (C := 18) (by omega) (by omega) (by omega) (by omega)
  have m2 := mul_b (x := wy a i - wy b j) (y := wy a i - wy b j) (B := 18) (C := 18) (by omega) (by omega) (by omega) (by omega)
  have s1 := sqr_p (wx a i - wx b j)
  have s2 := sqr_p (wy a i - wy b j)
  unfold qd
  omega
theorem eL_b {a : WY} (ha : gW a) {e : Nat} (he : e + 1 < wn a) : 0 < eL a e ∧ eL a e ≤ 648 := by
  refine ⟨?_, (qd_b ha ha he (by omega)).2⟩
  have h := ha.2.2.2 e he
  unfold eL qd
  have s1 := sqr_p (wx a (e + 1) - wx a e)
  have s2 := sqr_p (wy a (e + 1) - wy a e)
  by_cases q : wx a (e + 1) - wx a e = 0
  · have q2 : wy a (e + 1) - wy a e ≠ 0 := fun z => h ⟨by omega, by omega⟩
    have := sqr_pp q2
    omega
  · have := sqr_pp q
    omega
theorem eF_b {a b : WY} (ha : gW a) (hb : gW b) {e p : Nat} (he : e + 1 < wn a) (hp : p < wn b) : -648 ≤ eF a e b p ∧ eF a e b p ≤ 648 := by
  have p0 := ha.2.2.1 e (by omega)
  have p1 := ha.2.2.1 (e + 1) he
  have q := hb.2.2.1 p hp
  have m1 := mul_b (x := wx a (e + 1) - wx a e) (y := wx b p - wx a e) (B := 18) (C := 18) (by omega) (by omega) (by omega) (by omega)
  have m2 := mul_b (x := wy a (e + 1) - wy a e) (y := wy b p - wy a e) (B := 18) (C := 18) (by omega) (by omega) (by omega) (by omega)
  unfold eF
  omega
theorem eC_b {a b : WY} (ha : gW a) (hb : gW b) {e p : Nat} (he : e + 1 < wn a) (hp : p < wn b) : -648 ≤ eC a e b p ∧ eC a e b p ≤ 648 := by
  have p0 := ha.2.2.1 e (by omega)
  have p1 := ha.2.2.1 (e + 1) he
  have q := hb.2.2.1 p hp
  have m1 := mul_b (x := wx a (e + 1) - wx a e) (y := wy b p - wy a e) (B := 18) (C := 18) (by omega) (by omega) (by omega) (by omega)
  have m2 := mul_b (x := wy a (e + 1) - wy a e) (y := wx b p - wx a e) (B := 18) (C := 18) (by omega) (by omega) (by omega) (by omega)
  unfold eC
  omega
def geo (a b : WY) (n d : Int) : GG :=
  (fun i j => decide (qd a i b j * d ≤ n),
   fun l i j => if l = true then frB (eL b j) n d (eF b j a i) (eS b j a i) else frB (eL a i) n d (eF a i b j) (eS a i b j),
   fun l e p t => if l = true then k1B (eL b e) n d (eF b e a p) (eS b e a p) (eF b e a t) (eS b e a t) else k1B (eL a e) n d (eF a e b p) (eS a e b p) (eF a e b t) (eS a e b t),
   fun l e p t => if l = true then k2B (eL b e) n d (eF b e a p) (eS b e a p) (eF b e a t) (eS b e a t) else k2B (eL a e) n d (eF a e b p) (eS a e b p) (eF a e b t) (eS a e b t))
def geF (a b : WY) (n d : Int) : Bool → Nat → Nat → Nat → Prop := fun l e p t => if l = true then rF (eL b e) n d (eF b e a p) (eS b e a p) (eF b e a t) (eS b e a t) else rF (eL a e) n d (eF a e b p) (eS a e b p) (eF a e b t) (eS a e b t)
def geA (a b : WY) (n d : Int) : Bool → Nat → Nat → Nat → Prop := fun l e p t => if l = true then rA (eL b e) n d (eF b e a p) (eS b e a p) (eF b e a t) (eS b e a t) else rA (eL a e) n d (eF a e b p) (eS a e b p) (eF a e b t) (eS a e b t)
theorem edge_ok {L n d : Int} (hL : 0 < L) (hd : 0 < d) (f s : Nat → Int) (N : Nat) : okC N (fun i => frB L n d (f i) (s i)) (fun p t => k1B L n d (f p) (s p) (f t) (s t)) (fun p t => k2B L n d (f p) (s p) (f t) (s t)) (fun p t => rF L n d (f p) (s p) (f t) (s t)) (fun p t => rA L n d (f p) (s p) (f t) (s t)) := by
  refine ⟨fun l k _ _ hl hk h => k1_t hL hd hl hk h, fun l k _ _ hl hk h => k1_f hL hd hl hk h, fun l k _ _ hl hk => k2_i hL hd hl hk, ?_, ?_, fun m u v _ _ _ h => h, fun m _ h => rF_r hL hd h⟩
  · rintro m l k _ _ _ _ _ _ hA ⟨u, v, hv, r1, r2, h1, h2⟩
    exact ⟨u, v, hv, r1, r2, h1, fun q => h2 (hA u v hv r1 r2 q)⟩
  · intro m l k _ _ _ _ _ _ h1 h2 u v hv r1 r2 q
    exact h2 u v hv r1 r2 (h1 u v hv r1 r2 q)
theorem geo_ok {a b : WY} {n d : Int} (ha : gW a) (hb : gW b) (hd : 0 < d) : okG (wn a) (wn b) (geo a b n d) (geF a b n d) (geA a b n d) := by
  refine ⟨fun j hj => edge_ok (eL_b hb hj).1 hd (fun i => eF b j a i) (fun i => eS b j a i) (wn a), fun i hi => edge_ok (eL_b ha hi).1 hd (fun j => eF a i b j) (fun j => eS a i b j) (wn b), ?_, ?_, ?_, ?_⟩
  · intro i j hi hj h
    have hL := (eL_b hb hj).1
    have q : fsB n d (eS b j a i) = true := h
    exact ⟨fr_i.mpr (Or.inl (of_decide_eq_true q)), fun k _ hk => rF_fs hL hd hk q⟩
  · intro i j hi hj h
    have hL := (eL_b ha hi).1
    have q : fsB n d (eS a i b j) = true := by
      show decide (qd b j a i * d ≤ n) = true
      rw [← qd_sym]; exact h
    exact ⟨fr_i.mpr (Or.inl (of_decide_eq_true q)), fun k _ hk => rF_fs hL hd hk q⟩
  · intro i j hi hj h
    have hL := (eL_b hb hj).1
    have q : teB (eL b j) n d (eF b j a i) (eS b j a i) = true := by
      show decide ((eS b j a i - 2 * eF b j a i + eL b j) * d ≤ n) = true
      rw [eE]; exact h
    exact ⟨fr_i.mpr (Or.inr (Or.inl (of_decide_eq_true q))), fun k _ hk => rF_te hL hd hk q⟩
  · intro i j hi hj h
    have hL := (eL_b ha hi).1
    have q : teB (eL a i) n d (eF a i b j) (eS a i b j) = true := by
      show decide ((eS a i b j - 2 * eF a i b j + eL a i) * d ≤ n) = true
      rw [eE, ← qd_sym]; exact h
    exact ⟨fr_i.mpr (Or.inr (Or.inl (of_decide_eq_true q))), fun k _ hk => rF_te hL hd hk q⟩
theorem geo_T (a b : WY) (n d : Int) : gT (geo a b n d) = geo b a n d := by
  unfold gT geo gN gF g1 g2
  refine Prod.ext ?_ (Prod.ext ?_ (Prod.ext ?_ ?_))
  · funext i j
    show decide (qd a j b i * d ≤ n) = decide (qd b i a j * d ≤ n)
    rw [qd_sym]
  · funext l i j
    cases l <;> rfl
  · funext l e p t
    cases l <;> rfl
  · funext l e p t
    cases l <;> rfl
/-- ENOUGH does not ask which way is the first -/
theorem srv_T {a b : WY} {n d : Int} (ha : gW a) (hb : gW b) : srv (wn b) (wn a) (geo b a n d) = srv (wn a) (wn b) (geo a b n d) := by
  rw [← geo_T]
  unfold srv
  have r := rp_T (geo a b n d) (wn b - 2 + (wn a - 2)) (wn b - 2) (wn a - 2) (Nat.le_refl _)
  rw [r.1, r.2]
  show (gN (geo a b n d) 0 0 && gN (geo a b n d) (wn a - 1) (wn b - 1) && _) = _
  rw [Bool.or_comm]
theorem geo_mono {a b : WY} {n d n' d' : Int} (ha : gW a) (hb : gW b) (hd : 0 < d) (hd' : 0 < d') (h : n * d' ≤ n' * d) : goesOn (wn a) (wn b) (geo a b n d) (geo a b n' d') (geF a b n d) (geF a b n' d') := by
  refine ⟨fun i j _ hj q => ?_, fun i j hi _ q => ?_, fun j m k hj _ _ _ _ q => ?_, fun i m k hi _ _ _ _ q => ?_⟩
  · exact fr_mono (eL_b hb hj).1 hd hd' h q
  · exact fr_mono (eL_b ha hi).1 hd hd' h q
  · exact rF_mono (eL_b hb hj).1 hd hd' h q
  · exact rF_mono (eL_b ha hi).1 hd hd' h q
theorem near_mono {x n d n' d' : Int} (hd : 0 < d) (hd' : 0 < d') (h : n * d' ≤ n' * d) (q : x * d ≤ n) : x * d' ≤ n' := by
  have := nd_mono (N := x) (K := 1) (n := n) (n' := n') (by omega) hd hd' h (by omega)
  omega
theorem enough_mono {a b : WY} {n d n' d' : Int} (ha : gW a) (hb : gW b) (hd : 0 < d) (hd' : 0 < d') (h : n * d' ≤ n' * d) (q : srv (wn a) (wn b) (geo a b n d) = true) : srv (wn a) (wn b) (geo a b n' d') = true :=
  srv_mono ha.1 hb.1 (geo_ok ha hb hd) (geo_ok ha hb hd') (geo_mono ha hb hd hd' h) (fun i j _ _ z => decide_eq_true (near_mono hd hd' h (of_decide_eq_true z))) q
