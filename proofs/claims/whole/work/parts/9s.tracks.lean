/-! ===== ways made of ways in the class; the first of the shortest ===== -/
def sTk (t : Nat) : Nat → Nat → Bool := sB t 0 1 (t + 1) (t + 2)
theorem w29_s {M : MM} {t c : Nat} {f g : Nat → Int} {P : MM → Prop} (hL : Lay M) (ht : isT t = true) (h : TrC M t (c, f, g)) (c8 : c < 8) (hX : ∀ M', Fr (sTk t) M M' → TrC M' t (c + 1, f, g) → mL M' t 0 = mL M t 0 → P M') : w29 t (jI (f c)) (jI (g c)) M P := by
  have h1 : mI M t 1 = jI (c : Int) := h.1
  have ec : (jI (c : Int)).toNatClampNeg = c := jI_cn (by omega)
  unfold w29
  rw [h1, ec]
  refine ⟨kd_T hL ht, br_f (by rw [show (8 : Int32) = jI 8 from rfl, jI_le (by omega) (by omega) (by omega) (by omega)]; omega) ⟨kd_T hL ht, kd_T hL ht, t + 1, rfx_T hL ht, inxj hL ht c8, kd_T hL ht, kd_T hL ht, t + 2, rfy_T (lay_sI hL) ht, ?_⟩⟩
  rw [gI_n (by omega), h1, ec]
  refine ⟨inyj hL ht c8, kd_T hL ht, kd_T hL ht, ?_⟩
  rw [gI_n (by omega), gI_n (by omega), h1, show (1 : Int32) = jI 1 from rfl, jI_add, c_s1]
  refine hX _ (Fr_sI (Fr_sI (Fr_sI Fr_r (sB_t2 (by omega))) (sB_t2 (by omega))) (sB_t1 (by omega))) ⟨gI_y ⟨rfl, rfl⟩, fun i hi => ?_⟩ rfl
  have hi' : i < c + 1 := hi
  show mI _ (t + 1) i = jI (f i) ∧ mI _ (t + 2) i = jI (g i)
  by_cases e : i = c
  · subst e
    refine ⟨?_, ?_⟩
    · rw [gI_n (by omega), gI_n (by omega), gI_y ⟨rfl, rfl⟩]
    · rw [gI_n (by omega), gI_y ⟨rfl, rfl⟩]
  · have q := h.2 i (show i < c by omega)
    refine ⟨?_, ?_⟩
    · rw [gI_n (by omega), gI_n (by omega), gI_n (by omega)]; exact q.1
    · rw [gI_n (by omega), gI_n (by omega), gI_n (by omega)]; exact q.2
theorem w25_s {M : MM} {t : Nat} {v : Int64} {f g : Nat → Int} {P : MM → Prop} (hL : Lay M) (ht : isT t = true) (hX : ∀ M', Fr (sTk t) M M' → TrC M' t (0, f, g) → mL M' t 0 = v → P M') : w25 t v M P := by
  refine ⟨kd_T hL ht, kd_T hL ht, hX _ (Fr_sI (Fr_sL Fr_r (sB_t1 (by omega))) (sB_t1 (by omega))) ⟨gI_y ⟨rfl, rfl⟩, fun i hi => absurd (show i < 0 from hi) (by omega)⟩ (by rw [gL_sI, gL_y ⟨rfl, rfl⟩])⟩
/-- two tracks that lie apart -/
def aprt (t u : Nat) : Prop := t + 2 < u ∨ u + 2 < t
theorem TrC_k {M M' : MM} {t u : Nat} {a : WY} (h : Fr (sTk u) M M') (ha : aprt t u) (hA : TrC M t a) : TrC M' t a := by
  unfold aprt at ha
  exact TrC_fr2 h (fun x k h1 h2 => sB_f (by omega) (by omega)) hA
theorem w32_s {M : MM} {t u i k : Nat} {b : WY} {P : MM → Prop} (hL : Lay M) (ht : isT t = true) (hu : isT u = true) (ha : aprt t u) (hB : TrC M t b) (b8 : wn b ≤ 8) (ik : i ≤ k) (hk : k < wn b) (hX : ∀ M', Fr (sTk u) M M' → TrC M' u (pc b i k) → mL M' u 0 = mL M t 0 → P M') : w32 u (some t) (jI (i : Int)) (jI (k : Int)) M P := by
  refine ⟨t, rfl, kd_T hL ht, kd_T hL hu, w25_s (f := fun x => wx b (i + x)) (g := fun x => wy b (i + x)) hL hu (fun M1 h1 t1 n1 => ?_)⟩
  refine w33_s (y := 0) (by omega) (by omega) (by omega) (by omega) ⟨k + 1 - i + 1, ?_⟩
  rw [show max (i : Int) 0 = (i : Int) by omega]
  have lp : ∀ (q x : Nat) (M' : MM), x + q = k + 1 - i → Fr (sTk u) M M' → TrC M' u (x, (fun x => wx b (i + x)), (fun x => wy b (i + x))) → mL M' u 0 = mL M t 0 → w32_15 (q + 1) u (some t) (jI (k : Int)) (jI ((i + x : Nat) : Int)) M' P := by
    intro q
    induction q with
    | zero =>
      intro x M' hx hF hT hn
      refine br_t (by rw [jI_lt (by omega) (by omega) (by omega) (by omega)]; omega) (hX M' hF ?_ hn)
      rw [show x = k + 1 - i by omega] at hT
      exact hT
    | succ q ih =>
      intro x M' hx hF hT hn
      have hL' := hF.1 hL
      have hB' := TrC_k hF ha hB
      have e1 : jI ((i + x : Nat) : Int) + 1 = jI ((i + (x + 1) : Nat) : Int) := by rw [show (1 : Int32) = jI 1 from rfl, jI_add]; congr 1
      unfold w32_15
      rw [e1]
      refine br_f (by rw [jI_lt (by omega) (by omega) (by omega) (by omega)]; omega) ⟨t, rfl, kd_T hL' ht, br_f (by rw [hB'.1, jI_le (by omega) (by omega) (by omega) (by omega)]; omega) ⟨kd_T hL' ht, t + 1, rfx_T hL' ht, inxj hL' ht (by omega), kd_T hL' ht, t + 2, rfy_T hL' ht, inyj hL' ht (by omega), kd_T hL' hu, ?_⟩⟩
      have qb := hB'.2 (i + x) (by omega)
      rw [jI_cn (by omega), qb.1, qb.2]
      exact w29_s (f := fun x => wx b (i + x)) (g := fun x => wy b (i + x)) hL' hu hT (by omega) (fun M2 h2 t2 n2 => ih (x + 1) M2 (by omega) (Fr_t hF h2) t2 (n2.trans hn))
  exact lp (k + 1 - i) 0 M1 (by omega) h1 t1 n1
theorem pc_g {b : WY} {i k : Nat} (h : gW b) (ik : i < k) (hk : k < wn b) : gW (pc b i k) := by
  have b2 := h.2.1
  refine ⟨?_, ?_, fun x hx => ?_, fun x hx => ?_⟩
  · show 2 ≤ k + 1 - i; omega
  · show k + 1 - i ≤ 8; omega
  · exact h.2.2.1 (i + x) (by have : x < k + 1 - i := hx; omega)
  · exact h.2.2.2 (i + x) (by have : x + 1 < k + 1 - i := hx; omega)
theorem TrC_c {M : MM} {t : Nat} {a b : WY} (h : TrC M t a) (e : sameW a b) : TrC M t b := ⟨by rw [← e.1]; exact h.1, fun i hi => by
  have hi' : i < wn a := by rw [e.1]; exact hi
  rw [← (e.2 i hi').1, ← (e.2 i hi').2]; exact h.2 i hi'⟩
/-- a shortest leash, chosen once -/
noncomputable def shF (kind : Int32) (a b : WY) : Int × Int := by
  classical
  exact if h : ∃ p : Int × Int, isSh kind a b p.1 p.2 then Classical.choose h else (0, 1)
theorem shF_s {kind : Int32} {a b : WY} {n d : Int} (h : isSh kind a b n d) : isSh kind a b (shF kind a b).1 (shF kind a b).2 := by
  have e : ∃ p : Int × Int, isSh kind a b p.1 p.2 := ⟨(n, d), h⟩
  unfold shF
  rw [dif_pos e]
  exact Classical.choose_spec e
theorem shF_x {kind : Int32} {a b : WY} {n d : Int} (h : isSh kind a b n d) : n * (shF kind a b).2 = (shF kind a b).1 * d := isSh_u h (shF_s h)
/-- the first of the least among those that count -/
def agv (v : Nat → Bool) (c : Nat → Nat → Bool) : Nat → Option Nat
  | 0 => none
  | e + 1 => if v e = true then (match agv v c e with
    | none => some e
    | some m => if c e m = true then some e else some m) else agv v c e
theorem agv_n {v : Nat → Bool} {c : Nat → Nat → Bool} {e : Nat} (h : v e = false) : agv v c (e + 1) = agv v c e := by
  show (if v e = true then _ else agv v c e) = _
  rw [if_neg (by rw [h]; decide)]
theorem agv_0 {v : Nat → Bool} {c : Nat → Nat → Bool} {e : Nat} (h : v e = true) (q : agv v c e = none) : agv v c (e + 1) = some e := by
  show (if v e = true then (match agv v c e with
    | none => some e
    | some m => if c e m = true then some e else some m) else agv v c e) = _
  rw [if_pos h, q]
theorem agv_1 {v : Nat → Bool} {c : Nat → Nat → Bool} {e m : Nat} (h : v e = true) (q : agv v c e = some m) : agv v c (e + 1) = if c e m = true then some e else some m := by
  show (if v e = true then (match agv v c e with
    | none => some e
    | some m => if c e m = true then some e else some m) else agv v c e) = _
  rw [if_pos h, q]
theorem agv_l {v : Nat → Bool} {c : Nat → Nat → Bool} : ∀ {e m : Nat}, agv v c e = some m → m < e ∧ v m = true
  | 0, m, h => by cases h
  | e + 1, m, h => by
    by_cases q : v e = true
    · cases z : agv v c e with
      | none => rw [agv_0 q z] at h; cases h; exact ⟨by omega, q⟩
      | some k =>
        rw [agv_1 q z] at h
        have ih := agv_l z
        by_cases w : c e k = true
        · rw [if_pos w] at h; cases h; exact ⟨by omega, q⟩
        · rw [if_neg w] at h; cases h; exact ⟨by omega, ih.2⟩
    · rw [agv_n (by simpa using q)] at h
      have ih := agv_l h
      exact ⟨by omega, ih.2⟩
theorem agv_k {v : Nat → Bool} {c : Nat → Nat → Bool} {x y : Nat} (h : x ≤ y) (q : ∀ e, x ≤ e → e < y → v e = false) : agv v c y = agv v c x := by
  obtain ⟨k, rfl⟩ : ∃ k, y = x + k := ⟨y - x, by omega⟩
  clear h
  induction k with
  | zero => rfl
  | succ k ih =>
    rw [show x + (k + 1) = x + k + 1 from rfl, agv_n (q (x + k) (by omega) (by omega))]
    exact ih (fun e h1 h2 => q e h1 (by omega))
theorem agv_so {v : Nat → Bool} {c : Nat → Nat → Bool} {e x : Nat} (h : x < e) (q : v x = true) : ∃ m, agv v c e = some m := by
  have h1 : ∃ m, agv v c (x + 1) = some m := by
    cases z : agv v c x with
    | none => exact ⟨x, agv_0 q z⟩
    | some k =>
      rw [agv_1 q z]
      by_cases w : c x k = true
      · exact ⟨x, if_pos w⟩
      · exact ⟨k, if_neg w⟩
  obtain ⟨k, rfl⟩ : ∃ k, e = x + 1 + k := ⟨e - (x + 1), by omega⟩
  clear h
  induction k with
  | zero => exact h1
  | succ k ih =>
    obtain ⟨m, hm⟩ := ih
    rw [show x + 1 + (k + 1) = x + 1 + k + 1 from rfl]
    by_cases w : v (x + 1 + k) = true
    · rw [agv_1 w hm]
      by_cases y : c (x + 1 + k) m = true
      · exact ⟨_, if_pos y⟩
      · exact ⟨_, if_neg y⟩
    · rw [agv_n (by simpa using w)]; exact ⟨m, hm⟩
