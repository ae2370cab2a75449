/-! ===== the reference reads a point ===== -/
def sRW : Nat → Nat → Bool := fun x k => sB 203 16 22 205 205 x k || sB 203 6 6 208 208 x k
theorem sRW_f {x k : Nat} (h : ¬ (x = 203 ∧ (k = 6 ∨ (16 ≤ k ∧ k ≤ 22)))) (h1 : x ≠ 205) (h2 : x ≠ 208) : sRW x k = false := by
  unfold sRW
  rw [sB_f (by omega) (by omega), sB_f (by omega) (by omega)]; rfl
theorem sRW_1 {k : Nat} (h : 16 ≤ k ∧ k ≤ 22) : sRW 203 k = true := by unfold sRW; rw [sB_t1 h]; rfl
theorem sRW_5 {k : Nat} : sRW 205 k = true := by unfold sRW; rw [sB_t2 (by omega)]; rfl
theorem sRW_i {x k : Nat} (z : sRW x k = false) : ¬ (x = 203 ∧ (k = 6 ∨ (16 ≤ k ∧ k ≤ 22))) ∧ x ≠ 205 ∧ x ≠ 208 := by
  unfold sRW at z
  have h' := Bool.or_eq_false_iff.mp z
  refine ⟨fun y => ?_, fun y => ?_, fun y => ?_⟩
  · obtain ⟨rfl, c | c⟩ := y
    · exact absurd h'.2 (by rw [sB_t1 (by omega)]; decide)
    · exact absurd h'.1 (by rw [sB_t1 (by omega)]; decide)
  · exact absurd h'.1 (by rw [sB_t2 (by omega)]; decide)
  · exact absurd h'.2 (by rw [sB_t2 (by omega)]; decide)
theorem sRW_g {x k : Nat} (z : sRW x k = false) : sGo x k = false := by have := sRW_i z; exact sGo_f (by omega)
theorem sRW_b {x k : Nat} (z : sRW x k = false) : sBa x k = false := by have := sRW_i z; exact sB_f (by omega) (by omega)
theorem RBy_w {M M' : MM} {n : Nat} {T : Nat → Nat} (hF : Fr sRW M M') (h : RBy M n T) : RBy M' n T := ⟨(Fr_I hF (sRW_f (by omega) (by omega) (by omega))).trans h.1, h.2.1, fun i hi => ⟨(Fr_I hF (sRW_f (by omega) (by omega) (by omega))).trans (h.2.2 i hi).1, (h.2.2 i hi).2⟩⟩
def RPs (M : MM) (s : PS) : Prop := mI M 203 6 = jI ((s.2.1 - (if 2 ≤ s.1 then 1 else 0) : Nat) : Int) ∧ ∀ w, w < s.2.1 → RBk M 205 (17 * w) (s.2.2.2.1 w) ∧ mL M 208 w = jL (nv 32 0 (s.2.2.1 w) : Int)
def RF0 (M : MM) : Prop := mI M 203 20 = jI 0 ∧ mI M 203 21 = jI (-1)
theorem RPs_g {M M' : MM} {s : PS} (hI : PIv s) (hF : Fr sGo M M') (h : RPs M s) : RPs M' s := ⟨(Fr_I hF (sGo_f (by omega))).trans h.1, fun w hw => ⟨RBk_m (h.2 w hw).1 (hI.2.2.2.2.2 w hw).2.1.1 (fun d _ => Fr_I hF (sGo_f (by omega))), (Fr_L hF (sGo_f (by omega))).trans (h.2 w hw).2⟩⟩
theorem RF0_g {M M' : MM} (hF : Fr sGo M M') (h : RF0 M) : RF0 M' := ⟨(Fr_I hF (sGo_f (by omega))).trans h.1, (Fr_I hF (sGo_f (by omega))).trans h.2⟩
theorem tkV_0 {T : Nat → Nat} {n q : Nat} {s : PS} (h : s.1 = 0) : tkV T n q s = if tk T n q = 0 then (1, s) else st0 s (tk T n q) (nl T q (te T n q - q)) (wl T q (te T n q - q)) := by
  unfold tkV stT
  rw [if_pos h]
theorem tkV_1 {T : Nat → Nat} {n q : Nat} {s : PS} (h : s.1 = 1) : tkV T n q s = if tk T n q = 0 then (1, s) else st1 s (tk T n q) (nl T q (te T n q - q)) (wl T q (te T n q - q)) := by
  unfold tkV stT
  rw [if_neg (show ¬ s.1 = 0 by omega), if_pos h]
theorem tkV_2 {T : Nat → Nat} {n q : Nat} {s : PS} (h : s.1 = 2) : tkV T n q s = if tk T n q = 0 then (1, s) else st2 s (tk T n q) (nl T q (te T n q - q)) (wl T q (te T n q - q)) := by
  unfold tkV stT
  rw [if_neg (show ¬ s.1 = 0 by omega), if_neg (show ¬ s.1 = 1 by omega), if_pos h]
theorem tkV_3 {T : Nat → Nat} {n q : Nat} {s : PS} (h : s.1 = 3) : tkV T n q s = if tk T n q = 0 then (1, s) else st3 s (tk T n q) (nl T q (te T n q - q)) (wl T q (te T n q - q)) := by
  unfold tkV stT
  rw [if_neg (show ¬ s.1 = 0 by omega), if_neg (show ¬ s.1 = 1 by omega), if_neg (show ¬ s.1 = 2 by omega)]
theorem PIv_t {T : Nat → Nat} {n q : Nat} {s : PS} (hI : PIv s) : PIv (tkV T n q s).2 := PIv_s hI (fun z => tk_1 z)
/-- a token that is refused -/
theorem bq_d {T : Nat → Nat} {n m q f : Nat} {s s' : PS} (h : ¬ (tk T n q = 4 ∧ s.1 = 0)) (e : tkV T n q s = (f, s')) (f0 : f ≠ 0) : bq T n m s q = (f, q, s') := by
  rw [bq_z h (by rw [e]; exact f0), e]
/-- a token that is taken -/
theorem bq_g {T : Nat → Nat} {n m q : Nat} {s s' : PS} (h : ¬ (tk T n q = 4 ∧ s.1 = 0)) (e : tkV T n q s = (0, s')) (hm : n ≤ q + m) : q < te T n q ∧ te T n q ≤ n ∧ q < n ∧ ∃ m', m = m' + 1 ∧ n ≤ sk T n (te T n q) + m' ∧ q < sk T n (te T n q) ∧ sk T n (te T n q) ≤ n ∧ bq T n m s q = bq T n m' s' (sk T n (te T n q)) := by
  have hf : (tkV T n q s).1 = 0 := by rw [e]
  have nb := bq_n h hf
  have sb := sk_b (T := T) nb.2.1
  obtain ⟨m1, rfl⟩ : ∃ m1, m = m1 + 1 := ⟨m - 1, by omega⟩
  refine ⟨by omega, nb.2.1, nb.2.2, m1, rfl, by omega, by omega, sb.2, ?_⟩
  rw [bq_s h hf, e]
theorem w175_90_s {M : MM} {T : Nat → Nat} {n p v : Nat} {s s2 : PS} {P : Int32 → MM → Prop} (hL : Lay M) (hB : RBy M n T) (h17 : mI M 203 17 = jI (p : Int)) (pn : p ≤ n) (hS : RPs M s) (hI : PIv s) (h3 : s.1 = 3) (h19 : mI M 203 19 = jI (v : Int)) (hZ : RF0 M) (e2 : s2 = (2, s.2.1, s.2.2.1, upW s.2.2.2.1 (s.2.1 - 1) (ptW (s.2.2.2.1 (s.2.1 - 1)) s.2.2.2.2 v), s.2.2.2.2)) (hI2 : PIv s2)
    (hX : ∀ M', Fr sRW M M' → RTk M' T n (sk T n p) → RPs M' s2 → RF0 M' → P 1 M') : w175_90 203 (jI ((17 * (s.2.1 - 1) : Nat) : Int)) (jI (wn (s.2.2.2.1 (s.2.1 - 1)) : Int)) (jI (s.2.2.2.2 : Int)) M P := by
  have k4 := hI.2.1
  have k1 := hI.2.2.1 (by omega)
  have x3 := hI.2.2.2.2.1 h3
  have cur := (hS.2 (s.2.1 - 1) (by omega)).1
  have h6 := hS.1
  rw [if_pos (by omega)] at h6
  have i1 : jI ((17 * (s.2.1 - 1) : Nat) : Int) + 1 + 2 * jI (wn (s.2.2.2.1 (s.2.1 - 1)) : Int) = jI ((17 * (s.2.1 - 1) + 1 + 2 * wn (s.2.2.2.1 (s.2.1 - 1)) : Nat) : Int) := by
    rw [show (1 : Int32) = jI 1 from rfl, show (2 : Int32) = jI 2 from rfl, jI_mul, jI_add, jI_add]
    exact congrArg jI (by omega)
  have i2 : jI ((17 * (s.2.1 - 1) : Nat) : Int) + 2 + 2 * jI (wn (s.2.2.2.1 (s.2.1 - 1)) : Int) = jI ((17 * (s.2.1 - 1) + 2 + 2 * wn (s.2.2.2.1 (s.2.1 - 1)) : Nat) : Int) := by
    rw [show (2 : Int32) = jI 2 from rfl, jI_mul, jI_add, jI_add]
    exact congrArg jI (by omega)
  unfold w175_90
  rw [i1, i2, jI_cn (by omega), jI_cn (by omega)]
  refine ⟨kd_203 hL, 205, rf_203_1 hL, i205 hL (by omega), kd_203 hL, kd_203 hL, 205, rf_203_1 hL, i205 hL (by omega), ?_⟩
  unfold w175_119
  rw [jI_cn (by omega), gI_n (show ¬ (203 = 205 ∧ 19 = 17 * (s.2.1 - 1) + 1 + 2 * wn (s.2.2.2.1 (s.2.1 - 1))) by omega), h19]
  refine ⟨kd_203 hL, 205, rf_203_1 hL, i205 hL (by omega), i205 hL (by omega), kd_203 hL, ?_⟩
  have fr : ∀ a b c : Nat, ∀ x y z, Fr sRW M (sI (sI (sI M 205 a x) 205 b y) 205 c z) := fun a b c x y z => Fr_sI (Fr_sI (Fr_sI Fr_r sRW_5) sRW_5) sRW_5
  refine w168_s (T := T) (n := n) (p := p) hL (RBy_w (fr _ _ _ _ _ _) hB) pn (by rw [gI_n (by omega), gI_n (by omega), gI_n (by omega)]; exact h17) (fun M' f' k' => ?_)
  refine hX M' (Fr_t (fr _ _ _ _ _ _) (Fr_w f' (fun x k => sRW_g))) k' (RPs_g hI2 f' ?_) (RF0_g f' ⟨by rw [gI_n (by omega), gI_n (by omega), gI_n (by omega)]; exact hZ.1, by rw [gI_n (by omega), gI_n (by omega), gI_n (by omega)]; exact hZ.2⟩)
  rw [e2]
  refine ⟨?_, fun w hw => ?_⟩
  · show mI _ 203 6 = jI ((s.2.1 - (if 2 ≤ 2 then 1 else 0) : Nat) : Int)
    rw [gI_n (by omega), gI_n (by omega), gI_n (by omega), if_pos (by omega)]; exact h6
  have hw' : w < s.2.1 := hw
  have qq := hS.2 w hw'
  refine ⟨?_, qq.2⟩
  show RBk _ 205 (17 * w) (upW s.2.2.2.1 (s.2.1 - 1) (ptW (s.2.2.2.1 (s.2.1 - 1)) s.2.2.2.2 v) w)
  unfold upW
  by_cases e : w = s.2.1 - 1
  · rw [if_pos e, e]
    refine ⟨?_, fun i hi => ⟨?_, ?_⟩⟩
    · rw [gI_y ⟨rfl, rfl⟩, gI_n (by omega), gI_n (by omega), cur.1, show (1 : Int32) = jI 1 from rfl, jI_add]; rfl
    · have hi' : i < wn (s.2.2.2.1 (s.2.1 - 1)) + 1 := hi
      show mI _ 205 _ = jI (if i = wn (s.2.2.2.1 (s.2.1 - 1)) then (s.2.2.2.2 : Int) else wx (s.2.2.2.1 (s.2.1 - 1)) i)
      by_cases u : i = wn (s.2.2.2.1 (s.2.1 - 1))
      · rw [if_pos u, gI_n (by omega), gI_n (by omega), gI_y ⟨rfl, by omega⟩]
      · rw [if_neg u, gI_n (by omega), gI_n (by omega), gI_n (by omega)]; exact (cur.2 i (by omega)).1
    · have hi' : i < wn (s.2.2.2.1 (s.2.1 - 1)) + 1 := hi
      show mI _ 205 _ = jI (if i = wn (s.2.2.2.1 (s.2.1 - 1)) then (v : Int) else wy (s.2.2.2.1 (s.2.1 - 1)) i)
      by_cases u : i = wn (s.2.2.2.1 (s.2.1 - 1))
      · rw [if_pos u, gI_n (by omega), gI_y ⟨rfl, by omega⟩]
      · rw [if_neg u, gI_n (by omega), gI_n (by omega), gI_n (by omega)]; exact (cur.2 i (by omega)).2
  · rw [if_neg e]
    exact RBk_m qq.1 (hI.2.2.2.2.2 w hw').2.1.1 (fun d hd => by rw [gI_n (by omega), gI_n (by omega), gI_n (by omega)])
/-- the second number of a point -/
theorem w175_2_s {M : MM} {T : Nat → Nat} {n q m : Nat} {s : PS} {P : Int32 → MM → Prop} (hL : Lay M) (hB : RBy M n T) (hK : RTk M T n q) (qn : q ≤ n) (hS : RPs M s) (hI : PIv s) (h3 : s.1 = 3) (hZ : RF0 M) (hm : n ≤ q + m)
    (hX1 : ∀ M' s' (q' m' : Nat), n ≤ q' + m' → q' ≤ n → q < q' → Fr sRW M M' → bq T n m s q = bq T n m' s' q' → RTk M' T n q' → RPs M' s' → PIv s' → s'.1 = 2 → s'.2.1 = s.2.1 → RF0 M' → P 1 M')
    (hX0 : ∀ M' (f pl : Nat) s', Fr sRW M M' → bq T n m s q = (f, pl, s') → f ≠ 0 → mI M' 203 20 = jI (f : Int) → mI M' 203 21 = jI (pl : Int) → P 0 M') :
    w176 203 M (fun r6 M5 => (r6 ≠ 0 → (((jI (wn (s.2.2.2.1 (s.2.1 - 1)) : Int)) ≤ 0 → (w175_90 203 (jI ((17 * (s.2.1 - 1) : Nat) : Int)) (jI (wn (s.2.2.2.1 (s.2.1 - 1)) : Int)) (jI (s.2.2.2.2 : Int)) M5 P)) ∧ (¬ ((jI (wn (s.2.2.2.1 (s.2.1 - 1)) : Int)) ≤ 0) → (kd M5 203 10 ∧ (∃ a7, mR M5 203 1 = some a7 ∧ (inb M5 a7 11 ((jI ((17 * (s.2.1 - 1) : Nat) : Int) + ((2 : Int32) * jI (wn (s.2.2.2.1 (s.2.1 - 1)) : Int))) - (1 : Int32)) ∧ (((mI M5 a7 ((jI ((17 * (s.2.1 - 1) : Nat) : Int) + ((2 : Int32) * jI (wn (s.2.2.2.1 (s.2.1 - 1)) : Int))) - (1 : Int32)).toNatClampNeg) ≠ jI (s.2.2.2.2 : Int) → (w175_90 203 (jI ((17 * (s.2.1 - 1) : Nat) : Int)) (jI (wn (s.2.2.2.1 (s.2.1 - 1)) : Int)) (jI (s.2.2.2.2 : Int)) M5 P)) ∧ (¬ ((mI M5 a7 ((jI ((17 * (s.2.1 - 1) : Nat) : Int) + ((2 : Int32) * jI (wn (s.2.2.2.1 (s.2.1 - 1)) : Int))) - (1 : Int32)).toNatClampNeg) ≠ jI (s.2.2.2.2 : Int)) → (kd M5 203 10 ∧ (∃ a8, mR M5 203 1 = some a8 ∧ (inb M5 a8 11 (jI ((17 * (s.2.1 - 1) : Nat) : Int) + ((2 : Int32) * jI (wn (s.2.2.2.1 (s.2.1 - 1)) : Int))) ∧ (kd M5 203 10 ∧ (((mI M5 a8 (jI ((17 * (s.2.1 - 1) : Nat) : Int) + ((2 : Int32) * jI (wn (s.2.2.2.1 (s.2.1 - 1)) : Int))).toNatClampNeg) ≠ (mI M5 203 19) → (w175_90 203 (jI ((17 * (s.2.1 - 1) : Nat) : Int)) (jI (wn (s.2.2.2.1 (s.2.1 - 1)) : Int)) (jI (s.2.2.2.2 : Int)) M5 P)) ∧ (¬ ((mI M5 a8 (jI ((17 * (s.2.1 - 1) : Nat) : Int) + ((2 : Int32) * jI (wn (s.2.2.2.1 (s.2.1 - 1)) : Int))).toNatClampNeg) ≠ (mI M5 203 19)) → (kd M5 203 10 ∧ w173 203 (6 : Int32) M5 (fun r10 M9 => (r10 = 0 ∨ r10 = 1) ∧ P r10 M9)))))))))))))))) ∧ (¬ (r6 ≠ 0) → (P (0 : Int32) M5))) := by
  have k4 := hI.2.1
  have k1 := hI.2.2.1 (by omega)
  have x3 := hI.2.2.2.2.1 h3
  have n7 := hB.2.1
  have t4 := tk_4 (T := T) (n := n) (q := q)
  have n4 : ¬ (tk T n q = 4 ∧ s.1 = 0) := by omega
  have hK' := hK
  obtain ⟨b16, b18, b17, b22, b19⟩ := hK
  have cur := (hS.2 (s.2.1 - 1) (by omega)).1
  have ph := (hI.2.2.2.2.2 (s.2.1 - 1) (by omega)).2.1
  have ev := tkV_3 (T := T) (n := n) (q := q) h3
  refine w176_s (q := q) (v := nl T q (te T n q - q)) hL b18 t4.1 b16 (fun x => ⟨b19 x, tk_2 x⟩) (fun x y => ?_) (fun M2 nz f2 a20 a21 => ?_)
  · have es : tkV T n q s = if atP (s.2.2.2.1 (s.2.1 - 1)) ((wn (s.2.2.2.1 (s.2.1 - 1)) : Int) - 1) s.2.2.2.2 (nl T q (te T n q - q)) = true then (6, s) else (0, (2, s.2.1, s.2.2.1, upW s.2.2.2.1 (s.2.1 - 1) (ptW (s.2.2.2.1 (s.2.1 - 1)) s.2.2.2.2 (nl T q (te T n q - q))), s.2.2.2.2)) := by
      rw [ev, if_neg (by omega)]
      unfold st3
      rw [if_neg (by omega), if_neg (by omega)]
    have go : ¬ atP (s.2.2.2.1 (s.2.1 - 1)) ((wn (s.2.2.2.1 (s.2.1 - 1)) : Int) - 1) s.2.2.2.2 (nl T q (te T n q - q)) = true → w175_90 203 (jI ((17 * (s.2.1 - 1) : Nat) : Int)) (jI (wn (s.2.2.2.1 (s.2.1 - 1)) : Int)) (jI (s.2.2.2.2 : Int)) M P := fun z => by
      rw [if_neg z] at es
      have pI := PIv_t (T := T) (n := n) (q := q) hI
      rw [es] at pI
      obtain ⟨g1, g2, g3, m', g4, g5, g6, g7, g8⟩ := bq_g n4 es hm
      exact w175_90_s hL hB (b17 (by omega)) g2 hS hI h3 (b19 x) hZ rfl pI (fun M' fM kM pM zM => hX1 M' _ _ m' g5 g7 g6 fM g8 kM pM pI rfl rfl zM)
    refine br_t (by decide) ?_
    have i2 : jI ((17 * (s.2.1 - 1) : Nat) : Int) + 2 * jI (wn (s.2.2.2.1 (s.2.1 - 1)) : Int) = jI ((17 * (s.2.1 - 1) + 2 * wn (s.2.2.2.1 (s.2.1 - 1)) : Nat) : Int) := by
      rw [show (2 : Int32) = jI 2 from rfl, jI_mul, jI_add]
      exact congrArg jI (by omega)
    rw [i2, show (0 : Int32) = jI 0 from rfl, jI_le (by omega) (by omega) (by omega) (by omega)]
    refine ⟨fun u => go (fun z => ?_), fun u => ⟨kd_203 hL, 205, rf_203_1 hL, ?_⟩⟩
    · have z' := of_decide_eq_true z
      omega
    have c0 := cur.2 (wn (s.2.2.2.1 (s.2.1 - 1)) - 1) (by omega)
    have p0 := ph.2.1 (wn (s.2.2.2.1 (s.2.1 - 1)) - 1) (by omega)
    have i3 : jI ((17 * (s.2.1 - 1) + 2 * wn (s.2.2.2.1 (s.2.1 - 1)) : Nat) : Int) - 1 = jI ((17 * (s.2.1 - 1) + 1 + 2 * (wn (s.2.2.2.1 (s.2.1 - 1)) - 1) : Nat) : Int) := by
      rw [show (1 : Int32) = jI 1 from rfl, jI_sub]
      exact congrArg jI (by omega)
    have i4 : 17 * (s.2.1 - 1) + 2 * wn (s.2.2.2.1 (s.2.1 - 1)) = 17 * (s.2.1 - 1) + 2 + 2 * (wn (s.2.2.2.1 (s.2.1 - 1)) - 1) := by omega
    have et : ((wn (s.2.2.2.1 (s.2.1 - 1)) : Int) - 1).toNat = wn (s.2.2.2.1 (s.2.1 - 1)) - 1 := by omega
    rw [i3, i4, jI_cn (by omega), jI_cn (by omega), c0.1, b19 x, ne_eq, jI_eq (by omega) (by omega) (by omega) (by omega)]
    refine ⟨i205 hL (by omega), fun z => go (fun z' => z ?_), fun z => ⟨kd_203 hL, 205, rf_203_1 hL, i205 hL (by omega), kd_203 hL, ?_⟩⟩
    · have z2 := (of_decide_eq_true z').2.2.1
      rw [et] at z2; exact z2
    rw [c0.2, ne_eq, jI_eq (by omega) (by omega) (by omega) (by omega)]
    refine ⟨fun z1 => go (fun z' => z1 ?_), fun z1 => ⟨kd_203 hL, ?_⟩⟩
    · have z2 := (of_decide_eq_true z').2.2.2
      rw [et] at z2; exact z2
    have ea : atP (s.2.2.2.1 (s.2.1 - 1)) ((wn (s.2.2.2.1 (s.2.1 - 1)) : Int) - 1) s.2.2.2.2 (nl T q (te T n q - q)) = true := decide_eq_true ⟨by omega, by omega, by rw [et]; exact Classical.not_not.mp z, by rw [et]; exact Classical.not_not.mp z1⟩
    rw [if_pos ea] at es
    refine w173_s (c := 6) hL b18 t4.1 b16 (fun M1 f1 a1 a2 => ⟨Or.inl rfl, ?_⟩)
    rw [if_neg (by omega)] at a1
    exact hX0 M1 6 q s (Fr_w f1 (fun x k => sRW_b)) (bq_d n4 es (by omega)) (by omega) a1 a2
  · have es : tkV T n q s = ((if tk T n q = 0 then 1 else if tk T n q = 2 then 3 else 2 : Nat), s) := by
      rw [ev]
      by_cases c0 : tk T n q = 0
      · rw [if_pos c0, if_pos c0]
      · rw [if_neg c0, if_neg c0]
        unfold st3
        by_cases c2 : tk T n q = 2
        · rw [if_pos c2, if_neg (by omega), if_pos (by omega)]
        · rw [if_neg c2, if_pos c2]
    have f0 : (if tk T n q = 0 then 1 else if tk T n q = 2 then 3 else 2 : Nat) ≠ 0 := by
      by_cases c0 : tk T n q = 0
      · rw [if_pos c0]; omega
      · rw [if_neg c0]
        by_cases c2 : tk T n q = 2
        · rw [if_pos c2]; omega
        · rw [if_neg c2]; omega
    exact br_f (by decide) (hX0 M2 _ q s (Fr_w f2 (fun x k => sRW_b)) (bq_d n4 es f0) f0 a20 a21)
/-- readPoint -/
theorem w175_s {M : MM} {T : Nat → Nat} {n q m : Nat} {s : PS} {P : Int32 → MM → Prop} (hL : Lay M) (hB : RBy M n T) (hK : RTk M T n q) (qn : q ≤ n) (hS : RPs M s) (hI : PIv s) (h2 : s.1 = 2) (hZ : RF0 M) (hN : ¬ (tk T n q = 3 ∧ 2 ≤ wn (s.2.2.2.1 (s.2.1 - 1)))) (hm : n ≤ q + m)
    (hX1 : ∀ M' s' (q' m' : Nat), n ≤ q' + m' → q' ≤ n → q < q' → Fr sRW M M' → bq T n m s q = bq T n m' s' q' → RTk M' T n q' → RPs M' s' → PIv s' → s'.1 = 2 → s'.2.1 = s.2.1 → RF0 M' → P 1 M')
    (hX0 : ∀ M' (f pl : Nat) s', Fr sRW M M' → bq T n m s q = (f, pl, s') → f ≠ 0 → mI M' 203 20 = jI (f : Int) → mI M' 203 21 = jI (pl : Int) → P 0 M') : w175 203 (jI ((17 * (s.2.1 - 1) : Nat) : Int)) M P := by
  have k4 := hI.2.1
  have k1 := hI.2.2.1 (by omega)
  have n7 := hB.2.1
  have t4 := tk_4 (T := T) (n := n) (q := q)
  have n4 : ¬ (tk T n q = 4 ∧ s.1 = 0) := by omega
  obtain ⟨b16, b18, b17, b22, b19⟩ := hK
  have cur := (hS.2 (s.2.1 - 1) (by omega)).1
  have w8 := (hI.2.2.2.2.2 (s.2.1 - 1) (by omega)).2.1.1
  have ev := tkV_2 (T := T) (n := n) (q := q) h2
  unfold w175
  rw [jI_cn (by omega)]
  refine ⟨kd_203 hL, 205, rf_203_1 hL, i205 hL (by omega), kd_203 hL, w176_s (q := q) (v := nl T q (te T n q - q)) hL b18 t4.1 b16 (fun x => ⟨b19 x, tk_2 x⟩) (fun x y => ?_) (fun M2 nz f2 a20 a21 => ?_)⟩
  · have es : tkV T n q s = if 8 ≤ wn (s.2.2.2.1 (s.2.1 - 1)) then (5, s) else (0, (3, s.2.1, s.2.2.1, s.2.2.2.1, nl T q (te T n q - q))) := by
      rw [ev, if_neg (by omega)]
      unfold st2
      rw [if_neg hN, if_neg (by omega), if_neg (by omega)]
    refine br_t (by decide) ?_
    rw [cur.1, show (8 : Int32) = jI 8 from rfl, ne_eq, jI_eq (by omega) (by omega) (by omega) (by omega), b19 x]
    refine ⟨fun u => ⟨kd_203 hL, kd_203 hL, ?_⟩, fun u => ⟨kd_203 hL, ?_⟩⟩
    · rw [if_neg (by omega)] at es
      have pI := PIv_t (T := T) (n := n) (q := q) hI
      rw [es] at pI
      obtain ⟨g1, g2, g3, m', g4, g5, g6, g7, g8⟩ := bq_g n4 es hm
      refine w168_s hL hB g2 (b17 (by omega)) (fun M4 f4 c4 => ⟨kd_203 (f4.1 hL), ?_⟩)
      have S4 : RPs M4 (3, s.2.1, s.2.2.1, s.2.2.2.1, nl T q (te T n q - q)) := by
        have q1 := RPs_g hI f4 hS
        refine ⟨?_, q1.2⟩
        rw [q1.1, if_pos (by omega), if_pos (show 2 ≤ 3 by omega)]
      refine w175_2_s (s := (3, s.2.1, s.2.2.1, s.2.2.2.1, nl T q (te T n q - q))) (m := m') (f4.1 hL) (RBy_fr f4 hB) c4 g7 S4 pI rfl (RF0_g f4 hZ) g5 (fun M' s' q' m2 y1 y2 y3 y4 y5 y6 y7 y8 y9 y10 y11 => ?_) (fun M' f pl s' y1 y2 y3 y4 y5 => ?_)
      · exact hX1 M' s' q' m2 y1 y2 (by omega) (Fr_t (Fr_w f4 (fun x k => sRW_g)) y4) (g8.trans y5) y6 y7 y8 y9 y10 y11
      · exact hX0 M' f pl s' (Fr_t (Fr_w f4 (fun x k => sRW_g)) y1) (g8.trans y2) y3 y4 y5
    · rw [if_pos (by omega)] at es
      refine w173_s (c := 5) hL b18 t4.1 b16 (fun M1 f1 a1 a2 => ⟨Or.inl rfl, ?_⟩)
      rw [if_neg (by omega)] at a1
      exact hX0 M1 5 q s (Fr_w f1 (fun x k => sRW_b)) (bq_d n4 es (by omega)) (by omega) a1 a2
  · have es : tkV T n q s = ((if tk T n q = 0 then 1 else if tk T n q = 2 then 3 else 2 : Nat), s) := by
      rw [ev]
      by_cases c0 : tk T n q = 0
      · rw [if_pos c0, if_pos c0]
      · rw [if_neg c0, if_neg c0]
        unfold st2
        rw [if_neg hN]
        by_cases c2 : tk T n q = 2
        · rw [if_pos c2, if_neg (by omega), if_pos (by omega)]
        · rw [if_neg c2, if_pos c2]
    have f0 : (if tk T n q = 0 then 1 else if tk T n q = 2 then 3 else 2 : Nat) ≠ 0 := by
      by_cases c0 : tk T n q = 0
      · rw [if_pos c0]; omega
      · rw [if_neg c0]
        by_cases c2 : tk T n q = 2
        · rw [if_pos c2]; omega
        · rw [if_neg c2]; omega
    exact br_f (by decide) (hX0 M2 _ q s (Fr_w f2 (fun x k => sRW_b)) (bq_d n4 es f0) f0 a20 a21)
