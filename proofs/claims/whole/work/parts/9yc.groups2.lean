/-! groups: the machines -/
def enL (W : Nat → WY) (n d : Int) (a o : Nat) : Bool := srv (wn (W a)) (wn (W o)) (geo (W a) (W o) n d)
theorem Eno_0 {a b : WY} {n d : Int} {e : Bool} (h : e = true ↔ Eno 0 a b n d) : e = srv (wn a) (wn b) (geo a b n d) := by
  unfold Eno at h
  rw [if_neg (by decide), if_neg (by decide)] at h
  exact Bool.eq_iff_iff.mpr h
theorem enL_k {W : Nat → WY} {n d : Int} {a o : Nat} (ga : gW (W a)) (go : gW (W o)) (ha : a < 4) (ho : o < 4) (ne : a ≠ o) : mkL (lkc (enL W n d)) a o = enL W n d a o := by
  rcases Nat.lt_or_ge a o with z | z
  · exact mkL_ok _ z ho
  · rw [mkL_s, mkL_ok _ (show o < a by omega) ha]
    exact srv_T ga go
theorem w139_s {M0 : MM} {k : Nat} {W : Nat → WY} {n d : Int} {P : Int32 → MM → Prop} (hL0 : Lay M0) (hW0 : CWs M0 k W) (n0 : 0 ≤ n) (n1 : n ≤ 100000) (d0 : 1 ≤ d) (d1 : d ≤ 1000) (hX : ∀ M', Fr sCQ M0 M' → P (lkO (lkc (enL W n d)) k) M') : w139 0 (jI n) (jI d) M0 P := by
  have k4 := hW0.2.1
  have inner : ∀ (K : Nat → Int32 → Int32 → Int32 → Int32 → MM → Prop) (w : Nat) (x : Int32), w < k → (∀ M', Fr sCQ M0 M' → K 0 (jI n) (jI d) (lkI (lkc (enL W n d)) w x w) (jI ((w + 1 : Nat) : Int)) M') → ∀ (q o : Nat) (M : MM), o + q = w → Fr sCQ M0 M → w139_17 K (q + 1) 0 (jI n) (jI d) (lkI (lkc (enL W n d)) w x o) (jI (w : Int)) (jI (o : Int)) M P := by
    intro K w x hw hK q
    induction q with
    | zero =>
      intro o M ho h
      have : o = w := by omega
      subst this
      refine br_t (Int32.le_refl _) ?_
      rw [show jI (o : Int) + 1 = jI ((o + 1 : Nat) : Int) by rw [show (1 : Int32) = jI 1 from rfl, jI_add, c_s1]]
      exact hK M h
    | succ q ih =>
      intro o M ho h
      have hL := h.1 hL0
      have hW := CWs_Q h hW0
      have eo : jI (o : Int) + 1 = jI ((o + 1 : Nat) : Int) := by rw [show (1 : Int32) = jI 1 from rfl, jI_add, c_s1]
      refine br_f (by rw [jI_le (by omega) (by omega) (by omega) (by omega)]; omega) ⟨kd_0 hL, kd_0 hL, 19, rf_0_5 hL, i19 hL (by omega), kd_0 hL, 19, rf_0_5 hL, i19 hL (by omega), 58, rf_0_15 hL, kd_58 hL, ?_⟩
      rw [jI_cn (by omega), jI_cn (by omega), rf_19 hL (by omega), rf_19 hL (by omega)]
      refine w95_s hL (isT_way (by omega)) (isT_way (by omega)) (by omega) (by omega) (hW.2.2 w hw).2 (hW.2.2 o (by omega)).2 (hW.2.2 w hw).1 (hW.2.2 o (by omega)).1 (Or.inl rfl) n0 n1 d0 d1 (fun M2 e h2 he => ?_)
      have hF2 := Fr_t h h2
      have ek : mkL (lkc (enL W n d)) w o = e := (enL_k (hW.2.2 w hw).1 (hW.2.2 o (by omega)).1 (by omega) (by omega) (by omega)).trans (Eno_0 he).symm
      have nx := ih (o + 1) M2 (by omega) hF2
      have es : lkI (lkc (enL W n d)) w x (o + 1) = if mkL (lkc (enL W n d)) w o = true then lkI (lkc (enL W n d)) w x o ||| lkS w o else lkI (lkc (enL W n d)) w x o := rfl
      rw [es, ek] at nx
      unfold w139_73
      rw [eo]
      cases e with
      | false => rw [if_neg (by decide)] at nx; exact br_t rfl nx
      | true => rw [if_pos rfl] at nx; exact br_f (by decide) nx
  have outer : ∀ (q w : Nat) (M : MM), w + q = k → Fr sCQ M0 M → w139_5 (q + 1) 0 (jI n) (jI d) (lkO (lkc (enL W n d)) w) (jI (w : Int)) M P := by
    intro q
    induction q with
    | zero =>
      intro w M hw h
      have : w = k := by omega
      subst this
      refine ⟨kd_0 (h.1 hL0), br_t (by rw [(CWs_Q h hW0).1]; exact Int32.le_refl _) (hX M h)⟩
    | succ q ih =>
      intro w M hw h
      have hL := h.1 hL0
      refine ⟨kd_0 hL, br_f (by rw [(CWs_Q h hW0).1, jI_le (by omega) (by omega) (by omega) (by omega)]; omega) ⟨w + 1, inner _ w (lkO (lkc (enL W n d)) w) (by omega) (fun M' h' => ih (w + 1) M' (by omega) h') w 0 M (by omega) h⟩⟩
  exact ⟨k + 1, outer k 0 M0 (by omega) Fr_r⟩
theorem w140_s {M : MM} {k w : Nat} {W : Nat → WY} {lk : Int32} {P : Int32 → MM → Prop} (hL : Lay M) (hW : CWs M k W) (hP : P (gR1 lk k ((1 : Int32) <<< (jI (w : Int) &&& 31)) 4) M) : w140 0 (jI (w : Int)) lk M P := by
  have k4 := hW.2.1
  have inner : ∀ (K : Nat → Int32 → Int32 → Int32 → MM → Prop) (r : Nat) (x : Int32), K 0 lk (gI1 lk x k) (jI ((r + 1 : Nat) : Int)) M → ∀ (q i : Nat), i + q = k → w140_16 K (q + 1) 0 lk (gI1 lk x i) (jI (r : Int)) (jI (i : Int)) M P := by
    intro K r x hK q
    induction q with
    | zero =>
      intro i hi
      have : i = k := by omega
      subst this
      refine ⟨kd_0 hL, br_t (by rw [hW.1]; exact Int32.le_refl _) ?_⟩
      rw [show jI (r : Int) + 1 = jI ((r + 1 : Nat) : Int) by rw [show (1 : Int32) = jI 1 from rfl, jI_add, c_s1]]
      exact hK
    | succ q ih =>
      intro i hi
      have nx := ih (i + 1) (by omega)
      have es : gI1 lk x (i + 1) = if ((gI1 lk x i >>> (jI (i : Int) &&& 31)) &&& (1 : Int32)) = 0 then gI1 lk x i else gI1 lk x i ||| ((lk >>> ((jI (i : Int) * (4 : Int32)) &&& 31)) &&& (15 : Int32)) := rfl
      rw [es] at nx
      refine ⟨kd_0 hL, br_f (by rw [hW.1, jI_le (by omega) (by omega) (by omega) (by omega)]; omega) ?_⟩
      unfold w140_46
      rw [show jI (i : Int) + 1 = jI ((i + 1 : Nat) : Int) by rw [show (1 : Int32) = jI 1 from rfl, jI_add, c_s1]]
      refine ⟨fun z => ?_, fun z => ?_⟩
      · rw [if_pos z] at nx; exact nx
      · rw [if_neg z] at nx; exact nx
  have outer : ∀ (q r : Nat), r + q = 4 → w140_7 (q + 1) 0 lk (gR1 lk k ((1 : Int32) <<< (jI (w : Int) &&& 31)) r) (jI (r : Int)) M P := by
    intro q
    induction q with
    | zero =>
      intro r hr
      have : r = 4 := by omega
      subst this
      exact br_t (by decide) hP
    | succ q ih =>
      intro r hr
      exact br_f (by rw [show (4 : Int32) = jI 4 from rfl, jI_le (by omega) (by omega) (by omega) (by omega)]; omega) ⟨k + 1, inner _ r _ (ih (r + 1) (by omega)) k 0 (by omega)⟩
  exact ⟨5, outer 4 0 (by omega)⟩
def gcn (c k : Nat) : Nat → Nat
  | 0 => 0
  | w + 1 => gcn c k w + (if (gC1 c k w &&& (((1 : Int32) <<< (jI (w : Int) &&& 31)) - (1 : Int32))) = 0 then 1 else 0)
def grC (k : Nat) (l1 l2 l3 : Int32) : Int32 := if (lsb l2 l3 && decide ((-1 : Int32) ≤ l1)) = true then (if l1 < jI (k : Int) then 0 else 2) else 1
def groA (k : Nat) (W : Nat → WY) (l1 l2 l3 : Int32) : Int32 × Int32 :=
  if grC k l1 l2 l3 = 0 then (if l1 = -1 then (jI (gcn (lkc (enL W l2.toInt l3.toInt)) k k : Int), 0) else (gC1 (lkc (enL W l2.toInt l3.toInt)) k l1.toNatClampNeg, 0)) else (-1, grC k l1 l2 l3)
theorem gr_l {k : Nat} {l1 : Int32} (k4 : k ≤ 4) (h0 : (-1 : Int32) ≤ l1) (h1 : l1 < jI (k : Int)) (ne : ¬ l1 = -1) : ∃ w : Nat, w < k ∧ l1 = jI (w : Int) := by
  obtain ⟨z, rfl, z1, z2⟩ := jI_of l1
  rw [show (-1 : Int32) = jI (-1) from rfl, jI_le (by omega) (by omega) (by omega) (by omega)] at h0
  rw [jI_lt (by omega) (by omega) (by omega) (by omega)] at h1
  rw [show (-1 : Int32) = jI (-1) from rfl, jI_eq (by omega) (by omega) (by omega) (by omega)] at ne
  exact ⟨z.toNat, by omega, by rw [show ((z.toNat : Nat) : Int) = z by omega]⟩
theorem w138_q {M : MM} {k : Nat} {W : Nat → WY} {l1 l2 l3 : Int32} {P : Int32 → MM → Prop} (hL : Lay M) (hW : CWs M k W) (hX : ∀ M' r st, Fr sCQ M M' → mI M' 0 10 = st → (r, st) = groA k W l1 l2 l3 → P r M') : w138 0 l1 l2 l3 M P := by
  have k4 := hW.2.1
  unfold groA at hX
  have one : grC k l1 l2 l3 = 1 → w138_13 0 M P := fun e => by
    rw [if_neg (by rw [e]; decide), e] at hX
    exact ⟨kd_0 hL, kd_0 hL, hX _ _ _ (Fr_s0 Fr_r) (gI_y ⟨rfl, rfl⟩) rfl⟩
  refine w74_s ?_
  cases hl : lsb l2 l3 with
  | false => exact br_t rfl (one (by unfold grC; rw [hl, Bool.false_and, if_neg (by decide)]))
  | true =>
    refine br_f (by decide) ⟨fun h0 => ⟨kd_0 hL, ?_⟩, fun h0 => one (by unfold grC; rw [decide_eq_false h0, Bool.and_false, if_neg (by decide)])⟩
    rw [hW.1]
    have e : grC k l1 l2 l3 = if l1 < jI (k : Int) then 0 else 2 := by unfold grC; rw [hl, decide_eq_true h0]; rfl
    refine ⟨fun h1 => ⟨kd_0 hL, ?_⟩, fun h1 => ?_⟩
    · rw [if_pos h1] at e
      rw [if_pos e] at hX
      obtain ⟨n, d, rfl, rfl, n0, n1, d0, d1⟩ := lsb_j hl
      rw [jI_toInt (by omega) (by omega), jI_toInt (by omega) (by omega)] at hX
      refine w139_s hL hW n0 n1 d0 d1 (fun M2 h2 => ?_)
      have hL2 := h2.1 hL
      have hW2 := CWs_Q h2 hW
      refine ⟨fun z => ⟨k + 1, ?_⟩, fun z => ?_⟩
      · rw [if_pos z] at hX
        have lp : ∀ (q w : Nat), w + q = k → w138_64 (q + 1) 0 (lkO (lkc (enL W n d)) k) (jI (gcn (lkc (enL W n d)) k w : Int)) (jI (w : Int)) M2 P := by
          intro q
          induction q with
          | zero =>
            intro w hw
            have : w = k := by omega
            subst this
            exact ⟨kd_0 hL2, br_t (by rw [hW2.1]; exact Int32.le_refl _) ⟨kd_0 hL2, kd_0 hL2, hX _ _ _ (Fr_s0 h2) (gI_y ⟨rfl, rfl⟩) rfl⟩⟩
          | succ q ih =>
            intro w hw
            have nx := ih (w + 1) (by omega)
            have es : gcn (lkc (enL W n d)) k (w + 1) = gcn (lkc (enL W n d)) k w + (if (gC1 (lkc (enL W n d)) k w &&& (((1 : Int32) <<< (jI (w : Int) &&& 31)) - (1 : Int32))) = 0 then 1 else 0) := rfl
            rw [es, show gC1 (lkc (enL W n d)) k w = gR1 (lkO (lkc (enL W n d)) k) k ((1 : Int32) <<< (jI (w : Int) &&& 31)) 4 from rfl] at nx
            refine ⟨kd_0 hL2, br_f (by rw [hW2.1, jI_le (by omega) (by omega) (by omega) (by omega)]; omega) ⟨kd_0 hL2, w140_s hL2 hW2 ?_⟩⟩
            unfold w138_94
            rw [show jI (w : Int) + 1 = jI ((w + 1 : Nat) : Int) by rw [show (1 : Int32) = jI 1 from rfl, jI_add, c_s1]]
            refine ⟨fun y => ?_, fun y => ?_⟩
            · rw [if_neg y, Nat.add_zero] at nx; exact nx
            · rw [if_pos (Classical.not_not.mp y)] at nx
              rw [show (1 : Int32) = jI 1 from rfl, jI_add, c_s1]
              exact nx
        exact lp k 0 (by omega)
      · rw [if_neg z] at hX
        obtain ⟨w, hw, rfl⟩ := gr_l k4 h0 h1 z
        rw [jI_cn (by omega)] at hX
        exact ⟨kd_0 hL2, w140_s hL2 hW2 ⟨kd_0 hL2, kd_0 hL2, hX _ _ _ (Fr_s0 h2) (gI_y ⟨rfl, rfl⟩) rfl⟩⟩
    · rw [if_neg h1] at e
      rw [if_neg (by rw [e]; decide), e] at hX
      exact ⟨kd_0 hL, kd_0 hL, hX _ _ _ (Fr_s0 Fr_r) (gI_y ⟨rfl, rfl⟩) rfl⟩
/-! the reference -/
def sHg (x k : Nat) : Bool := sRL x k || sWk x k
theorem sHg_f {x k : Nat} (h1 : ¬ (x = 203 ∧ (k = 27 ∨ k = 28 ∨ (31 ≤ k ∧ k ≤ 33)))) (h2 : ¬ (210 ≤ x ∧ x ≤ 225)) : sHg x k = false := by
  unfold sHg
  rw [Bool.or_eq_false_iff]
  exact ⟨sB_f (by omega) (by omega), sB_f (by omega) (by omega)⟩
theorem sHg_1 {x k : Nat} (h : sHg x k = false) : sRL x k = false := (Bool.or_eq_false_iff.mp h).1
theorem sHg_2 {x k : Nat} (h : sHg x k = false) : sWk x k = false := (Bool.or_eq_false_iff.mp h).2
theorem sHg_Q {x k : Nat} (h : sRQ x k = false) : sHg x k = false := by
  refine sHg_f (fun z => ?_) (fun z => ?_)
  · rw [z.1, sRQ_1 (by omega)] at h; cases h
  · rw [sRQ_2 (by omega)] at h; cases h
theorem REd_h {M M' : MM} {n d : Int} (hF : Fr sHg M M') (h : REd M n d) : REd M' n d := ⟨(Fr_L hF (sHg_f (by omega) (by omega))).trans h.1, (Fr_L hF (sHg_f (by omega) (by omega))).trans h.2⟩
theorem RWs_h {M M' : MM} {k : Nat} {W : Nat → WY} (hF : Fr sHg M M') (h : RWs M k W) : RWs M' k W := RWs_fr hF (sHg_f (by omega) (by omega)) (fun q => sHg_f (by omega) (by omega)) h
theorem w272_s {M : MM} {k a o : Nat} {W : Nat → WY} {n d : Int} {P : Int32 → MM → Prop} (hL : Lay M) (hW : RWs M k W) (hD : REd M n d) (hE : gE n d) (ha : a < k) (ho : o < k) (ne : a ≠ o) (hX : ∀ M', Fr sHg M M' → P (bI (mkL (lkc (enL W n d)) a o)) M') : w272 203 (jI (a : Int)) (jI (o : Int)) M P := by
  have k4 := hW.2.1
  refine w70_s (by omega) (by omega) (by omega) (by omega) (w33_s (by omega) (by omega) (by omega) (by omega) ⟨kd_203 hL, ?_⟩)
  rw [show min (a : Int) (o : Int) = ((min a o : Nat) : Int) by omega, show max (a : Int) (o : Int) = ((max a o : Nat) : Int) by omega]
  have h1 : min a o < k := by omega
  have h2 : max a o < k := by omega
  refine w211_s hL hW h1 h2 (fun M1 hF1 hR => ?_)
  have hL1 := hF1.1 hL
  have hF1' : Fr sHg M M1 := Fr_w hF1 (fun x k => sHg_1)
  refine ⟨kd_203 hL1, w239_e hL1 hR (REd_h hF1' hD) (hW.2.2 _ h1).1 (hW.2.2 _ h2).1 hE (Or.inl rfl) (fun M2 e hF2 he => ?_)⟩
  have ek : mkL (lkc (enL W n d)) a o = e := by
    have q := mkL_ok (enL W n d) (a := min a o) (o := max a o) (by omega) (by omega)
    rw [Eno_0 he]
    refine Eq.trans ?_ q
    rcases Nat.lt_or_ge a o with z | z
    · rw [show min a o = a by omega, show max a o = o by omega]
    · rw [show min a o = o by omega, show max a o = a by omega, mkL_s]
  have := hX M2 (Fr_t hF1' (Fr_w hF2 (fun x k => sHg_2)))
  rw [ek] at this
  cases e with
  | false => exact ⟨Or.inl rfl, this⟩
  | true => exact ⟨Or.inr rfl, this⟩
theorem w271_s {M0 : MM} {k w : Nat} {W : Nat → WY} {n d : Int} {P : Int32 → MM → Prop} (hL0 : Lay M0) (hW0 : RWs M0 k W) (hD0 : REd M0 n d) (hE : gE n d) (hw : w < k) (hX : ∀ M', Fr sHg M0 M' → P (gC1 (lkc (enL W n d)) k w) M') : w271 203 (jI (w : Int)) M0 P := by
  have k4 := hW0.2.1
  obtain ⟨g1, g2, _, g4⟩ := grp_b (lkc (enL W n d)) (lkc_lt _) k (by omega) w hw
  have inner : ∀ (K1 : Nat → Int32 → Int32 → MM → Prop) (K2 : Nat → Int32 → Int32 → Int32 → MM → Prop) (was : Int32) (a : Nat) (s : Int32), a < k → (∀ M', Fr sHg M0 M' → K2 203 (hI1 (lkc (enL W n d)) was a s k) was (jI ((a + 1 : Nat) : Int)) M') → ∀ (q o : Nat) (M : MM), o + q = k → Fr sHg M0 M → w271_28 K1 K2 (q + 1) 203 (hI1 (lkc (enL W n d)) was a s o) was (jI (a : Int)) (jI (o : Int)) M P := by
    intro K1 K2 was a s ha hK q
    induction q with
    | zero =>
      intro o M ho h
      have : o = k := by omega
      subst this
      refine ⟨kd_203 (h.1 hL0), br_t (by rw [(RWs_h h hW0).1]; exact Int32.le_refl _) ?_⟩
      rw [show jI (a : Int) + 1 = jI ((a + 1 : Nat) : Int) by rw [show (1 : Int32) = jI 1 from rfl, jI_add, c_s1]]
      exact hK M h
    | succ q ih =>
      intro o M ho h
      have hL := h.1 hL0
      have hW := RWs_h h hW0
      have es : hI1 (lkc (enL W n d)) was a s (o + 1) = if ((was >>> (jI (a : Int) &&& 31)) &&& (1 : Int32)) = 1 ∧ ((was >>> (jI (o : Int) &&& 31)) &&& (1 : Int32)) = 0 ∧ mkL (lkc (enL W n d)) a o = true then hI1 (lkc (enL W n d)) was a s o ||| ((1 : Int32) <<< (jI (o : Int) &&& 31)) else hI1 (lkc (enL W n d)) was a s o := rfl
      have nx : ∀ M', Fr sHg M0 M' → w271_28 K1 K2 (q + 1) 203 (hI1 (lkc (enL W n d)) was a s (o + 1)) was (jI (a : Int)) (jI ((o + 1 : Nat) : Int)) M' P := fun M' h' => ih (o + 1) M' (by omega) h'
      rw [es] at nx
      refine ⟨kd_203 hL, br_f (by rw [hW.1, jI_le (by omega) (by omega) (by omega) (by omega)]; omega) ?_⟩
      unfold w271_74
      rw [show jI (o : Int) + 1 = jI ((o + 1 : Nat) : Int) by rw [show (1 : Int32) = jI 1 from rfl, jI_add, c_s1]]
      refine ⟨fun z => ?_, fun z => ⟨fun y => ?_, fun y => ⟨kd_203 hL, ?_⟩⟩⟩
      · rw [if_neg (fun x => z x.1)] at nx; exact nx M h
      · rw [if_neg (fun x => y x.2.1)] at nx; exact nx M h
      · have z' := Classical.not_not.mp z
        have y' := Classical.not_not.mp y
        have ne : a ≠ o := fun e => by
          subst e
          rw [z'] at y'
          exact absurd y' (by decide)
        refine w272_s hL hW (REd_h h hD0) hE ha (by omega) ne (fun M2 h2 => ?_)
        have nx2 := nx M2 (Fr_t h h2)
        cases c : mkL (lkc (enL W n d)) a o with
        | false => rw [if_neg (fun x => by rw [c] at x; exact absurd x.2.2 (by decide))] at nx2; exact br_t rfl nx2
        | true => rw [if_pos ⟨z', y', c⟩] at nx2; exact br_f (by decide) nx2
  have mid : ∀ (K1 : Nat → Int32 → Int32 → MM → Prop) (was : Int32), (∀ M', Fr sHg M0 M' → K1 203 (hO1 (lkc (enL W n d)) k was k) was M') → ∀ (q a : Nat) (M : MM), a + q = k → Fr sHg M0 M → w271_16 K1 (q + 1) 203 (hO1 (lkc (enL W n d)) k was a) was (jI (a : Int)) M P := by
    intro K1 was hK q
    induction q with
    | zero =>
      intro a M ha h
      have : a = k := by omega
      subst this
      exact ⟨kd_203 (h.1 hL0), br_t (by rw [(RWs_h h hW0).1]; exact Int32.le_refl _) (hK M h)⟩
    | succ q ih =>
      intro a M ha h
      have hL := h.1 hL0
      exact ⟨kd_203 hL, br_f (by rw [(RWs_h h hW0).1, jI_le (by omega) (by omega) (by omega) (by omega)]; omega) ⟨k + 1, inner K1 _ was a (hO1 (lkc (enL W n d)) k was a) (by omega) (fun M' h' => ih (a + 1) M' (by omega) h') k 0 M (by omega) h⟩⟩
  have st : ∀ j m, j ≤ m → hst (lkc (enL W n d)) k w (j + 1) = hst (lkc (enL W n d)) k w j → hst (lkc (enL W n d)) k w m = hst (lkc (enL W n d)) k w j := by
    intro j m hm e
    obtain ⟨x, rfl⟩ : ∃ x, m = j + x := ⟨m - j, by omega⟩
    clear hm
    induction x with
    | zero => rfl
    | succ x ih =>
      show hO1 (lkc (enL W n d)) k (hst (lkc (enL W n d)) k w (j + x)) k = _
      rw [ih]
      exact e
  have loop : ∀ (q j : Nat) (M : MM), j + q = 4 → Fr sHg M0 M → w271_6 (q + 2) 203 (hst (lkc (enL W n d)) k w (j + 1)) (hst (lkc (enL W n d)) k w j) M P := by
    intro q
    induction q with
    | zero =>
      intro j M hj h
      have : j = 4 := by omega
      subst this
      refine br_t g2.symm ?_
      rw [g2, g1]
      exact hX M h
    | succ q ih =>
      intro j M hj h
      refine ⟨fun z => ?_, fun z => ⟨k + 1, mid _ (hst (lkc (enL W n d)) k w (j + 1)) (fun M' h' => ih (j + 1) M' (by omega) h') k 0 M (by omega) h⟩⟩
      rw [← z, ← st j 4 (by omega) z.symm, g1]
      exact hX M h
  exact ⟨7, br_f g4 ⟨k + 1, mid _ (hst (lkc (enL W n d)) k w 0) (fun M' h' => loop 4 0 M' (by omega) h') k 0 M0 (by omega) Fr_r⟩⟩
theorem w270_q {M : MM} {k : Nat} {W : Nat → WY} {l1 l2 l3 : Int32} {P : Int32 → MM → Prop} (hL : Lay M) (hW : RWs M k W) (hX : ∀ M' r st, Fr sRQ M M' → mI M' 203 9 = st → (r, st) = groA k W l1 l2 l3 → P r M') : w270 203 l1 l2 l3 M P := by
  have hC := RWs_RW hL hW
  have k4 := hW.2.1
  unfold groA at hX
  have one : grC k l1 l2 l3 = 1 → w270_13 203 M P := fun e => by
    rw [if_neg (by rw [e]; decide), e] at hX
    exact ⟨kd_203 hL, kd_203 hL, hX _ _ _ (Fr_s9 Fr_r) (gI_y ⟨rfl, rfl⟩) rfl⟩
  refine w209_s ?_
  cases hl : lsb l2 l3 with
  | false => exact br_t rfl (one (by unfold grC; rw [hl, Bool.false_and, if_neg (by decide)]))
  | true =>
    refine br_f (by decide) ⟨fun h0 => ?_, fun h0 => one (by unfold grC; rw [decide_eq_false h0, Bool.and_false, if_neg (by decide)])⟩
    have e : grC k l1 l2 l3 = if l1 < jI (k : Int) then 0 else 2 := by unfold grC; rw [hl, decide_eq_true h0]; rfl
    have main : l1 < jI (k : Int) → w270_38 203 l1 l2 l3 M P := fun h1 => by
      rw [if_pos h1] at e
      rw [if_pos e] at hX
      obtain ⟨n, d, rfl, rfl, n0, n1, d0, d1⟩ := lsb_j hl
      rw [jI_toInt (by omega) (by omega), jI_toInt (by omega) (by omega)] at hX
      refine ⟨kd_203 hL, w215_s hL ⟨n0, n1⟩ ⟨by omega, d1⟩ ?_⟩
      have hF1 : Fr sRQ M (sL (sL M 203 29 (jL n)) 203 30 (jL d)) := Fr_sL (Fr_sL Fr_r (sRQ_1 (by omega))) (sRQ_1 (by omega))
      have hD1 : REd (sL (sL M 203 29 (jL n)) 203 30 (jL d)) n d := ⟨by rw [gL_n (by omega), gL_y ⟨rfl, rfl⟩], gL_y ⟨rfl, rfl⟩⟩
      have hL1 := hF1.1 hL
      have hW1 := RWs_Q hF1 hW
      have hE := gE_l n0 n1 d0 d1
      generalize sL (sL M 203 29 (jL n)) 203 30 (jL d) = M1 at *
      refine ⟨fun z => ⟨k + 1, ?_⟩, fun z => ?_⟩
      · rw [if_pos z] at hX
        have lp : ∀ (q w : Nat) (M' : MM), w + q = k → Fr sHg M1 M' → w270_65 (q + 1) 203 (jI (gcn (lkc (enL W n d)) k w : Int)) (jI (w : Int)) M' P := by
          intro q
          induction q with
          | zero =>
            intro w M' hw h
            have : w = k := by omega
            subst this
            have hL' := h.1 hL1
            exact ⟨kd_203 hL', br_t (by rw [(RWs_h h hW1).1]; exact Int32.le_refl _) ⟨kd_203 hL', kd_203 hL', hX _ _ _ (Fr_s9 (Fr_t hF1 (Fr_w h (fun x k => sHg_Q)))) (gI_y ⟨rfl, rfl⟩) rfl⟩⟩
          | succ q ih =>
            intro w M' hw h
            have hL' := h.1 hL1
            have es : gcn (lkc (enL W n d)) k (w + 1) = gcn (lkc (enL W n d)) k w + (if (gC1 (lkc (enL W n d)) k w &&& (((1 : Int32) <<< (jI (w : Int) &&& 31)) - (1 : Int32))) = 0 then 1 else 0) := rfl
            obtain ⟨_, _, g3, _⟩ := grp_b (lkc (enL W n d)) (lkc_lt _) k (by omega) w (by omega)
            refine ⟨kd_203 hL', br_f (by rw [(RWs_h h hW1).1, jI_le (by omega) (by omega) (by omega) (by omega)]; omega) ⟨kd_203 hL', w271_s hL' (RWs_h h hW1) (REd_h h hD1) hE (by omega) (fun M2 h2 => w273_s ?_)⟩⟩
            have nx := ih (w + 1) M2 (by omega) (Fr_t h h2)
            rw [es] at nx
            unfold w270_95
            rw [show jI (w : Int) + 1 = jI ((w + 1 : Nat) : Int) by rw [show (1 : Int32) = jI 1 from rfl, jI_add, c_s1]]
            refine ⟨fun y => ?_, fun y => ?_⟩
            · rw [if_neg (fun x => y (g3.mp x)), Nat.add_zero] at nx
              rw [show (0 : Int32) = jI 0 from rfl, jI_add, Int.add_zero]
              exact nx
            · rw [if_pos (g3.mpr (Classical.not_not.mp y))] at nx
              rw [show (1 : Int32) = jI 1 from rfl, jI_add, c_s1]
              exact nx
        exact lp k 0 M1 (by omega) Fr_r
      · rw [if_neg z] at hX
        obtain ⟨w, hw, rfl⟩ := gr_l k4 h0 h1 z
        rw [jI_cn (by omega)] at hX
        refine ⟨kd_203 hL1, w271_s hL1 hW1 hD1 hE hw (fun M2 h2 => ?_)⟩
        have hL2 := h2.1 hL1
        exact ⟨kd_203 hL2, kd_203 hL2, hX _ _ _ (Fr_s9 (Fr_t hF1 (Fr_w h2 (fun x k => sHg_Q)))) (gI_y ⟨rfl, rfl⟩) rfl⟩
    refine ⟨fun z => main ?_, fun z => ⟨kd_203 hL, w182_s hC ?_⟩⟩
    · rw [z, show (-1 : Int32) = jI (-1) from rfl, jI_lt (by omega) (by omega) (by omega) (by omega)]; omega
    · cases c1 : isWb k l1 with
      | true =>
        obtain ⟨w, hw, rfl⟩ := isWb_j k4 c1
        exact br_t (by decide) (main (by rw [jI_lt (by omega) (by omega) (by omega) (by omega)]; omega))
      | false =>
        have h1 : ¬ l1 < jI (k : Int) := fun h1 => by
          obtain ⟨w, hw, rfl⟩ := gr_l k4 h0 h1 z
          rw [isWb_i k4 hw] at c1
          cases c1
        rw [if_neg h1] at e
        rw [if_neg (by rw [e]; decide), e] at hX
        exact br_f (fun z => z rfl) ⟨kd_203 hL, kd_203 hL, hX _ _ _ (Fr_s9 Fr_r) (gI_y ⟨rfl, rfl⟩) rfl⟩
