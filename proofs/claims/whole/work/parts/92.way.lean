/-! ===== way: sums and longest of edges ===== -/
def sumE (a : WY) : Nat → Int
  | 0 => 0
  | e + 1 => sumE a e + qd a e a (e + 1)
def lngE (a : WY) : Nat → Nat
  | 0 => 0
  | e + 1 => if qd a e a (e + 1) ≤ qd a (lngE a e) a (lngE a e + 1) then lngE a e else e
theorem lngE_le (a : WY) : ∀ e, lngE a e ≤ e
  | 0 => Nat.le_refl _
  | e + 1 => by
    have := lngE_le a e
    show (if qd a e a (e + 1) ≤ qd a (lngE a e) a (lngE a e + 1) then lngE a e else e) ≤ e + 1
    split <;> omega
theorem lngE_lt (a : WY) : ∀ e, lngE a (e + 1) ≤ e
  | e => by
    have := lngE_le a e
    show (if qd a e a (e + 1) ≤ qd a (lngE a e) a (lngE a e + 1) then lngE a e else e) ≤ e
    split <;> omega
theorem w41_s {M : MM} {t : Nat} {a : WY} {P : Int32 → MM → Prop} (hL : Lay M) (ht : isT t = true) (hA : TrC M t a) (ga : gW a) (hP : P (jI (sumE a (wn a - 1))) M) : w41 t M P := by
  have a1 := ga.1
  have a2 := ga.2.1
  have lp : ∀ (q e : Nat), e + q + 1 = wn a → w41_4 (q + 1) t (jI (sumE a e)) (jI (e : Int)) M P := by
    intro q
    induction q with
    | zero =>
      intro e he
      refine ⟨kd_T hL ht, br_t ?_ ?_⟩
      · rw [hA.1, show (1 : Int32) = jI 1 from rfl, jI_add, jI_le (by omega) (by omega) (by omega) (by omega)]; omega
      · rw [show wn a - 1 = e by omega] at hP; exact hP
    | succ q ih =>
      intro e he
      have ee : jI (e : Int) + 1 = jI ((e + 1 : Nat) : Int) := by rw [show (1 : Int32) = jI 1 from rfl, jI_add, c_s1]
      refine ⟨kd_T hL ht, br_f ?_ ⟨kd_T hL ht, ?_⟩⟩
      · rw [hA.1, ee, jI_le (by omega) (by omega) (by omega) (by omega)]; omega
      rw [ee]
      refine w42_s hL ht ht hA hA ga ga (by omega) (by omega) ?_
      rw [jI_add]
      exact ih (e + 1) (by omega)
  exact ⟨wn a - 1 + 1, lp (wn a - 1) 0 (by omega)⟩
theorem w43_s {M : MM} {t : Nat} {a : WY} {P : Int32 → MM → Prop} (hL : Lay M) (ht : isT t = true) (hA : TrC M t a) (ga : gW a) (hP : P (jI (lngE a (wn a - 1) : Int)) M) : w43 t M P := by
  have a1 := ga.1
  have a2 := ga.2.1
  have lp : ∀ (q e : Nat), e + q + 1 = wn a → 1 ≤ e → w43_4 (q + 1) t (jI (lngE a e : Int)) (jI (e : Int)) M P := by
    intro q
    induction q with
    | zero =>
      intro e he h1
      refine ⟨kd_T hL ht, br_t ?_ ?_⟩
      · rw [hA.1, show (1 : Int32) = jI 1 from rfl, jI_add, jI_le (by omega) (by omega) (by omega) (by omega)]; omega
      · rw [show wn a - 1 = e by omega] at hP; exact hP
    | succ q ih =>
      intro e he h1
      have hl := lngE_le a e
      have ll : lngE a e < e := by
        have := lngE_lt a (e - 1)
        rw [show e - 1 + 1 = e by omega] at this
        omega
      have ee : jI (e : Int) + 1 = jI ((e + 1 : Nat) : Int) := by rw [show (1 : Int32) = jI 1 from rfl, jI_add, c_s1]
      have el : jI (lngE a e : Int) + 1 = jI ((lngE a e + 1 : Nat) : Int) := by rw [show (1 : Int32) = jI 1 from rfl, jI_add, c_s1]
      have b1 := qd_b ga ga (show e < wn a by omega) (show e + 1 < wn a by omega)
      have b2 := qd_b ga ga (show lngE a e < wn a by omega) (show lngE a e + 1 < wn a by omega)
      have nx := ih (e + 1) (by omega) (by omega)
      refine ⟨kd_T hL ht, br_f ?_ ⟨kd_T hL ht, ?_⟩⟩
      · rw [hA.1, ee, jI_le (by omega) (by omega) (by omega) (by omega)]; omega
      rw [ee, el]
      refine w42_s hL ht ht hA hA ga ga (by omega) (by omega) ⟨kd_T hL ht, w42_s hL ht ht hA hA ga ga (by omega) (by omega) ?_⟩
      rw [jI_le (by omega) (by omega) (by omega) (by omega)]
      have eu : lngE a (e + 1) = if qd a e a (e + 1) ≤ qd a (lngE a e) a (lngE a e + 1) then lngE a e else e := rfl
      refine ⟨fun z => ?_, fun z => ?_⟩
      · rw [eu, if_pos z] at nx
        unfold w43_37
        rw [ee]
        exact nx
      · rw [eu, if_neg z] at nx
        unfold w43_37
        rw [ee]
        exact nx
  have l1 : lngE a 1 = 0 := by
    have h : lngE a 1 ≤ 0 := lngE_lt a 0
    omega
  have := lp (wn a - 2) 1 (by omega) (by omega)
  rw [l1] at this
  exact ⟨wn a - 2 + 1, this⟩
