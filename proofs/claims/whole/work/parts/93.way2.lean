/-! way: the reference's loop -/
theorem w186_s {M : MM} {k w e : Nat} {W : Nat → WY} {P : Int32 → MM → Prop} (hL : Lay M) (hW : RWs M k W) (hw : w < k) (he : e + 1 < wn (W w)) (hP : P (jI (qd (W w) e (W w) (e + 1))) M) : w186 203 (jI (w : Int)) (jI (e : Int)) M P := by
  refine ⟨kd_203 hL, w184_q hL hW hw (by omega) ⟨kd_203 hL, w185_q hL hW hw (by omega) ⟨kd_203 hL, ?_⟩⟩⟩
  rw [show jI (e : Int) + 1 = jI ((e + 1 : Nat) : Int) by rw [show (1 : Int32) = jI 1 from rfl, jI_add, c_s1]]
  refine w184_q hL hW hw he ⟨kd_203 hL, w185_q hL hW hw he ?_⟩
  unfold w187
  rw [jI_sub, jI_sub, jI_mul, jI_mul, jI_add]
  exact hP
theorem w181_115_s {M : MM} {k w : Nat} {W : Nat → WY} {l2 : Int32} {P : Int32 → MM → Prop} (hL : Lay M) (hW : RWs M k W) (hw : w < k) (hP : P (if l2 = 0 then jI (wn (W w) : Int) else if l2 = 1 then jI (sumE (W w) (wn (W w) - 1)) else jI (lngE (W w) (wn (W w) - 1) : Int)) (sI M 203 9 0)) :
    ∀ (q e : Nat), e + q + 1 = wn (W w) → w181_115 (q + 1) 203 (jI (w : Int)) l2 (jI (sumE (W w) e)) (jI (lngE (W w) e : Int)) (jI (e : Int)) M P := by
  have ga := (hW.2.2 w hw).1
  have a1 := ga.1
  have a2 := ga.2.1
  intro q
  induction q with
  | zero =>
    intro e he
    refine ⟨kd_203 hL, w180_q hL hW hw (br_t ?_ ⟨fun z => ⟨fun y => ⟨203, rfl, kd_203 hL, kd_203 hL, ?_⟩, fun y => ⟨203, rfl, kd_203 hL, kd_203 hL, ?_⟩⟩, fun z => ⟨kd_203 hL, w180_q hL hW hw ⟨203, rfl, kd_203 hL, kd_203 hL, ?_⟩⟩⟩)⟩
    · rw [show (1 : Int32) = jI 1 from rfl, jI_add, jI_le (by omega) (by omega) (by omega) (by omega)]; omega
    · rw [if_neg z, if_neg y, show wn (W w) - 1 = e by omega] at hP; exact hP
    · rw [if_neg z, if_pos (Classical.not_not.mp y), show wn (W w) - 1 = e by omega] at hP; exact hP
    · rw [if_pos (Classical.not_not.mp z)] at hP; exact hP
  | succ q ih =>
    intro e he
    have hl := lngE_le (W w) e
    have ee : jI (e : Int) + 1 = jI ((e + 1 : Nat) : Int) := by rw [show (1 : Int32) = jI 1 from rfl, jI_add, c_s1]
    have b1 := qd_b ga ga (show e < wn (W w) by omega) (show e + 1 < wn (W w) by omega)
    have b2 := qd_b ga ga (show lngE (W w) e < wn (W w) by omega) (show lngE (W w) e + 1 < wn (W w) by omega)
    have nx := ih (e + 1) (by omega)
    rw [show sumE (W w) (e + 1) = sumE (W w) e + qd (W w) e (W w) (e + 1) from rfl] at nx
    have eu : lngE (W w) (e + 1) = if qd (W w) e (W w) (e + 1) ≤ qd (W w) (lngE (W w) e) (W w) (lngE (W w) e + 1) then lngE (W w) e else e := rfl
    refine ⟨kd_203 hL, w180_q hL hW hw (br_f ?_ ⟨kd_203 hL, w186_s hL hW hw (by omega) ⟨kd_203 hL, w186_s hL hW hw (by omega) ⟨kd_203 hL, w186_s hL hW hw (by omega) ?_⟩⟩⟩)⟩
    · rw [ee, jI_le (by omega) (by omega) (by omega) (by omega)]; omega
    rw [jI_le (by omega) (by omega) (by omega) (by omega)]
    refine ⟨fun z => ?_, fun z => ?_⟩
    · rw [eu, if_pos z] at nx
      unfold w181_161
      rw [ee, jI_add]
      exact nx
    · rw [eu, if_neg z] at nx
      unfold w181_161
      rw [ee, jI_add]
      exact nx
