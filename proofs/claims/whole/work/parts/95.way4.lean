/-! way: the class's question -/
theorem w39_107_s {M : MM} {k w : Nat} {W : Nat → WY} {l3 s0 : Int32} {z : Int} {P : Int32 → MM → Prop} (hL : Lay M) (hW : CWs M k W) (hw : w < k) (hs : s0 = jI z) (z0 : 0 ≤ z) (z7 : z ≤ 7) (h1 : z < wn (W w) → P (jI (if l3 = 0 then wy (W w) z.toNat else wx (W w) z.toNat)) (sI M 0 10 0)) (h2 : ¬ z < wn (W w) → P (-1) (sI M 0 10 2)) : w39_107 0 l3 (some (191 + 3 * w)) s0 M P := by
  have k4 := hW.2.1
  have qw := hW.2.2 w hw
  have a2 := qw.1.2.1
  have ht : isT (191 + 3 * w) = true := isT_way (by omega)
  subst hs
  refine ⟨_, rfl, kd_T hL ht, ?_⟩
  rw [qw.2.1, jI_lt (by omega) (by omega) (by omega) (by omega)]
  refine ⟨fun y => ?_, fun y => ⟨kd_0 hL, kd_0 hL, h2 y⟩⟩
  have hp := h1 y
  have ez : z = ((z.toNat : Nat) : Int) := by omega
  have hi : z.toNat < wn (W w) := by omega
  generalize z.toNat = i at *
  subst ez
  have e := qw.2.2 i hi
  rw [jI_cn (by omega)]
  refine ⟨fun x => ⟨kd_T hL ht, _, rfy_T hL ht, inyj hL ht (by omega), 0, rfl, kd_0 hL, kd_0 hL, ?_⟩, fun x => ⟨kd_T hL ht, _, rfx_T hL ht, inxj hL ht (by omega), 0, rfl, kd_0 hL, kd_0 hL, ?_⟩⟩
  · rw [if_pos x] at hp; rw [e.2]; exact hp
  · rw [if_neg x] at hp; rw [e.1]; exact hp
