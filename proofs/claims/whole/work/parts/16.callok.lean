/-! ===== one step of the small machine is steps of the machine ===== -/
section SOK
variable {p : Program} {l : Launch} {e : Env} {R : Room} {s : State} {m : MethodId} {args : Array Value} {below : List Frame} {meth : Method} {c : Code} {Q : State → Prop} {B b sl : Nat} {sx : Nat → Int32} {D : va_G} {cA : Nat → ClassId} {cc : ByteArray} {own nL sz0 tt0 mc0 ms0 : Nat}
variable {cw : Nat → List VV → MM → (Option VV → MM → Prop) → Prop} {nx : Nat → LL → List VV → MM → Prop} {rt : Option VV → MM → Prop}
theorem WG.pre {pc : Nat} {K : LL} {st : List VV} {M : MM} (h : (mS M).length ≤ sz0 + mc0 → mT M ≤ tt0 + ms0 → WG p l e R s m args below meth c Q B b D cA nL sz0 tt0 mc0 ms0 pc K st M) : WG p l e R s m args below meth c Q B b D cA nL sz0 tt0 mc0 ms0 pc K st M := fun h0 h1 h2 h3 h4 => h h2 h4 h0 h1 h2 h3 h4
/-- what a call of the small machine gives of the machine -/
def CallG (l : Launch) (R : Room) (B b sl : Nat) (sx : Nat → Int32) (D : va_G) (cA : Nat → ClassId) (cw : Nat → List VV → MM → (Option VV → MM → Prop) → Prop) : Prop :=
  ∀ (j : Nat) (as : List VV) (M : MM) (P : Option VV → MM → Prop) (q : MQ7) (y : MethodName × ByteArray × Option FieldType × Nat × Nat × Nat × Nat), as2 MIg j = some q → as2 YYg j = some y → cw j as M P →
    ∃ rm : Room, Met l y.1 (Cond.code y.1 y.2.1 q.2.2.1 y.2.2.1 :: lw_good) rm (PcW B b sl sx D cA as M) (QcW B b sl sx D cA (rtW q M P)) q.2.2.2.2.1 q.2.2.2.2.2.1 (fun a : Nat => B ≤ a) ∧ rm.cells = q.2.2.2.2.1 ∧ rm.slots = q.2.2.2.2.2.1 ∧ rm.frames + 1 ≤ R.frames ∧ 8 + (q.2.2.1 + 11) + rm.locals ≤ R.locals
theorem call_ok {kd0 : Nat} {ix pc : Nat} {K : LL} {st : List VV} {M : MM} (F : FR p s m args c B b sl sx D cA cc own nL) (hsz : s.heap.size = B + sz0) (hRc : mc0 ≤ R.cells) (hRs : ms0 ≤ R.slots) (hC : CallG l R B b sl sx D cA cw) (hnx : ∀ pc' K' st' M', nx pc' K' st' M' → WG p l e R s m args below meth c Q B b D cA nL sz0 tt0 mc0 ms0 pc' K' st' M')
    (hix : ix < 1000) (hd : (kd0 = 0 ∧ decode cc pc = .ok (.invokevirtual ix, 3)) ∨ (kd0 = 1 ∧ decode cc pc = .ok (.invokestatic ix, 3)) ∨ (kd0 = 2 ∧ decode cc pc = .ok (.invokespecial ix, 3)))
    (hk : kdChk kd0 own ix = true)
    (h : zcall own ix sz0 tt0 mc0 ms0 cw st M (fun st' M' => nx (pc + 3) K st' M')) : WG p l e R s m args below meth c Q B b D cA nL sz0 tt0 mc0 ms0 pc K st M := by
  unfold zcall at h
  cases h1 : as2 MLg (own * 1000 + ix) with
  | none => rw [h1] at h; cases h
  | some v =>
    obtain ⟨j, ne, ps⟩ := v
    rw [h1] at h
    dsimp only at h
    cases h2 : as2 MIg j with
    | none => rw [h2] at h; cases h
    | some q =>
      rw [h2] at h
      dsimp only at h
      cases h3 : pops q.1 [] st with
      | none => rw [h3] at h; cases h
      | some v =>
        obtain ⟨as, r⟩ := v
        rw [h3] at h
        dsimp only at h
        obtain ⟨hr, h⟩ := cond_t h
        have hr : cs r ≤ 8 := Nat.le_of_ble_eq_true hr
        obtain ⟨xs, e1, e2, e3⟩ := pops_spec q.1 [] st as r h3
        rw [List.append_nil] at e2
        have e4 : xs = as.reverse := by rw [e2, List.reverse_reverse]
        subst e4
        rw [List.length_reverse] at e3
        subst e1
        obtain ⟨y, hy, hlk⟩ := mlOk hix h1
        obtain ⟨y1, y2, y3, y4, y5, y6, y7, y8⟩ := yyOk h2 hy
        obtain ⟨k0, k1, k2⟩ := kdChk_of hk h1 h2 hy
        have hrec : q.2.1 = 1 → ∃ o as', as = vR (some o) :: as' ∧ kd M o q.2.2.2.1 := by
          intro hq1
          unfold recvOk at h
          rw [hq1] at h
          dsimp only [Nat.beq, cond] at h
          cases as with
          | nil => cases h
          | cons v as' =>
            rcases v with x | x | x | x
            · cases h
            · cases h
            · cases x with
              | none => cases h
              | some o => exact ⟨o, as', rfl, h.1⟩
            · cases h
        have hcal : callOk M q sz0 tt0 mc0 ms0 (cw j as M (fun v M' => nx (pc + 3) K (pushO v r) M')) := by
          unfold recvOk at h
          cases hb : Nat.beq q.2.1 1 with
          | false => rw [hb] at h; exact h
          | true =>
            rw [hb] at h
            dsimp only [cond] at h
            split at h
            · exact h.2
            · cases h
        have hcw : ((mS M).length ≤ sz0 + mc0 → mT M ≤ tt0 + ms0 → (mS M).length + q.2.2.2.2.1 ≤ sz0 + mc0 ∧ mT M + q.2.2.2.2.2.1 ≤ tt0 + ms0) ∧ cw j as M (fun v M' => nx (pc + 3) K (pushO v r) M') := by
          unfold callOk at hcal
          cases hb : (Nat.beq q.2.2.2.2.1 0 && Nat.beq q.2.2.2.2.2.1 0) with
          | true =>
            rw [hb] at hcal
            rw [Bool.and_eq_true] at hb
            have z1 := Nat.eq_of_beq_eq_true hb.1
            have z2 := Nat.eq_of_beq_eq_true hb.2
            exact ⟨fun g1 g2 => ⟨by omega, by omega⟩, hcal⟩
          | false => rw [hb] at hcal; exact ⟨fun _ _ => ⟨hcal.1, hcal.2.1⟩, hcal.2.2⟩
        obtain ⟨rm, hM, r1, r2, r3, r4⟩ := hC j as M _ q y h2 hy hcw.2
        refine WG.pre fun g1 g2 => ?_
        obtain ⟨b1, b2⟩ := hcw.1 g1 g2
        have hP : ∀ v M', rtW q M (fun v M' => nx (pc + 3) K (pushO v r) M') v M' → (mS M').length = (mS M).length + q.2.2.2.2.1 ∧ mT M' = mT M + q.2.2.2.2.2.1 ∧ WG p l e R s m args below meth c Q B b D cA nL sz0 tt0 mc0 ms0 (pc + 3) K (pushO v r) M' := fun v M' hv => ⟨hv.2.1, hv.2.2.1, hnx _ _ _ _ hv.2.2.2⟩
        rcases hd with ⟨rfl, hd⟩ | ⟨rfl, hd⟩ | ⟨rfl, hd⟩
        · obtain ⟨w1, w2, w3⟩ := k0 rfl
          obtain ⟨o, as', rfl, hko⟩ := hrec w1
          rcases y8 with ⟨-, z2, z3, z4, z5⟩ | ⟨z, -⟩
          · have hsel : Cond.selects y.1.cls y.1 y.1 ∈ lw_good := by
              rcases z5 with z | z
              · exact absurd z.1 w2
              · exact z.2
            have hlk2 : Cond.methodLink (cN own) ix y.1 ∈ lw_good := by
              rcases hlk with z | z
              · exact z.2
              · exact absurd w3 z.1
            have e5 : (vR (some o) :: as').reverse ++ r = as'.reverse ++ vR (some o) :: r := by simp
            rw [e5]
            exact wg_callV F hsz hRc hRs b1 b2 hM ⟨y1, y2, y4, r1, r2, r3, r4⟩ z2 (by rw [y5, rxOk z2]) hko hlk2 z4 hsel (by simp at e3; omega) hr hd hP
          · rw [w1] at z; cases z
        · obtain ⟨w1, w3⟩ := k1 rfl
          have hlk2 : Cond.methodLink (cN own) ix y.1 ∈ lw_good := by
            rcases hlk with z | z
            · exact z.2
            · exact absurd w3 z.1
          rcases y8 with ⟨z, -⟩ | ⟨z1, z2⟩
          · rw [w1] at z; cases z
          · exact wg_callS F hsz hRc hRs b1 b2 hM ⟨y1, y2, y4, r1, r2, r3, r4⟩ hlk2 z2 (by omega) hr hd hP
        · obtain ⟨w1, w2, w3⟩ := k2 rfl
          obtain ⟨o, as', rfl, hko⟩ := hrec w1
          have hret : y.2.2.1 = none := by
            rw [w3] at y7
            generalize y.2.2.1 = rr at y7
            cases rr with
            | none => rfl
            | some t => cases y7
          rw [hret] at hM y1
          have e5 : (vR (some o) :: as').reverse ++ r = as'.reverse ++ vR (some o) :: r := by simp
          rw [e5]
          rcases y8 with ⟨-, z2, z3, z4, z5⟩ | ⟨z, -⟩
          · have w2 : y.1.name = "<init>" := by
              rcases z5 with z | z
              · exact z.2
              · exact absurd w2 z.1
            rcases hlk with z | z
            · exact wg_callI F hsz hRc hRs b1 b2 hM ⟨y1, y2, y4, r1, r2, r3, r4⟩ w2 z.2 z4 (by simp at e3; omega) hr hd hP
            · exact wg_callIN F hsz hRc hRs b1 b2 hM ⟨y1, y2, y4, r1, r2, r3, r4⟩ w2 z.2 z4 (by simp at e3; omega) hr hd hP
          · rw [w1] at z; cases z
end SOK
