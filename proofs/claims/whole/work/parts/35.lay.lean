/-! ===== the memory's lay: shapes and references that never change ===== -/
def fxR (o k : Nat) : Bool := !((Nat.beq o 2 && Nat.beq k 2) || (Nat.beq k 10 && Nat.ble 63 o && Nat.ble o 184))
def SHl : List (Nat × Nat) := [(9, 19), (13, 700), (6, 9), (16, 4), (8, 4), (11, 8), (11, 8), (8, 4), (11, 8), (11, 8), (8, 4), (11, 8), (11, 8), (8, 4), (11, 8), (11, 8), (8, 4), (11, 8), (11, 8), (16, 4), (0, 4), (16, 10), (11, 10), (8, 4), (11, 8), (11, 8), (8, 4), (11, 8), (11, 8), (8, 4), (11, 8), (11, 8), (8, 4), (11, 8), (11, 8), (8, 4), (11, 8), (11, 8), (8, 4), (11, 8), (11, 8), (8, 4), (11, 8), (11, 8), (8, 4), (11, 8), (11, 8), (8, 4), (11, 8), (11, 8), (8, 4), (11, 8), (11, 8), (13, 256), (3, 2), (3, 2), (3, 2), (3, 2), (5, 3), (1, 6), (15, 112), (11, 16), (11, 16), (7, 11), (7, 11), (7, 11), (7, 11), (7, 11), (7, 11), (7, 11), (7, 11), (7, 11), (7, 11), (7, 11), (7, 11), (7, 11), (7, 11), (7, 11), (7, 11), (7, 11), (7, 11), (7, 11), (7, 11), (7, 11), (7, 11), (7, 11), (7, 11), (7, 11), (7, 11), (7, 11), (7, 11), (7, 11), (7, 11), (7, 11), (7, 11), (7, 11), (7, 11), (7, 11), (7, 11), (7, 11), (7, 11), (7, 11), (7, 11), (7, 11), (7, 11), (7, 11), (7, 11), (7, 11), (7, 11), (7, 11), (7, 11), (7, 11), (7, 11), (7, 11), (7, 11), (7, 11), (7, 11), (7, 11), (7, 11), (7, 11), (7, 11), (7, 11), (7, 11), (7, 11), (7, 11), (7, 11), (7, 11), (7, 11), (7, 11), (7, 11), (7, 11), (7, 11), (7, 11), (7, 11), (7, 11), (7, 11), (7, 11), (7, 11), (7, 11), (7, 11), (7, 11), (7, 11), (7, 11), (7, 11), (7, 11), (7, 11), (7, 11), (7, 11), (7, 11), (7, 11), (7, 11), (7, 11), (7, 11), (7, 11), (7, 11), (7, 11), (7, 11), (7, 11), (7, 11), (7, 11), (7, 11), (7, 11), (7, 11), (7, 11), (7, 11), (7, 11), (7, 11), (7, 11), (7, 11), (7, 11), (7, 11), (7, 11), (7, 11), (7, 11), (7, 11), (4, 9), (11, 64), (11, 64), (11, 64), (11, 64), (11, 64), (2, 5), (12, 506), (12, 506), (7, 11), (8, 4), (11, 8), (11, 8), (8, 4), (11, 8), (11, 8), (8, 4), (11, 8), (11, 8), (8, 4), (11, 8), (11, 8), (8, 4), (11, 8), (11, 8), (8, 4), (11, 8), (11, 8), (10, 71), (11, 68), (11, 68), (11, 680), (12, 4), (12, 4), (11, 700), (11, 8), (11, 8), (11, 8), (11, 8), (14, 128), (14, 128), (14, 128), (12, 128), (12, 128), (12, 128), (12, 128), (12, 128), (12, 128), (11, 128), (12, 128), (14, 64), (11, 64), (12, 640), (12, 640), (11, 16), (11, 16), (11, 64), (12, 64), (12, 64), (14, 64), (13, 400)]
set_option maxRecDepth 100000 in
theorem SHl_eq : mS MI = SHl := by decide +kernel
def RFl : List (Nat × Nat × Nat) := [(0, 0, 1), (0, 2, 2), (0, 5, 19), (0, 7, 20), (0, 8, 53), (0, 11, 54), (0, 12, 55), (0, 13, 56), (0, 14, 57), (0, 15, 58), (0, 16, 184), (0, 17, 185), (0, 18, 188), (2, 0, 3), (20, 0, 21), (20, 1, 22), (58, 0, 59), (58, 1, 175), (58, 2, 181), (59, 0, 60), (59, 3, 61), (59, 4, 62), (181, 0, 182), (181, 1, 183), (175, 0, 176), (175, 1, 177), (175, 2, 178), (175, 3, 179), (175, 4, 180), (203, 0, 204), (203, 1, 205), (203, 2, 206), (203, 3, 207), (203, 4, 208), (203, 7, 209), (203, 23, 210), (203, 24, 211), (203, 25, 212), (203, 26, 213), (203, 34, 214), (203, 35, 215), (203, 36, 216), (203, 37, 217), (203, 38, 218), (203, 39, 219), (203, 40, 220), (203, 41, 221), (203, 42, 222), (203, 43, 223), (203, 44, 224), (203, 45, 225), (203, 46, 226), (203, 47, 227), (203, 48, 228), (203, 57, 229), (203, 58, 230), (203, 60, 231), (203, 61, 232), (203, 62, 233), (203, 67, 234), (203, 68, 235), (4, 2, 5), (4, 3, 6), (7, 2, 8), (7, 3, 9), (10, 2, 11), (10, 3, 12), (13, 2, 14), (13, 3, 15), (16, 2, 17), (16, 3, 18), (23, 2, 24), (23, 3, 25), (26, 2, 27), (26, 3, 28), (29, 2, 30), (29, 3, 31), (32, 2, 33), (32, 3, 34), (35, 2, 36), (35, 3, 37), (38, 2, 39), (38, 3, 40), (41, 2, 42), (41, 3, 43), (44, 2, 45), (44, 3, 46), (47, 2, 48), (47, 3, 49), (50, 2, 51), (50, 3, 52), (185, 2, 186), (185, 3, 187), (188, 2, 189), (188, 3, 190), (191, 2, 192), (191, 3, 193), (194, 2, 195), (194, 3, 196), (197, 2, 198), (197, 3, 199), (200, 2, 201), (200, 3, 202), (19, 0, 191), (3, 0, 7), (19, 1, 194), (3, 1, 10), (19, 2, 197), (3, 2, 13), (19, 3, 200), (3, 3, 16), (21, 0, 23), (21, 1, 26), (21, 2, 29), (21, 3, 32), (21, 4, 35), (21, 5, 38), (21, 6, 41), (21, 7, 44), (21, 8, 47), (21, 9, 50), (60, 0, 63), (60, 1, 64), (60, 2, 65), (60, 3, 66), (60, 4, 67), (60, 5, 68), (60, 6, 69), (60, 7, 70), (60, 8, 71), (60, 9, 72), (60, 10, 73), (60, 11, 74), (60, 12, 75), (60, 13, 76), (60, 14, 77), (60, 15, 78), (60, 16, 79), (60, 17, 80), (60, 18, 81), (60, 19, 82), (60, 20, 83), (60, 21, 84), (60, 22, 85), (60, 23, 86), (60, 24, 87), (60, 25, 88), (60, 26, 89), (60, 27, 90), (60, 28, 91), (60, 29, 92), (60, 30, 93), (60, 31, 94), (60, 32, 95), (60, 33, 96), (60, 34, 97), (60, 35, 98), (60, 36, 99), (60, 37, 100), (60, 38, 101), (60, 39, 102), (60, 40, 103), (60, 41, 104), (60, 42, 105), (60, 43, 106), (60, 44, 107), (60, 45, 108), (60, 46, 109), (60, 47, 110), (60, 48, 111), (60, 49, 112), (60, 50, 113), (60, 51, 114), (60, 52, 115), (60, 53, 116), (60, 54, 117), (60, 55, 118), (60, 56, 119), (60, 57, 120), (60, 58, 121), (60, 59, 122), (60, 60, 123), (60, 61, 124), (60, 62, 125), (60, 63, 126), (60, 64, 127), (60, 65, 128), (60, 66, 129), (60, 67, 130), (60, 68, 131), (60, 69, 132), (60, 70, 133), (60, 71, 134), (60, 72, 135), (60, 73, 136), (60, 74, 137), (60, 75, 138), (60, 76, 139), (60, 77, 140), (60, 78, 141), (60, 79, 142), (60, 80, 143), (60, 81, 144), (60, 82, 145), (60, 83, 146), (60, 84, 147), (60, 85, 148), (60, 86, 149), (60, 87, 150), (60, 88, 151), (60, 89, 152), (60, 90, 153), (60, 91, 154), (60, 92, 155), (60, 93, 156), (60, 94, 157), (60, 95, 158), (60, 96, 159), (60, 97, 160), (60, 98, 161), (60, 99, 162), (60, 100, 163), (60, 101, 164), (60, 102, 165), (60, 103, 166), (60, 104, 167), (60, 105, 168), (60, 106, 169), (60, 107, 170), (60, 108, 171), (60, 109, 172), (60, 110, 173), (60, 111, 174)]
set_option maxRecDepth 100000 in
theorem RFl_ok : RFl.all (fun e => decide (mR MI e.1 e.2.1 = some e.2.2)) = true := by decide +kernel
theorem rfI {o k v : Nat} (i : Nat) (h : RFl[i]? = some (o, k, v)) : mR MI o k = some v := of_decide_eq_true (List.all_eq_true.mp RFl_ok (o, k, v) (List.mem_of_getElem? h))
/-- shapes as made, references as made but those of Reader.latest and Side.lowest -/
def Lay (M : MM) : Prop := mS M = SHl ∧ ∀ o k, fxR o k = true → mR M o k = mR MI o k
theorem lay_MI : Lay MI := ⟨SHl_eq, fun _ _ _ => rfl⟩
theorem lay_sI {M : MM} {o k : Nat} {v : Int32} (h : Lay M) : Lay (sI M o k v) := h
theorem lay_sL {M : MM} {o k : Nat} {v : Int64} (h : Lay M) : Lay (sL M o k v) := h
theorem lay_sLr {M : MM} {o : Nat} {f : Nat → Int64} (h : Lay M) : Lay (sLr M o f) := h
theorem lay_sR {M : MM} {o k : Nat} {v : Option Nat} (h : Lay M) (e : fxR o k = false) : Lay (sR M o k v) := by
  refine ⟨h.1, fun o' k' q => ?_⟩
  show up2 _ o k v o' k' = _
  unfold up2
  by_cases e1 : o' = o
  · by_cases e2 : k' = k
    · subst e1; subst e2; rw [e] at q; cases q
    · rw [if_pos e1, if_neg e2]; exact h.2 o' k' q
  · rw [if_neg e1]; exact h.2 o' k' q
theorem rfM {o k v : Nat} (h : (o, k, v) ∈ RFl) : mR MI o k = some v := of_decide_eq_true (List.all_eq_true.mp RFl_ok (o, k, v) h)
theorem y_kd {M : MM} {o c : Nat} (h : Lay M) (e : SHl[o]? = some (c, nF c)) : kd M o c := by unfold kd; rw [h.1]; exact e
theorem y_sh {M : MM} {o : Nat} {c : Nat × Nat} (h : Lay M) (e : SHl[o]? = some c) : (mS M)[o]? = some c := by rw [h.1]; exact e
theorem kd_0 {M : MM} (h : Lay M) : kd M 0 9 := y_kd h rfl
theorem kd_2 {M : MM} (h : Lay M) : kd M 2 6 := y_kd h rfl
theorem kd_20 {M : MM} (h : Lay M) : kd M 20 0 := y_kd h rfl
theorem kd_54 {M : MM} (h : Lay M) : kd M 54 3 := y_kd h rfl
theorem kd_55 {M : MM} (h : Lay M) : kd M 55 3 := y_kd h rfl
theorem kd_56 {M : MM} (h : Lay M) : kd M 56 3 := y_kd h rfl
theorem kd_57 {M : MM} (h : Lay M) : kd M 57 3 := y_kd h rfl
theorem kd_58 {M : MM} (h : Lay M) : kd M 58 5 := y_kd h rfl
theorem kd_59 {M : MM} (h : Lay M) : kd M 59 1 := y_kd h rfl
theorem kd_175 {M : MM} (h : Lay M) : kd M 175 4 := y_kd h rfl
theorem kd_181 {M : MM} (h : Lay M) : kd M 181 2 := y_kd h rfl
theorem kd_184 {M : MM} (h : Lay M) : kd M 184 7 := y_kd h rfl
theorem kd_203 {M : MM} (h : Lay M) : kd M 203 10 := y_kd h rfl
theorem sh_1 {M : MM} (h : Lay M) : (mS M)[1]? = some (13, 700) := y_sh h rfl
theorem in_1 {M : MM} (h : Lay M) {j : Nat} (q : j < 700) : inb M 1 13 (nI j) := ⟨700, sh_1 h, nI_in q (by omega)⟩
theorem sh_3 {M : MM} (h : Lay M) : (mS M)[3]? = some (16, 4) := y_sh h rfl
theorem in_3 {M : MM} (h : Lay M) {j : Nat} (q : j < 4) : inb M 3 16 (nI j) := ⟨4, sh_3 h, nI_in q (by omega)⟩
theorem sh_19 {M : MM} (h : Lay M) : (mS M)[19]? = some (16, 4) := y_sh h rfl
theorem in_19 {M : MM} (h : Lay M) {j : Nat} (q : j < 4) : inb M 19 16 (nI j) := ⟨4, sh_19 h, nI_in q (by omega)⟩
theorem sh_21 {M : MM} (h : Lay M) : (mS M)[21]? = some (16, 10) := y_sh h rfl
theorem in_21 {M : MM} (h : Lay M) {j : Nat} (q : j < 10) : inb M 21 16 (nI j) := ⟨10, sh_21 h, nI_in q (by omega)⟩
theorem sh_22 {M : MM} (h : Lay M) : (mS M)[22]? = some (11, 10) := y_sh h rfl
theorem in_22 {M : MM} (h : Lay M) {j : Nat} (q : j < 10) : inb M 22 11 (nI j) := ⟨10, sh_22 h, nI_in q (by omega)⟩
theorem sh_53 {M : MM} (h : Lay M) : (mS M)[53]? = some (13, 256) := y_sh h rfl
theorem in_53 {M : MM} (h : Lay M) {j : Nat} (q : j < 256) : inb M 53 13 (nI j) := ⟨256, sh_53 h, nI_in q (by omega)⟩
theorem sh_60 {M : MM} (h : Lay M) : (mS M)[60]? = some (15, 112) := y_sh h rfl
theorem in_60 {M : MM} (h : Lay M) {j : Nat} (q : j < 112) : inb M 60 15 (nI j) := ⟨112, sh_60 h, nI_in q (by omega)⟩
theorem sh_61 {M : MM} (h : Lay M) : (mS M)[61]? = some (11, 16) := y_sh h rfl
theorem in_61 {M : MM} (h : Lay M) {j : Nat} (q : j < 16) : inb M 61 11 (nI j) := ⟨16, sh_61 h, nI_in q (by omega)⟩
theorem sh_62 {M : MM} (h : Lay M) : (mS M)[62]? = some (11, 16) := y_sh h rfl
theorem in_62 {M : MM} (h : Lay M) {j : Nat} (q : j < 16) : inb M 62 11 (nI j) := ⟨16, sh_62 h, nI_in q (by omega)⟩
theorem sh_176 {M : MM} (h : Lay M) : (mS M)[176]? = some (11, 64) := y_sh h rfl
theorem in_176 {M : MM} (h : Lay M) {j : Nat} (q : j < 64) : inb M 176 11 (nI j) := ⟨64, sh_176 h, nI_in q (by omega)⟩
theorem sh_177 {M : MM} (h : Lay M) : (mS M)[177]? = some (11, 64) := y_sh h rfl
theorem in_177 {M : MM} (h : Lay M) {j : Nat} (q : j < 64) : inb M 177 11 (nI j) := ⟨64, sh_177 h, nI_in q (by omega)⟩
theorem sh_178 {M : MM} (h : Lay M) : (mS M)[178]? = some (11, 64) := y_sh h rfl
theorem in_178 {M : MM} (h : Lay M) {j : Nat} (q : j < 64) : inb M 178 11 (nI j) := ⟨64, sh_178 h, nI_in q (by omega)⟩
theorem sh_179 {M : MM} (h : Lay M) : (mS M)[179]? = some (11, 64) := y_sh h rfl
theorem in_179 {M : MM} (h : Lay M) {j : Nat} (q : j < 64) : inb M 179 11 (nI j) := ⟨64, sh_179 h, nI_in q (by omega)⟩
theorem sh_180 {M : MM} (h : Lay M) : (mS M)[180]? = some (11, 64) := y_sh h rfl
theorem in_180 {M : MM} (h : Lay M) {j : Nat} (q : j < 64) : inb M 180 11 (nI j) := ⟨64, sh_180 h, nI_in q (by omega)⟩
theorem sh_182 {M : MM} (h : Lay M) : (mS M)[182]? = some (12, 506) := y_sh h rfl
theorem in_182 {M : MM} (h : Lay M) {j : Nat} (q : j < 506) : inb M 182 12 (nI j) := ⟨506, sh_182 h, nI_in q (by omega)⟩
theorem sh_183 {M : MM} (h : Lay M) : (mS M)[183]? = some (12, 506) := y_sh h rfl
theorem in_183 {M : MM} (h : Lay M) {j : Nat} (q : j < 506) : inb M 183 12 (nI j) := ⟨506, sh_183 h, nI_in q (by omega)⟩
theorem sh_204 {M : MM} (h : Lay M) : (mS M)[204]? = some (11, 68) := y_sh h rfl
theorem in_204 {M : MM} (h : Lay M) {j : Nat} (q : j < 68) : inb M 204 11 (nI j) := ⟨68, sh_204 h, nI_in q (by omega)⟩
theorem sh_205 {M : MM} (h : Lay M) : (mS M)[205]? = some (11, 68) := y_sh h rfl
theorem in_205 {M : MM} (h : Lay M) {j : Nat} (q : j < 68) : inb M 205 11 (nI j) := ⟨68, sh_205 h, nI_in q (by omega)⟩
theorem sh_206 {M : MM} (h : Lay M) : (mS M)[206]? = some (11, 680) := y_sh h rfl
theorem in_206 {M : MM} (h : Lay M) {j : Nat} (q : j < 680) : inb M 206 11 (nI j) := ⟨680, sh_206 h, nI_in q (by omega)⟩
theorem sh_207 {M : MM} (h : Lay M) : (mS M)[207]? = some (12, 4) := y_sh h rfl
theorem in_207 {M : MM} (h : Lay M) {j : Nat} (q : j < 4) : inb M 207 12 (nI j) := ⟨4, sh_207 h, nI_in q (by omega)⟩
theorem sh_208 {M : MM} (h : Lay M) : (mS M)[208]? = some (12, 4) := y_sh h rfl
theorem in_208 {M : MM} (h : Lay M) {j : Nat} (q : j < 4) : inb M 208 12 (nI j) := ⟨4, sh_208 h, nI_in q (by omega)⟩
theorem sh_209 {M : MM} (h : Lay M) : (mS M)[209]? = some (11, 700) := y_sh h rfl
theorem in_209 {M : MM} (h : Lay M) {j : Nat} (q : j < 700) : inb M 209 11 (nI j) := ⟨700, sh_209 h, nI_in q (by omega)⟩
theorem sh_210 {M : MM} (h : Lay M) : (mS M)[210]? = some (11, 8) := y_sh h rfl
theorem in_210 {M : MM} (h : Lay M) {j : Nat} (q : j < 8) : inb M 210 11 (nI j) := ⟨8, sh_210 h, nI_in q (by omega)⟩
theorem sh_211 {M : MM} (h : Lay M) : (mS M)[211]? = some (11, 8) := y_sh h rfl
theorem in_211 {M : MM} (h : Lay M) {j : Nat} (q : j < 8) : inb M 211 11 (nI j) := ⟨8, sh_211 h, nI_in q (by omega)⟩
theorem sh_212 {M : MM} (h : Lay M) : (mS M)[212]? = some (11, 8) := y_sh h rfl
theorem in_212 {M : MM} (h : Lay M) {j : Nat} (q : j < 8) : inb M 212 11 (nI j) := ⟨8, sh_212 h, nI_in q (by omega)⟩
theorem sh_213 {M : MM} (h : Lay M) : (mS M)[213]? = some (11, 8) := y_sh h rfl
theorem in_213 {M : MM} (h : Lay M) {j : Nat} (q : j < 8) : inb M 213 11 (nI j) := ⟨8, sh_213 h, nI_in q (by omega)⟩
theorem sh_214 {M : MM} (h : Lay M) : (mS M)[214]? = some (14, 128) := y_sh h rfl
theorem in_214 {M : MM} (h : Lay M) {j : Nat} (q : j < 128) : inb M 214 14 (nI j) := ⟨128, sh_214 h, nI_in q (by omega)⟩
theorem sh_215 {M : MM} (h : Lay M) : (mS M)[215]? = some (14, 128) := y_sh h rfl
theorem in_215 {M : MM} (h : Lay M) {j : Nat} (q : j < 128) : inb M 215 14 (nI j) := ⟨128, sh_215 h, nI_in q (by omega)⟩
theorem sh_216 {M : MM} (h : Lay M) : (mS M)[216]? = some (14, 128) := y_sh h rfl
theorem in_216 {M : MM} (h : Lay M) {j : Nat} (q : j < 128) : inb M 216 14 (nI j) := ⟨128, sh_216 h, nI_in q (by omega)⟩
theorem sh_217 {M : MM} (h : Lay M) : (mS M)[217]? = some (12, 128) := y_sh h rfl
theorem in_217 {M : MM} (h : Lay M) {j : Nat} (q : j < 128) : inb M 217 12 (nI j) := ⟨128, sh_217 h, nI_in q (by omega)⟩
theorem sh_218 {M : MM} (h : Lay M) : (mS M)[218]? = some (12, 128) := y_sh h rfl
theorem in_218 {M : MM} (h : Lay M) {j : Nat} (q : j < 128) : inb M 218 12 (nI j) := ⟨128, sh_218 h, nI_in q (by omega)⟩
theorem sh_219 {M : MM} (h : Lay M) : (mS M)[219]? = some (12, 128) := y_sh h rfl
theorem in_219 {M : MM} (h : Lay M) {j : Nat} (q : j < 128) : inb M 219 12 (nI j) := ⟨128, sh_219 h, nI_in q (by omega)⟩
theorem sh_220 {M : MM} (h : Lay M) : (mS M)[220]? = some (12, 128) := y_sh h rfl
theorem in_220 {M : MM} (h : Lay M) {j : Nat} (q : j < 128) : inb M 220 12 (nI j) := ⟨128, sh_220 h, nI_in q (by omega)⟩
theorem sh_221 {M : MM} (h : Lay M) : (mS M)[221]? = some (12, 128) := y_sh h rfl
theorem in_221 {M : MM} (h : Lay M) {j : Nat} (q : j < 128) : inb M 221 12 (nI j) := ⟨128, sh_221 h, nI_in q (by omega)⟩
theorem sh_222 {M : MM} (h : Lay M) : (mS M)[222]? = some (12, 128) := y_sh h rfl
theorem in_222 {M : MM} (h : Lay M) {j : Nat} (q : j < 128) : inb M 222 12 (nI j) := ⟨128, sh_222 h, nI_in q (by omega)⟩
theorem sh_223 {M : MM} (h : Lay M) : (mS M)[223]? = some (11, 128) := y_sh h rfl
theorem in_223 {M : MM} (h : Lay M) {j : Nat} (q : j < 128) : inb M 223 11 (nI j) := ⟨128, sh_223 h, nI_in q (by omega)⟩
theorem sh_224 {M : MM} (h : Lay M) : (mS M)[224]? = some (12, 128) := y_sh h rfl
theorem in_224 {M : MM} (h : Lay M) {j : Nat} (q : j < 128) : inb M 224 12 (nI j) := ⟨128, sh_224 h, nI_in q (by omega)⟩
theorem sh_225 {M : MM} (h : Lay M) : (mS M)[225]? = some (14, 64) := y_sh h rfl
theorem in_225 {M : MM} (h : Lay M) {j : Nat} (q : j < 64) : inb M 225 14 (nI j) := ⟨64, sh_225 h, nI_in q (by omega)⟩
theorem sh_226 {M : MM} (h : Lay M) : (mS M)[226]? = some (11, 64) := y_sh h rfl
theorem in_226 {M : MM} (h : Lay M) {j : Nat} (q : j < 64) : inb M 226 11 (nI j) := ⟨64, sh_226 h, nI_in q (by omega)⟩
theorem sh_227 {M : MM} (h : Lay M) : (mS M)[227]? = some (12, 640) := y_sh h rfl
theorem in_227 {M : MM} (h : Lay M) {j : Nat} (q : j < 640) : inb M 227 12 (nI j) := ⟨640, sh_227 h, nI_in q (by omega)⟩
theorem sh_228 {M : MM} (h : Lay M) : (mS M)[228]? = some (12, 640) := y_sh h rfl
theorem in_228 {M : MM} (h : Lay M) {j : Nat} (q : j < 640) : inb M 228 12 (nI j) := ⟨640, sh_228 h, nI_in q (by omega)⟩
theorem sh_229 {M : MM} (h : Lay M) : (mS M)[229]? = some (11, 16) := y_sh h rfl
theorem in_229 {M : MM} (h : Lay M) {j : Nat} (q : j < 16) : inb M 229 11 (nI j) := ⟨16, sh_229 h, nI_in q (by omega)⟩
theorem sh_230 {M : MM} (h : Lay M) : (mS M)[230]? = some (11, 16) := y_sh h rfl
theorem in_230 {M : MM} (h : Lay M) {j : Nat} (q : j < 16) : inb M 230 11 (nI j) := ⟨16, sh_230 h, nI_in q (by omega)⟩
theorem sh_231 {M : MM} (h : Lay M) : (mS M)[231]? = some (11, 64) := y_sh h rfl
theorem in_231 {M : MM} (h : Lay M) {j : Nat} (q : j < 64) : inb M 231 11 (nI j) := ⟨64, sh_231 h, nI_in q (by omega)⟩
theorem sh_232 {M : MM} (h : Lay M) : (mS M)[232]? = some (12, 64) := y_sh h rfl
theorem in_232 {M : MM} (h : Lay M) {j : Nat} (q : j < 64) : inb M 232 12 (nI j) := ⟨64, sh_232 h, nI_in q (by omega)⟩
theorem sh_233 {M : MM} (h : Lay M) : (mS M)[233]? = some (12, 64) := y_sh h rfl
theorem in_233 {M : MM} (h : Lay M) {j : Nat} (q : j < 64) : inb M 233 12 (nI j) := ⟨64, sh_233 h, nI_in q (by omega)⟩
theorem sh_234 {M : MM} (h : Lay M) : (mS M)[234]? = some (14, 64) := y_sh h rfl
theorem in_234 {M : MM} (h : Lay M) {j : Nat} (q : j < 64) : inb M 234 14 (nI j) := ⟨64, sh_234 h, nI_in q (by omega)⟩
theorem sh_235 {M : MM} (h : Lay M) : (mS M)[235]? = some (13, 400) := y_sh h rfl
theorem in_235 {M : MM} (h : Lay M) {j : Nat} (q : j < 400) : inb M 235 13 (nI j) := ⟨400, sh_235 h, nI_in q (by omega)⟩
theorem rf_0_0 {M : MM} (h : Lay M) : mR M 0 0 = some 1 := (h.2 0 0 rfl).trans (rfI 0 rfl)
theorem rf_0_2 {M : MM} (h : Lay M) : mR M 0 2 = some 2 := (h.2 0 2 rfl).trans (rfI 1 rfl)
theorem rf_0_5 {M : MM} (h : Lay M) : mR M 0 5 = some 19 := (h.2 0 5 rfl).trans (rfI 2 rfl)
theorem rf_0_7 {M : MM} (h : Lay M) : mR M 0 7 = some 20 := (h.2 0 7 rfl).trans (rfI 3 rfl)
theorem rf_0_8 {M : MM} (h : Lay M) : mR M 0 8 = some 53 := (h.2 0 8 rfl).trans (rfI 4 rfl)
theorem rf_0_11 {M : MM} (h : Lay M) : mR M 0 11 = some 54 := (h.2 0 11 rfl).trans (rfI 5 rfl)
theorem rf_0_12 {M : MM} (h : Lay M) : mR M 0 12 = some 55 := (h.2 0 12 rfl).trans (rfI 6 rfl)
theorem rf_0_13 {M : MM} (h : Lay M) : mR M 0 13 = some 56 := (h.2 0 13 rfl).trans (rfI 7 rfl)
theorem rf_0_14 {M : MM} (h : Lay M) : mR M 0 14 = some 57 := (h.2 0 14 rfl).trans (rfI 8 rfl)
theorem rf_0_15 {M : MM} (h : Lay M) : mR M 0 15 = some 58 := (h.2 0 15 rfl).trans (rfI 9 rfl)
theorem rf_0_16 {M : MM} (h : Lay M) : mR M 0 16 = some 184 := (h.2 0 16 rfl).trans (rfI 10 rfl)
theorem rf_0_17 {M : MM} (h : Lay M) : mR M 0 17 = some 185 := (h.2 0 17 rfl).trans (rfI 11 rfl)
theorem rf_0_18 {M : MM} (h : Lay M) : mR M 0 18 = some 188 := (h.2 0 18 rfl).trans (rfI 12 rfl)
theorem rf_2_0 {M : MM} (h : Lay M) : mR M 2 0 = some 3 := (h.2 2 0 rfl).trans (rfI 13 rfl)
theorem rf_20_0 {M : MM} (h : Lay M) : mR M 20 0 = some 21 := (h.2 20 0 rfl).trans (rfI 14 rfl)
theorem rf_20_1 {M : MM} (h : Lay M) : mR M 20 1 = some 22 := (h.2 20 1 rfl).trans (rfI 15 rfl)
theorem rf_58_0 {M : MM} (h : Lay M) : mR M 58 0 = some 59 := (h.2 58 0 rfl).trans (rfI 16 rfl)
theorem rf_58_1 {M : MM} (h : Lay M) : mR M 58 1 = some 175 := (h.2 58 1 rfl).trans (rfI 17 rfl)
theorem rf_58_2 {M : MM} (h : Lay M) : mR M 58 2 = some 181 := (h.2 58 2 rfl).trans (rfI 18 rfl)
theorem rf_59_0 {M : MM} (h : Lay M) : mR M 59 0 = some 60 := (h.2 59 0 rfl).trans (rfI 19 rfl)
theorem rf_59_3 {M : MM} (h : Lay M) : mR M 59 3 = some 61 := (h.2 59 3 rfl).trans (rfI 20 rfl)
theorem rf_59_4 {M : MM} (h : Lay M) : mR M 59 4 = some 62 := (h.2 59 4 rfl).trans (rfI 21 rfl)
theorem rf_181_0 {M : MM} (h : Lay M) : mR M 181 0 = some 182 := (h.2 181 0 rfl).trans (rfI 22 rfl)
theorem rf_181_1 {M : MM} (h : Lay M) : mR M 181 1 = some 183 := (h.2 181 1 rfl).trans (rfI 23 rfl)
theorem rf_175_0 {M : MM} (h : Lay M) : mR M 175 0 = some 176 := (h.2 175 0 rfl).trans (rfI 24 rfl)
theorem rf_175_1 {M : MM} (h : Lay M) : mR M 175 1 = some 177 := (h.2 175 1 rfl).trans (rfI 25 rfl)
theorem rf_175_2 {M : MM} (h : Lay M) : mR M 175 2 = some 178 := (h.2 175 2 rfl).trans (rfI 26 rfl)
theorem rf_175_3 {M : MM} (h : Lay M) : mR M 175 3 = some 179 := (h.2 175 3 rfl).trans (rfI 27 rfl)
theorem rf_175_4 {M : MM} (h : Lay M) : mR M 175 4 = some 180 := (h.2 175 4 rfl).trans (rfI 28 rfl)
theorem rf_203_0 {M : MM} (h : Lay M) : mR M 203 0 = some 204 := (h.2 203 0 rfl).trans (rfI 29 rfl)
theorem rf_203_1 {M : MM} (h : Lay M) : mR M 203 1 = some 205 := (h.2 203 1 rfl).trans (rfI 30 rfl)
theorem rf_203_2 {M : MM} (h : Lay M) : mR M 203 2 = some 206 := (h.2 203 2 rfl).trans (rfI 31 rfl)
theorem rf_203_3 {M : MM} (h : Lay M) : mR M 203 3 = some 207 := (h.2 203 3 rfl).trans (rfI 32 rfl)
theorem rf_203_4 {M : MM} (h : Lay M) : mR M 203 4 = some 208 := (h.2 203 4 rfl).trans (rfI 33 rfl)
theorem rf_203_7 {M : MM} (h : Lay M) : mR M 203 7 = some 209 := (h.2 203 7 rfl).trans (rfI 34 rfl)
theorem rf_203_23 {M : MM} (h : Lay M) : mR M 203 23 = some 210 := (h.2 203 23 rfl).trans (rfI 35 rfl)
theorem rf_203_24 {M : MM} (h : Lay M) : mR M 203 24 = some 211 := (h.2 203 24 rfl).trans (rfI 36 rfl)
theorem rf_203_25 {M : MM} (h : Lay M) : mR M 203 25 = some 212 := (h.2 203 25 rfl).trans (rfI 37 rfl)
theorem rf_203_26 {M : MM} (h : Lay M) : mR M 203 26 = some 213 := (h.2 203 26 rfl).trans (rfI 38 rfl)
theorem rf_203_34 {M : MM} (h : Lay M) : mR M 203 34 = some 214 := (h.2 203 34 rfl).trans (rfI 39 rfl)
theorem rf_203_35 {M : MM} (h : Lay M) : mR M 203 35 = some 215 := (h.2 203 35 rfl).trans (rfI 40 rfl)
theorem rf_203_36 {M : MM} (h : Lay M) : mR M 203 36 = some 216 := (h.2 203 36 rfl).trans (rfI 41 rfl)
theorem rf_203_37 {M : MM} (h : Lay M) : mR M 203 37 = some 217 := (h.2 203 37 rfl).trans (rfI 42 rfl)
theorem rf_203_38 {M : MM} (h : Lay M) : mR M 203 38 = some 218 := (h.2 203 38 rfl).trans (rfI 43 rfl)
theorem rf_203_39 {M : MM} (h : Lay M) : mR M 203 39 = some 219 := (h.2 203 39 rfl).trans (rfI 44 rfl)
theorem rf_203_40 {M : MM} (h : Lay M) : mR M 203 40 = some 220 := (h.2 203 40 rfl).trans (rfI 45 rfl)
theorem rf_203_41 {M : MM} (h : Lay M) : mR M 203 41 = some 221 := (h.2 203 41 rfl).trans (rfI 46 rfl)
theorem rf_203_42 {M : MM} (h : Lay M) : mR M 203 42 = some 222 := (h.2 203 42 rfl).trans (rfI 47 rfl)
theorem rf_203_43 {M : MM} (h : Lay M) : mR M 203 43 = some 223 := (h.2 203 43 rfl).trans (rfI 48 rfl)
theorem rf_203_44 {M : MM} (h : Lay M) : mR M 203 44 = some 224 := (h.2 203 44 rfl).trans (rfI 49 rfl)
theorem rf_203_45 {M : MM} (h : Lay M) : mR M 203 45 = some 225 := (h.2 203 45 rfl).trans (rfI 50 rfl)
theorem rf_203_46 {M : MM} (h : Lay M) : mR M 203 46 = some 226 := (h.2 203 46 rfl).trans (rfI 51 rfl)
theorem rf_203_47 {M : MM} (h : Lay M) : mR M 203 47 = some 227 := (h.2 203 47 rfl).trans (rfI 52 rfl)
theorem rf_203_48 {M : MM} (h : Lay M) : mR M 203 48 = some 228 := (h.2 203 48 rfl).trans (rfI 53 rfl)
theorem rf_203_57 {M : MM} (h : Lay M) : mR M 203 57 = some 229 := (h.2 203 57 rfl).trans (rfI 54 rfl)
theorem rf_203_58 {M : MM} (h : Lay M) : mR M 203 58 = some 230 := (h.2 203 58 rfl).trans (rfI 55 rfl)
theorem rf_203_60 {M : MM} (h : Lay M) : mR M 203 60 = some 231 := (h.2 203 60 rfl).trans (rfI 56 rfl)
theorem rf_203_61 {M : MM} (h : Lay M) : mR M 203 61 = some 232 := (h.2 203 61 rfl).trans (rfI 57 rfl)
theorem rf_203_62 {M : MM} (h : Lay M) : mR M 203 62 = some 233 := (h.2 203 62 rfl).trans (rfI 58 rfl)
theorem rf_203_67 {M : MM} (h : Lay M) : mR M 203 67 = some 234 := (h.2 203 67 rfl).trans (rfI 59 rfl)
theorem rf_203_68 {M : MM} (h : Lay M) : mR M 203 68 = some 235 := (h.2 203 68 rfl).trans (rfI 60 rfl)
/-- a cell with a Track -/
def isT (t : Nat) : Bool := [4, 7, 10, 13, 16, 23, 26, 29, 32, 35, 38, 41, 44, 47, 50, 185, 188, 191, 194, 197, 200].contains t
set_option maxRecDepth 100000 in
theorem isT_all : ∀ t, t < 236 → isT t = true → SHl[t]? = some (8, nF 8) ∧ SHl[t + 1]? = some (11, 8) ∧ SHl[t + 2]? = some (11, 8) := by decide +kernel
set_option maxRecDepth 100000 in
theorem isT_rf0 : (List.range 236).all (fun t => !isT t || (RFl.contains (t, 2, t + 1) && RFl.contains (t, 3, t + 2))) = true := by decide +kernel
theorem isT_rf (t : Nat) (h : t < 236) (e : isT t = true) : (t, 2, t + 1) ∈ RFl ∧ (t, 3, t + 2) ∈ RFl := by
  have q := List.all_eq_true.mp isT_rf0 t (List.mem_range.mpr h)
  rw [e] at q
  have q2 := Bool.and_eq_true_iff.mp q
  exact ⟨List.contains_iff_mem.mp q2.1, List.contains_iff_mem.mp q2.2⟩
theorem isT_lt {t : Nat} (h : isT t = true) : t < 236 ∧ 3 < t := by
  have h2 : t ∈ [4, 7, 10, 13, 16, 23, 26, 29, 32, 35, 38, 41, 44, 47, 50, 185, 188, 191, 194, 197, 200] := List.contains_iff_mem.mp h
  simp only [List.mem_cons, List.not_mem_nil, or_false] at h2
  omega
theorem kd_T {M : MM} {t : Nat} (h : Lay M) (e : isT t = true) : kd M t 8 := y_kd h (isT_all t (isT_lt e).1 e).1
theorem shx_T {M : MM} {t : Nat} (h : Lay M) (e : isT t = true) : (mS M)[t + 1]? = some (11, 8) := y_sh h (isT_all t (isT_lt e).1 e).2.1
theorem shy_T {M : MM} {t : Nat} (h : Lay M) (e : isT t = true) : (mS M)[t + 2]? = some (11, 8) := y_sh h (isT_all t (isT_lt e).1 e).2.2
theorem rfx_T {M : MM} {t : Nat} (h : Lay M) (e : isT t = true) : mR M t 2 = some (t + 1) := by
  have q := isT_lt e
  refine (h.2 t 2 ?_).trans (rfM (isT_rf t q.1 e).1)
  unfold fxR
  have h1 : Nat.beq t 2 = false := by
    cases hb : Nat.beq t 2 with
    | false => rfl
    | true => exact absurd (Nat.eq_of_beq_eq_true hb) (by omega)
  rw [h1]; rfl
theorem rfy_T {M : MM} {t : Nat} (h : Lay M) (e : isT t = true) : mR M t 3 = some (t + 2) := by
  have q := isT_lt e
  refine (h.2 t 3 ?_).trans (rfM (isT_rf t q.1 e).2)
  unfold fxR
  rw [show Nat.beq 3 2 = false from rfl, Bool.and_false]; rfl
theorem inx_T {M : MM} {t j : Nat} (h : Lay M) (e : isT t = true) (q : j < 8) : inb M (t + 1) 11 (nI j) := ⟨8, shx_T h e, nI_in q (by omega)⟩
theorem iny_T {M : MM} {t j : Nat} (h : Lay M) (e : isT t = true) (q : j < 8) : inb M (t + 2) 11 (nI j) := ⟨8, shy_T h e, nI_in q (by omega)⟩
set_option maxRecDepth 100000 in
theorem rf_19_all : ∀ k, k < 4 → (19, k, 191 + 3 * k) ∈ RFl ∧ (3, k, 7 + 3 * k) ∈ RFl ∧ isT (191 + 3 * k) = true ∧ isT (7 + 3 * k) = true := by decide +kernel
set_option maxRecDepth 100000 in
theorem rf_21_all : ∀ k, k < 10 → (21, k, 23 + 3 * k) ∈ RFl ∧ isT (23 + 3 * k) = true := by decide +kernel
set_option maxRecDepth 100000 in
theorem rf_60_all : ∀ k, k < 112 → (60, k, 63 + k) ∈ RFl ∧ SHl[63 + k]? = some (7, nF 7) := by decide +kernel
theorem rf_19 {M : MM} {k : Nat} (h : Lay M) (q : k < 4) : mR M 19 k = some (191 + 3 * k) := (h.2 19 k (by unfold fxR; rw [show Nat.beq 19 2 = false from rfl, show Nat.ble 63 19 = false from rfl, Bool.and_false]; rfl)).trans (rfM (rf_19_all k q).1)
theorem rf_3 {M : MM} {k : Nat} (h : Lay M) (q : k < 4) : mR M 3 k = some (7 + 3 * k) := (h.2 3 k (by unfold fxR; rw [show Nat.beq 3 2 = false from rfl, show Nat.ble 63 3 = false from rfl, Bool.and_false]; rfl)).trans (rfM (rf_19_all k q).2.1)
theorem rf_21 {M : MM} {k : Nat} (h : Lay M) (q : k < 10) : mR M 21 k = some (23 + 3 * k) := (h.2 21 k (by unfold fxR; rw [show Nat.beq 21 2 = false from rfl, show Nat.ble 63 21 = false from rfl, Bool.and_false]; rfl)).trans (rfM (rf_21_all k q).1)
theorem rf_60 {M : MM} {k : Nat} (h : Lay M) (q : k < 112) : mR M 60 k = some (63 + k) := (h.2 60 k (by unfold fxR; rw [show Nat.beq 60 2 = false from rfl, show Nat.ble 63 60 = false from rfl, Bool.and_false]; rfl)).trans (rfM (rf_60_all k q).1)
theorem kd_S {M : MM} {k : Nat} (h : Lay M) (q : k < 112) : kd M (63 + k) 7 := y_kd h (rf_60_all k q).2
theorem isT_way {k : Nat} (q : k < 4) : isT (191 + 3 * k) = true := (rf_19_all k q).2.2.1
theorem isT_rd {k : Nat} (q : k < 4) : isT (7 + 3 * k) = true := (rf_19_all k q).2.2.2
theorem isT_kept {k : Nat} (q : k < 10) : isT (23 + 3 * k) = true := (rf_21_all k q).2
/-! ===== reading what was written ===== -/
theorem gI_sI (M : MM) (a k : Nat) (v : Int32) (o j : Nat) : mI (sI M a k v) o j = if o = a ∧ j = k then v else mI M o j := by
  show up2 _ a k v o j = _
  unfold up2
  by_cases e1 : o = a
  · by_cases e2 : j = k
    · rw [if_pos e1, if_pos e2, if_pos ⟨e1, e2⟩]
    · rw [if_pos e1, if_neg e2, if_neg (fun q => e2 q.2)]; rfl
  · rw [if_neg e1, if_neg (fun q => e1 q.1)]; rfl
theorem gL_sL (M : MM) (a k : Nat) (v : Int64) (o j : Nat) : mL (sL M a k v) o j = if o = a ∧ j = k then v else mL M o j := by
  show up2 _ a k v o j = _
  unfold up2
  by_cases e1 : o = a
  · by_cases e2 : j = k
    · rw [if_pos e1, if_pos e2, if_pos ⟨e1, e2⟩]
    · rw [if_pos e1, if_neg e2, if_neg (fun q => e2 q.2)]; rfl
  · rw [if_neg e1, if_neg (fun q => e1 q.1)]; rfl
theorem gR_sR (M : MM) (a k : Nat) (v : Option Nat) (o j : Nat) : mR (sR M a k v) o j = if o = a ∧ j = k then v else mR M o j := by
  show up2 _ a k v o j = _
  unfold up2
  by_cases e1 : o = a
  · by_cases e2 : j = k
    · rw [if_pos e1, if_pos e2, if_pos ⟨e1, e2⟩]
    · rw [if_pos e1, if_neg e2, if_neg (fun q => e2 q.2)]; rfl
  · rw [if_neg e1, if_neg (fun q => e1 q.1)]; rfl
theorem gI_sL (M : MM) (a k : Nat) (v : Int64) (o j : Nat) : mI (sL M a k v) o j = mI M o j := rfl
theorem gI_sR (M : MM) (a k : Nat) (v : Option Nat) (o j : Nat) : mI (sR M a k v) o j = mI M o j := rfl
theorem gL_sI (M : MM) (a k : Nat) (v : Int32) (o j : Nat) : mL (sI M a k v) o j = mL M o j := rfl
theorem gL_sR (M : MM) (a k : Nat) (v : Option Nat) (o j : Nat) : mL (sR M a k v) o j = mL M o j := rfl
theorem gR_sI (M : MM) (a k : Nat) (v : Int32) (o j : Nat) : mR (sI M a k v) o j = mR M o j := rfl
theorem gR_sL (M : MM) (a k : Nat) (v : Int64) (o j : Nat) : mR (sL M a k v) o j = mR M o j := rfl
/-! ===== truth as a number ===== -/
def bI (b : Bool) : Int32 := if b = true then 1 else 0
theorem bI_t : bI true = 1 := rfl
theorem bI_f : bI false = 0 := rfl
theorem bI_01 (b : Bool) : bI b = 0 ∨ bI b = 1 := by cases b <;> decide
theorem bI_0 (b : Bool) : (bI b = 0) = (b = false) := by cases b <;> decide
theorem bI_n (b : Bool) : (bI b ≠ 0) = (b = true) := by cases b <;> decide
