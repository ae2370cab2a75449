theorem ck159 : chkT 159 (true, tb159) = true := by decide +kernel
theorem ck160 : chkT 160 (false, tb160) = true := by decide +kernel
theorem ck161 : chkT 161 (false, tb161) = true := by decide +kernel
theorem ck162 : chkT 162 (false, tb162) = true := by decide +kernel
theorem ck163 : chkT 163 (false, tb163) = true := by decide +kernel
theorem ck164 : chkT 164 (false, tb164) = true := by decide +kernel
theorem ck165 : chkT 165 (false, tb165) = true := by decide +kernel
theorem ck166 : chkT 166 (false, tb166) = true := by decide +kernel
theorem ck167 : chkT 167 (false, tb167) = true := by decide +kernel
theorem ck168 : chkT 168 (false, tb168) = true := by decide +kernel
theorem ck169 : chkT 169 (false, tb169) = true := by decide +kernel
theorem ck170 : chkT 170 (false, tb170) = true := by decide +kernel
theorem ck171 : chkT 171 (false, tb171) = true := by decide +kernel
theorem ck172 : chkT 172 (false, tb172) = true := by decide +kernel
theorem ck173 : chkT 173 (false, tb173) = true := by decide +kernel
theorem ck174 : chkT 174 (false, tb174) = true := by decide +kernel
theorem ck175 : chkT 175 (false, tb175) = true := by decide +kernel
theorem ck176 : chkT 176 (false, tb176) = true := by decide +kernel
theorem ck177 : chkT 177 (false, tb177) = true := by decide +kernel
theorem ck178 : chkT 178 (false, tb178) = true := by decide +kernel
theorem ck179 : chkT 179 (false, tb179) = true := by decide +kernel
theorem ck180 : chkT 180 (false, tb180) = true := by decide +kernel
theorem ck181 : chkT 181 (false, tb181) = true := by decide +kernel
theorem ck182 : chkT 182 (false, tb182) = true := by decide +kernel
theorem ck183 : chkT 183 (false, tb183) = true := by decide +kernel
theorem ck184 : chkT 184 (false, tb184) = true := by decide +kernel
theorem ck185 : chkT 185 (false, tb185) = true := by decide +kernel
theorem ck186 : chkT 186 (false, tb186) = true := by decide +kernel
theorem ck187 : chkT 187 (false, tb187) = true := by decide +kernel
theorem ck188 : chkT 188 (false, tb188) = true := by decide +kernel
theorem ck189 : chkT 189 (false, tb189) = true := by decide +kernel
theorem ck190 : chkT 190 (false, tb190) = true := by decide +kernel
theorem ck191 : chkT 191 (false, tb191) = true := by decide +kernel
theorem ck192 : chkT 192 (false, tb192) = true := by decide +kernel
theorem ck193 : chkT 193 (false, tb193) = true := by decide +kernel
theorem ck194 : chkT 194 (false, tb194) = true := by decide +kernel
theorem ck195 : chkT 195 (false, tb195) = true := by decide +kernel
theorem ck196 : chkT 196 (false, tb196) = true := by decide +kernel
theorem ck197 : chkT 197 (false, tb197) = true := by decide +kernel
theorem ck198 : chkT 198 (false, tb198) = true := by decide +kernel
theorem ck199 : chkT 199 (false, tb199) = true := by decide +kernel
theorem ck201 : chkT 201 (false, tb201) = true := by decide +kernel
theorem ck202 : chkT 202 (false, tb202) = true := by decide +kernel
theorem ck203 : chkT 203 (false, tb203) = true := by decide +kernel
theorem ck204 : chkT 204 (false, tb204) = true := by decide +kernel
theorem ck205 : chkT 205 (false, tb205) = true := by decide +kernel
theorem ck206 : chkT 206 (false, tb206) = true := by decide +kernel
theorem ck207 : chkT 207 (false, tb207) = true := by decide +kernel
theorem ck208 : chkT 208 (false, tb208) = true := by decide +kernel
theorem ck209 : chkT 209 (false, tb209) = true := by decide +kernel
theorem ck210 : chkT 210 (false, tb210) = true := by decide +kernel
theorem ck211 : chkT 211 (false, tb211) = true := by decide +kernel
theorem ck212 : chkT 212 (false, tb212) = true := by decide +kernel
theorem ck213 : chkT 213 (false, tb213) = true := by decide +kernel
theorem ck214 : chkT 214 (false, tb214) = true := by decide +kernel
theorem ck215 : chkT 215 (false, tb215) = true := by decide +kernel
theorem ck216 : chkT 216 (false, tb216) = true := by decide +kernel
theorem ck217 : chkT 217 (false, tb217) = true := by decide +kernel
theorem ck218 : chkT 218 (false, tb218) = true := by decide +kernel
theorem ck219 : chkT 219 (false, tb219) = true := by decide +kernel
theorem ck220 : chkT 220 (false, tb220) = true := by decide +kernel
theorem ck221 : chkT 221 (false, tb221) = true := by decide +kernel
theorem ck223 : chkT 223 (false, tb223) = true := by decide +kernel
theorem ck225 : chkT 225 (false, tb225) = true := by decide +kernel
theorem ck228 : chkT 228 (false, tb228) = true := by decide +kernel
theorem ck229 : chkT 229 (false, tb229) = true := by decide +kernel
theorem ck230 : chkT 230 (false, tb230) = true := by decide +kernel
theorem ck231 : chkT 231 (false, tb231) = true := by decide +kernel
theorem ck232 : chkT 232 (false, tb232) = true := by decide +kernel
theorem ck233 : chkT 233 (false, tb233) = true := by decide +kernel
theorem ck234 : chkT 234 (false, tb234) = true := by decide +kernel
theorem ck235 : chkT 235 (false, tb235) = true := by decide +kernel
theorem ck236 : chkT 236 (false, tb236) = true := by decide +kernel
theorem ck237 : chkT 237 (false, tb237) = true := by decide +kernel
theorem ck238 : chkT 238 (false, tb238) = true := by decide +kernel
theorem ck239 : chkT 239 (false, tb239) = true := by decide +kernel
theorem ck240 : chkT 240 (false, tb240) = true := by decide +kernel
theorem ck241 : chkT 241 (false, tb241) = true := by decide +kernel
theorem ck242 : chkT 242 (false, tb242) = true := by decide +kernel
theorem ck243 : chkT 243 (false, tb243) = true := by decide +kernel
theorem ck244 : chkT 244 (false, tb244) = true := by decide +kernel
theorem ck245 : chkT 245 (false, tb245) = true := by decide +kernel
theorem ck246 : chkT 246 (false, tb246) = true := by decide +kernel
theorem ck247 : chkT 247 (false, tb247) = true := by decide +kernel
theorem ck248 : chkT 248 (false, tb248) = true := by decide +kernel
theorem ck249 : chkT 249 (false, tb249) = true := by decide +kernel
theorem ck250 : chkT 250 (false, tb250) = true := by decide +kernel
theorem ck251 : chkT 251 (false, tb251) = true := by decide +kernel
theorem ck252 : chkT 252 (false, tb252) = true := by decide +kernel
theorem ck253 : chkT 253 (false, tb253) = true := by decide +kernel
theorem ck254 : chkT 254 (false, tb254) = true := by decide +kernel
theorem ck255 : chkT 255 (false, tb255) = true := by decide +kernel
theorem ck256 : chkT 256 (false, tb256) = true := by decide +kernel
theorem ck257 : chkT 257 (false, tb257) = true := by decide +kernel
theorem ck258 : chkT 258 (false, tb258) = true := by decide +kernel
theorem ck259 : chkT 259 (false, tb259) = true := by decide +kernel
theorem ck260 : chkT 260 (false, tb260) = true := by decide +kernel
theorem ck261 : chkT 261 (false, tb261) = true := by decide +kernel
theorem ck262 : chkT 262 (false, tb262) = true := by decide +kernel
theorem ck263 : chkT 263 (false, tb263) = true := by decide +kernel
theorem ck264 : chkT 264 (false, tb264) = true := by decide +kernel
theorem ck265 : chkT 265 (false, tb265) = true := by decide +kernel
theorem ck266 : chkT 266 (false, tb266) = true := by decide +kernel
theorem ck267 : chkT 267 (false, tb267) = true := by decide +kernel
theorem ck268 : chkT 268 (false, tb268) = true := by decide +kernel
theorem ck269 : chkT 269 (false, tb269) = true := by decide +kernel
theorem ck270 : chkT 270 (false, tb270) = true := by decide +kernel
theorem ck271 : chkT 271 (false, tb271) = true := by decide +kernel
theorem ck272 : chkT 272 (false, tb272) = true := by decide +kernel
theorem ck274 : chkT 274 (false, tb274) = true := by decide +kernel
theorem ck275 : chkT 275 (false, tb275) = true := by decide +kernel
theorem ck276 : chkT 276 (false, tb276) = true := by decide +kernel
theorem ck277 : chkT 277 (false, tb277) = true := by decide +kernel
theorem ck278 : chkT 278 (false, tb278) = true := by decide +kernel
theorem ck279 : chkT 279 (false, tb279) = true := by decide +kernel
theorem ck280 : chkT 280 (false, tb280) = true := by decide +kernel
theorem ck281 : chkT 281 (false, tb281) = true := by decide +kernel
theorem ck282 : chkT 282 (false, tb282) = true := by decide +kernel
theorem ck283 : chkT 283 (false, tb283) = true := by decide +kernel
theorem ck284 : chkT 284 (false, tb284) = true := by decide +kernel
theorem ck285 : chkT 285 (false, tb285) = true := by decide +kernel
theorem ck286 : chkT 286 (false, tb286) = true := by decide +kernel
theorem ck287 : chkT 287 (false, tb287) = true := by decide +kernel
theorem ck288 : chkT 288 (false, tb288) = true := by decide +kernel
theorem ck289 : chkT 289 (false, tb289) = true := by decide +kernel
theorem ckT_0 : TBg_0.all (fun e => chkT e.1 e.2) = true := by
  unfold TBg_0
  simp only [List.all_cons, List.all_nil, Bool.and_true, Bool.and_eq_true]
  exact ⟨ck0, ck2, ck3, ck4, ck5, ck6, ck7, ck8, ck9, ck10, ck11, ck12, ck13, ck14, ck15, ck16⟩
theorem ckT_1 : TBg_1.all (fun e => chkT e.1 e.2) = true := by
  unfold TBg_1
  simp only [List.all_cons, List.all_nil, Bool.and_true, Bool.and_eq_true]
  exact ⟨ck17, ck18, ck19, ck20, ck21, ck22, ck23, ck24, ck25, ck26, ck27, ck28, ck29, ck30, ck31, ck32⟩
theorem ckT_2 : TBg_2.all (fun e => chkT e.1 e.2) = true := by
  unfold TBg_2
  simp only [List.all_cons, List.all_nil, Bool.and_true, Bool.and_eq_true]
  exact ⟨ck33, ck34, ck35, ck36, ck37, ck38, ck39, ck40, ck41, ck42, ck43, ck44, ck45, ck46, ck47, ck48⟩
theorem ckT_3 : TBg_3.all (fun e => chkT e.1 e.2) = true := by
  unfold TBg_3
  simp only [List.all_cons, List.all_nil, Bool.and_true, Bool.and_eq_true]
  exact ⟨ck49, ck50, ck51, ck52, ck53, ck54, ck55, ck56, ck57, ck58, ck59, ck60, ck61, ck62, ck63, ck64⟩
theorem ckT_4 : TBg_4.all (fun e => chkT e.1 e.2) = true := by
  unfold TBg_4
  simp only [List.all_cons, List.all_nil, Bool.and_true, Bool.and_eq_true]
  exact ⟨ck65, ck66, ck67, ck68, ck69, ck70, ck71, ck72, ck73, ck74, ck75, ck76, ck77, ck78, ck79, ck80⟩
theorem ckT_5 : TBg_5.all (fun e => chkT e.1 e.2) = true := by
  unfold TBg_5
  simp only [List.all_cons, List.all_nil, Bool.and_true, Bool.and_eq_true]
  exact ⟨ck81, ck82, ck83, ck84, ck85, ck86, ck87, ck88, ck89, ck90, ck91, ck92, ck93, ck94, ck95, ck96⟩
theorem ckT_6 : TBg_6.all (fun e => chkT e.1 e.2) = true := by
  unfold TBg_6
  simp only [List.all_cons, List.all_nil, Bool.and_true, Bool.and_eq_true]
  exact ⟨ck97, ck98, ck99, ck100, ck101, ck102, ck103, ck104, ck105, ck106, ck107, ck108, ck109, ck110, ck111, ck112⟩
theorem ckT_7 : TBg_7.all (fun e => chkT e.1 e.2) = true := by
  unfold TBg_7
  simp only [List.all_cons, List.all_nil, Bool.and_true, Bool.and_eq_true]
  exact ⟨ck113, ck114, ck115, ck116, ck117, ck118, ck119, ck120, ck121, ck122, ck123, ck124, ck125, ck126, ck127, ck128⟩
theorem ckT_8 : TBg_8.all (fun e => chkT e.1 e.2) = true := by
  unfold TBg_8
  simp only [List.all_cons, List.all_nil, Bool.and_true, Bool.and_eq_true]
  exact ⟨ck129, ck130, ck131, ck132, ck133, ck134, ck135, ck136, ck137, ck138, ck139, ck140, ck141, ck142, ck143, ck144⟩
theorem ckT_9 : TBg_9.all (fun e => chkT e.1 e.2) = true := by
  unfold TBg_9
  simp only [List.all_cons, List.all_nil, Bool.and_true, Bool.and_eq_true]
  exact ⟨ck145, ck146, ck147, ck148, ck149, ck150, ck151, ck152, ck153, ck154, ck155, ck156, ck157, ck158, ck159, ck160⟩
theorem ckT_10 : TBg_10.all (fun e => chkT e.1 e.2) = true := by
  unfold TBg_10
  simp only [List.all_cons, List.all_nil, Bool.and_true, Bool.and_eq_true]
  exact ⟨ck161, ck162, ck163, ck164, ck165, ck166, ck167, ck168, ck169, ck170, ck171, ck172, ck173, ck174, ck175, ck176⟩
theorem ckT_11 : TBg_11.all (fun e => chkT e.1 e.2) = true := by
  unfold TBg_11
  simp only [List.all_cons, List.all_nil, Bool.and_true, Bool.and_eq_true]
  exact ⟨ck177, ck178, ck179, ck180, ck181, ck182, ck183, ck184, ck185, ck186, ck187, ck188, ck189, ck190, ck191, ck192⟩
theorem ckT_12 : TBg_12.all (fun e => chkT e.1 e.2) = true := by
  unfold TBg_12
  simp only [List.all_cons, List.all_nil, Bool.and_true, Bool.and_eq_true]
  exact ⟨ck193, ck194, ck195, ck196, ck197, ck198, ck199, ck200, ck201, ck202, ck203, ck204, ck205, ck206, ck207, ck208⟩
theorem ckT_13 : TBg_13.all (fun e => chkT e.1 e.2) = true := by
  unfold TBg_13
  simp only [List.all_cons, List.all_nil, Bool.and_true, Bool.and_eq_true]
  exact ⟨ck209, ck210, ck211, ck212, ck213, ck214, ck215, ck216, ck217, ck218, ck219, ck220, ck221, ck222, ck223, ck224⟩
theorem ckT_14 : TBg_14.all (fun e => chkT e.1 e.2) = true := by
  unfold TBg_14
  simp only [List.all_cons, List.all_nil, Bool.and_true, Bool.and_eq_true]
  exact ⟨ck225, ck226, ck227, ck228, ck229, ck230, ck231, ck232, ck233, ck234, ck235, ck236, ck237, ck238, ck239, ck240⟩
theorem ckT_15 : TBg_15.all (fun e => chkT e.1 e.2) = true := by
  unfold TBg_15
  simp only [List.all_cons, List.all_nil, Bool.and_true, Bool.and_eq_true]
  exact ⟨ck241, ck242, ck243, ck244, ck245, ck246, ck247, ck248, ck249, ck250, ck251, ck252, ck253, ck254, ck255, ck256⟩
theorem ckT_16 : TBg_16.all (fun e => chkT e.1 e.2) = true := by
  unfold TBg_16
  simp only [List.all_cons, List.all_nil, Bool.and_true, Bool.and_eq_true]
  exact ⟨ck257, ck258, ck259, ck260, ck261, ck262, ck263, ck264, ck265, ck266, ck267, ck268, ck269, ck270, ck271, ck272⟩
theorem ckT_17 : TBg_17.all (fun e => chkT e.1 e.2) = true := by
  unfold TBg_17
  simp only [List.all_cons, List.all_nil, Bool.and_true, Bool.and_eq_true]
  exact ⟨ck273, ck274, ck275, ck276, ck277, ck278, ck279, ck280, ck281, ck282, ck283, ck284, ck285, ck286, ck287, ck288⟩
theorem ckT_18 : TBg_18.all (fun e => chkT e.1 e.2) = true := by
  unfold TBg_18
  simp only [List.all_cons, List.all_nil, Bool.and_true, Bool.and_eq_true]
  exact ck289
theorem ckT : TBg.all (fun c => c.2.all (fun e => chkT e.1 e.2)) = true := by
  unfold TBg
  simp only [List.all_cons, List.all_nil, Bool.and_true, Bool.and_eq_true]
  exact ⟨ckT_0, ckT_1, ckT_2, ckT_3, ckT_4, ckT_5, ckT_6, ckT_7, ckT_8, ckT_9, ckT_10, ckT_11, ckT_12, ckT_13, ckT_14, ckT_15, ckT_16, ckT_17, ckT_18⟩
