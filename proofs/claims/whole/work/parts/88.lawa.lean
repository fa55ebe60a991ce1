/-! The law, case by case. -/
def mL_law : Mt := (yL_law, cL_law, 4, some .boolean)
theorem va_w : ∀ A, VA0 A → WA A := fun _ h => h.1
theorem va_v : ∀ A, VA0 A → VA0 A := fun _ h => h
section LAW
variable {d n i : Nat} {xs : Nat → Int32} {σ : Mem} {Q : Option Value → Mem → Prop} {S : Ab}
set_option maxRecDepth 100000 in
set_option maxHeartbeats 4000000 in
theorem lc_0 (hC : CL σ S) (hM : MD σ S) (hw : WS VA0 S) (hv : ∀ k, k < 7 → vp_in (nI i + nI k) n) (kk : ∀ τ S', CL τ S' → MD τ S' → WS VA0 S' → X (some (n, xs)) (d + 60) mL_law 1336 [.ref 200, .ref 0, .ref 94, .int (nI i)] [] τ Q) : X (some (n, xs)) (d + 60) mL_law 192 [.ref 200, .ref 0, .ref 94, .int (nI i)] [] σ Q := by
  refine x_aload_n (pc' := 193) dL_law_192 rfl rfl rfl ?_
  refine x_aload_n (pc' := 194) dL_law_193 rfl rfl rfl ?_
  refine x_iload_n (pc' := 195) dL_law_194 rfl rfl rfl ?_
  refine x_iconst (pc' := 196) (v := 1) dL_law_195 rfl (by decide) ?_
  refine x_iadd (pc' := 197) dL_law_196 rfl ?_
  refine x_sld (pc' := 198) dL_law_197 rfl (hv 1 (by omega)) ?_
  refine x_aload_n (pc' := 199) dL_law_198 rfl rfl rfl ?_
  refine x_iload_n (pc' := 200) dL_law_199 rfl rfl rfl ?_
  refine x_iconst (pc' := 201) (v := 2) dL_law_200 rfl (by decide) ?_
  refine x_iadd (pc' := 202) dL_law_201 rfl ?_
  refine x_sld (pc' := 203) dL_law_202 rfl (hv 2 (by omega)) ?_
  refine x_aload_n (pc' := 204) dL_law_203 rfl rfl rfl ?_
  refine x_iload_n (pc' := 205) dL_law_204 rfl rfl rfl ?_
  refine x_iconst (pc' := 206) (v := 3) dL_law_205 rfl (by decide) ?_
  refine x_iadd (pc' := 207) dL_law_206 rfl ?_
  refine x_sld (pc' := 208) dL_law_207 rfl (hv 3 (by omega)) ?_
  refine x_callV (d := d + 59) (pc' := 211) (As := [.int (xs (nI i + 1).toNatClampNeg), .int (xs (nI i + 2).toNatClampNeg), .int (xs (nI i + 3).toNatClampNeg)]) dL_law_208 rfl lmL_13 kd_0 rfl rfl (Nat.le_of_ble_eq_true rfl) (Nat.le_of_ble_eq_true rfl) ?_
  show X none (d + 59) mX7_put 0 [.ref 0, .int (xs (nI i + 1).toNatClampNeg), .int (xs (nI i + 2).toNatClampNeg), .int (xs (nI i + 3).toNatClampNeg)] [] σ _
  refine p_put hC hw (fun τ1 hC1 hs1 => ?_)
  show X (some (n, xs)) (d + 60) mL_law 211 [.ref 200, .ref 0, .ref 94, .int (nI i)] [.int (o_put S (xs (nI i + 1).toNatClampNeg) (xs (nI i + 2).toNatClampNeg) (xs (nI i + 3).toNatClampNeg)).1] τ1 Q
  have hM1 : MD τ1 S := hM.sm va_w hw hs1 (fun i k q => by unfold S94 at q; unfold SCM; omega)
  refine x_aload_n (pc' := 212) dL_law_211 rfl rfl rfl ?_
  refine x_aload_n (pc' := 213) dL_law_212 rfl rfl rfl ?_
  refine x_iload_n (pc' := 214) dL_law_213 rfl rfl rfl ?_
  refine x_iconst (pc' := 215) (v := 1) dL_law_214 rfl (by decide) ?_
  refine x_iadd (pc' := 216) dL_law_215 rfl ?_
  refine x_sld (pc' := 217) dL_law_216 rfl (hv 1 (by omega)) ?_
  refine x_aload_n (pc' := 218) dL_law_217 rfl rfl rfl ?_
  refine x_iload_n (pc' := 219) dL_law_218 rfl rfl rfl ?_
  refine x_iconst (pc' := 220) (v := 2) dL_law_219 rfl (by decide) ?_
  refine x_iadd (pc' := 221) dL_law_220 rfl ?_
  refine x_sld (pc' := 222) dL_law_221 rfl (hv 2 (by omega)) ?_
  refine x_aload_n (pc' := 223) dL_law_222 rfl rfl rfl ?_
  refine x_iload_n (pc' := 224) dL_law_223 rfl rfl rfl ?_
  refine x_iconst (pc' := 225) (v := 3) dL_law_224 rfl (by decide) ?_
  refine x_iadd (pc' := 226) dL_law_225 rfl ?_
  refine x_sld (pc' := 227) dL_law_226 rfl (hv 3 (by omega)) ?_
  refine x_callV (d := d + 59) (pc' := 230) (As := [.int (xs (nI i + 1).toNatClampNeg), .int (xs (nI i + 2).toNatClampNeg), .int (xs (nI i + 3).toNatClampNeg)]) dL_law_227 rfl lmL_17 kd_94 rfl rfl (Nat.le_of_ble_eq_true rfl) (Nat.le_of_ble_eq_true rfl) ?_
  show X none (d + 59) mX8_put 0 [.ref 94, .int (xs (nI i + 1).toNatClampNeg), .int (xs (nI i + 2).toNatClampNeg), .int (xs (nI i + 3).toNatClampNeg)] [] τ1 _
  refine q_put va_w hM1 hw (fun τ2 hM2 hs2 => ?_)
  show X (some (n, xs)) (d + 60) mL_law 230 [.ref 200, .ref 0, .ref 94, .int (nI i)] [.int (o_put S (xs (nI i + 1).toNatClampNeg) (xs (nI i + 2).toNatClampNeg) (xs (nI i + 3).toNatClampNeg)).1, .int (o_put S (xs (nI i + 1).toNatClampNeg) (xs (nI i + 2).toNatClampNeg) (xs (nI i + 3).toNatClampNeg)).1] τ2 Q
  have hC2 := hC1.sm hs2 (fun i k q => by unfold SM94 at q; unfold SCR; omega)
  exact x_icmp_eq (pc' := 233) (tgt := 1336) dL_law_230 (by decide) rfl (fun _ => kk τ2 (o_put S (xs (nI i + 1).toNatClampNeg) (xs (nI i + 2).toNatClampNeg) (xs (nI i + 3).toNatClampNeg)).2 hC2 hM2 (ws_put hw)) (fun c => absurd rfl c)
set_option maxRecDepth 100000 in
set_option maxHeartbeats 4000000 in
theorem lc_1 (hC : CL σ S) (hM : MD σ S) (hw : WS VA0 S) (hv : ∀ k, k < 7 → vp_in (nI i + nI k) n) (kk : ∀ τ S', CL τ S' → MD τ S' → WS VA0 S' → X (some (n, xs)) (d + 60) mL_law 1336 [.ref 200, .ref 0, .ref 94, .int (nI i)] [] τ Q) : X (some (n, xs)) (d + 60) mL_law 235 [.ref 200, .ref 0, .ref 94, .int (nI i)] [] σ Q := by
  refine x_aload_n (pc' := 236) dL_law_235 rfl rfl rfl ?_
  refine x_aload_n (pc' := 237) dL_law_236 rfl rfl rfl ?_
  refine x_iload_n (pc' := 238) dL_law_237 rfl rfl rfl ?_
  refine x_iconst (pc' := 239) (v := 1) dL_law_238 rfl (by decide) ?_
  refine x_iadd (pc' := 240) dL_law_239 rfl ?_
  refine x_sld (pc' := 241) dL_law_240 rfl (hv 1 (by omega)) ?_
  refine x_callV (d := d + 59) (pc' := 244) (As := [.int (xs (nI i + 1).toNatClampNeg)]) dL_law_241 rfl lmL_18 kd_0 rfl rfl (Nat.le_of_ble_eq_true rfl) (Nat.le_of_ble_eq_true rfl) ?_
  show X none (d + 59) mX7_take 0 [.ref 0, .int (xs (nI i + 1).toNatClampNeg), Unk] [] σ _
  refine p_take hC hw (fun τ1 hC1 hs1 => ?_)
  show X (some (n, xs)) (d + 60) mL_law 244 [.ref 200, .ref 0, .ref 94, .int (nI i)] [.int (o_take S (xs (nI i + 1).toNatClampNeg)).1] τ1 Q
  have hM1 : MD τ1 S := hM.sm va_w hw hs1 (fun i k q => by unfold S94 at q; unfold SCM; omega)
  refine x_aload_n (pc' := 245) dL_law_244 rfl rfl rfl ?_
  refine x_aload_n (pc' := 246) dL_law_245 rfl rfl rfl ?_
  refine x_iload_n (pc' := 247) dL_law_246 rfl rfl rfl ?_
  refine x_iconst (pc' := 248) (v := 1) dL_law_247 rfl (by decide) ?_
  refine x_iadd (pc' := 249) dL_law_248 rfl ?_
  refine x_sld (pc' := 250) dL_law_249 rfl (hv 1 (by omega)) ?_
  refine x_callV (d := d + 59) (pc' := 253) (As := [.int (xs (nI i + 1).toNatClampNeg)]) dL_law_250 rfl lmL_22 kd_94 rfl rfl (Nat.le_of_ble_eq_true rfl) (Nat.le_of_ble_eq_true rfl) ?_
  show X none (d + 59) mX8_take 0 [.ref 94, .int (xs (nI i + 1).toNatClampNeg), Unk, Unk] [] τ1 _
  refine q_take va_w hM1 hw (fun τ2 hM2 hs2 => ?_)
  show X (some (n, xs)) (d + 60) mL_law 253 [.ref 200, .ref 0, .ref 94, .int (nI i)] [.int (o_take S (xs (nI i + 1).toNatClampNeg)).1, .int (o_take S (xs (nI i + 1).toNatClampNeg)).1] τ2 Q
  have hC2 := hC1.sm hs2 (fun i k q => by unfold SM94 at q; unfold SCR; omega)
  exact x_icmp_eq (pc' := 256) (tgt := 1336) dL_law_253 (by decide) rfl (fun _ => kk τ2 (o_take S (xs (nI i + 1).toNatClampNeg)).2 hC2 hM2 (ws_take hw)) (fun c => absurd rfl c)
set_option maxRecDepth 100000 in
set_option maxHeartbeats 4000000 in
theorem lc_2 (hC : CL σ S) (hM : MD σ S) (hw : WS VA0 S) (hv : ∀ k, k < 7 → vp_in (nI i + nI k) n) (kk : ∀ τ S', CL τ S' → MD τ S' → WS VA0 S' → X (some (n, xs)) (d + 60) mL_law 1336 [.ref 200, .ref 0, .ref 94, .int (nI i)] [] τ Q) : X (some (n, xs)) (d + 60) mL_law 258 [.ref 200, .ref 0, .ref 94, .int (nI i)] [] σ Q := by
  refine x_aload_n (pc' := 259) dL_law_258 rfl rfl rfl ?_
  refine x_aload_n (pc' := 260) dL_law_259 rfl rfl rfl ?_
  refine x_iload_n (pc' := 261) dL_law_260 rfl rfl rfl ?_
  refine x_iconst (pc' := 262) (v := 1) dL_law_261 rfl (by decide) ?_
  refine x_iadd (pc' := 263) dL_law_262 rfl ?_
  refine x_sld (pc' := 264) dL_law_263 rfl (hv 1 (by omega)) ?_
  refine x_aload_n (pc' := 265) dL_law_264 rfl rfl rfl ?_
  refine x_iload_n (pc' := 266) dL_law_265 rfl rfl rfl ?_
  refine x_iconst (pc' := 267) (v := 2) dL_law_266 rfl (by decide) ?_
  refine x_iadd (pc' := 268) dL_law_267 rfl ?_
  refine x_sld (pc' := 269) dL_law_268 rfl (hv 2 (by omega)) ?_
  refine x_aload_n (pc' := 270) dL_law_269 rfl rfl rfl ?_
  refine x_iload_n (pc' := 271) dL_law_270 rfl rfl rfl ?_
  refine x_iconst (pc' := 272) (v := 3) dL_law_271 rfl (by decide) ?_
  refine x_iadd (pc' := 273) dL_law_272 rfl ?_
  refine x_sld (pc' := 274) dL_law_273 rfl (hv 3 (by omega)) ?_
  refine x_callV (d := d + 59) (pc' := 277) (As := [.int (xs (nI i + 1).toNatClampNeg), .int (xs (nI i + 2).toNatClampNeg), .int (xs (nI i + 3).toNatClampNeg)]) dL_law_274 rfl lmL_23 kd_0 rfl rfl (Nat.le_of_ble_eq_true rfl) (Nat.le_of_ble_eq_true rfl) ?_
  show X none (d + 59) mX7_move 0 [.ref 0, .int (xs (nI i + 1).toNatClampNeg), .int (xs (nI i + 2).toNatClampNeg), .int (xs (nI i + 3).toNatClampNeg), Unk, Unk] [] σ _
  refine p_move hC hw (fun τ1 hC1 hs1 => ?_)
  show X (some (n, xs)) (d + 60) mL_law 277 [.ref 200, .ref 0, .ref 94, .int (nI i)] [.int (o_move S (xs (nI i + 1).toNatClampNeg) (xs (nI i + 2).toNatClampNeg) (xs (nI i + 3).toNatClampNeg)).1] τ1 Q
  have hM1 : MD τ1 S := hM.sm va_w hw hs1 (fun i k q => by unfold S94 at q; unfold SCM; omega)
  refine x_aload_n (pc' := 278) dL_law_277 rfl rfl rfl ?_
  refine x_aload_n (pc' := 279) dL_law_278 rfl rfl rfl ?_
  refine x_iload_n (pc' := 280) dL_law_279 rfl rfl rfl ?_
  refine x_iconst (pc' := 281) (v := 1) dL_law_280 rfl (by decide) ?_
  refine x_iadd (pc' := 282) dL_law_281 rfl ?_
  refine x_sld (pc' := 283) dL_law_282 rfl (hv 1 (by omega)) ?_
  refine x_aload_n (pc' := 284) dL_law_283 rfl rfl rfl ?_
  refine x_iload_n (pc' := 285) dL_law_284 rfl rfl rfl ?_
  refine x_iconst (pc' := 286) (v := 2) dL_law_285 rfl (by decide) ?_
  refine x_iadd (pc' := 287) dL_law_286 rfl ?_
  refine x_sld (pc' := 288) dL_law_287 rfl (hv 2 (by omega)) ?_
  refine x_aload_n (pc' := 289) dL_law_288 rfl rfl rfl ?_
  refine x_iload_n (pc' := 290) dL_law_289 rfl rfl rfl ?_
  refine x_iconst (pc' := 291) (v := 3) dL_law_290 rfl (by decide) ?_
  refine x_iadd (pc' := 292) dL_law_291 rfl ?_
  refine x_sld (pc' := 293) dL_law_292 rfl (hv 3 (by omega)) ?_
  refine x_callV (d := d + 59) (pc' := 296) (As := [.int (xs (nI i + 1).toNatClampNeg), .int (xs (nI i + 2).toNatClampNeg), .int (xs (nI i + 3).toNatClampNeg)]) dL_law_293 rfl lmL_26 kd_94 rfl rfl (Nat.le_of_ble_eq_true rfl) (Nat.le_of_ble_eq_true rfl) ?_
  show X none (d + 59) mX8_move 0 [.ref 94, .int (xs (nI i + 1).toNatClampNeg), .int (xs (nI i + 2).toNatClampNeg), .int (xs (nI i + 3).toNatClampNeg), Unk, Unk] [] τ1 _
  refine q_move va_w hM1 hw (fun τ2 hM2 hs2 => ?_)
  show X (some (n, xs)) (d + 60) mL_law 296 [.ref 200, .ref 0, .ref 94, .int (nI i)] [.int (o_move S (xs (nI i + 1).toNatClampNeg) (xs (nI i + 2).toNatClampNeg) (xs (nI i + 3).toNatClampNeg)).1, .int (o_move S (xs (nI i + 1).toNatClampNeg) (xs (nI i + 2).toNatClampNeg) (xs (nI i + 3).toNatClampNeg)).1] τ2 Q
  have hC2 := hC1.sm hs2 (fun i k q => by unfold SM94 at q; unfold SCR; omega)
  exact x_icmp_eq (pc' := 299) (tgt := 1336) dL_law_296 (by decide) rfl (fun _ => kk τ2 (o_move S (xs (nI i + 1).toNatClampNeg) (xs (nI i + 2).toNatClampNeg) (xs (nI i + 3).toNatClampNeg)).2 hC2 hM2 (ws_move hw)) (fun c => absurd rfl c)
set_option maxRecDepth 100000 in
set_option maxHeartbeats 4000000 in
theorem lc_3 (hC : CL σ S) (hM : MD σ S) (hw : WS VA0 S) (hv : ∀ k, k < 7 → vp_in (nI i + nI k) n) (kk : ∀ τ S', CL τ S' → MD τ S' → WS VA0 S' → X (some (n, xs)) (d + 60) mL_law 1336 [.ref 200, .ref 0, .ref 94, .int (nI i)] [] τ Q) : X (some (n, xs)) (d + 60) mL_law 301 [.ref 200, .ref 0, .ref 94, .int (nI i)] [] σ Q := by
  refine x_aload_n (pc' := 302) dL_law_301 rfl rfl rfl ?_
  refine x_aload_n (pc' := 303) dL_law_302 rfl rfl rfl ?_
  refine x_iload_n (pc' := 304) dL_law_303 rfl rfl rfl ?_
  refine x_iconst (pc' := 305) (v := 1) dL_law_304 rfl (by decide) ?_
  refine x_iadd (pc' := 306) dL_law_305 rfl ?_
  refine x_sld (pc' := 307) dL_law_306 rfl (hv 1 (by omega)) ?_
  refine x_aload_n (pc' := 308) dL_law_307 rfl rfl rfl ?_
  refine x_iload_n (pc' := 309) dL_law_308 rfl rfl rfl ?_
  refine x_iconst (pc' := 310) (v := 2) dL_law_309 rfl (by decide) ?_
  refine x_iadd (pc' := 311) dL_law_310 rfl ?_
  refine x_sld (pc' := 312) dL_law_311 rfl (hv 2 (by omega)) ?_
  refine x_callV (d := d + 59) (pc' := 315) (As := [.int (xs (nI i + 1).toNatClampNeg), .int (xs (nI i + 2).toNatClampNeg)]) dL_law_312 rfl lmL_27 kd_0 rfl rfl (Nat.le_of_ble_eq_true rfl) (Nat.le_of_ble_eq_true rfl) ?_
  show X none (d + 59) mX7_scatter 0 [.ref 0, .int (xs (nI i + 1).toNatClampNeg), .int (xs (nI i + 2).toNatClampNeg), Unk, Unk, Unk, Unk, Unk] [] σ _
  refine p_scatter hC hw (fun τ1 hC1 hs1 => ?_)
  show X (some (n, xs)) (d + 60) mL_law 315 [.ref 200, .ref 0, .ref 94, .int (nI i)] [.int (o_scatter S (xs (nI i + 1).toNatClampNeg) (xs (nI i + 2).toNatClampNeg)).1] τ1 Q
  have hM1 : MD τ1 S := hM.sm va_w hw hs1 (fun i k q => by unfold S94 at q; unfold SCM; omega)
  refine x_aload_n (pc' := 316) dL_law_315 rfl rfl rfl ?_
  refine x_aload_n (pc' := 317) dL_law_316 rfl rfl rfl ?_
  refine x_iload_n (pc' := 318) dL_law_317 rfl rfl rfl ?_
  refine x_iconst (pc' := 319) (v := 1) dL_law_318 rfl (by decide) ?_
  refine x_iadd (pc' := 320) dL_law_319 rfl ?_
  refine x_sld (pc' := 321) dL_law_320 rfl (hv 1 (by omega)) ?_
  refine x_aload_n (pc' := 322) dL_law_321 rfl rfl rfl ?_
  refine x_iload_n (pc' := 323) dL_law_322 rfl rfl rfl ?_
  refine x_iconst (pc' := 324) (v := 2) dL_law_323 rfl (by decide) ?_
  refine x_iadd (pc' := 325) dL_law_324 rfl ?_
  refine x_sld (pc' := 326) dL_law_325 rfl (hv 2 (by omega)) ?_
  refine x_callV (d := d + 59) (pc' := 329) (As := [.int (xs (nI i + 1).toNatClampNeg), .int (xs (nI i + 2).toNatClampNeg)]) dL_law_326 rfl lmL_31 kd_94 rfl rfl (Nat.le_of_ble_eq_true rfl) (Nat.le_of_ble_eq_true rfl) ?_
  show X none (d + 59) mX8_scatter 0 [.ref 94, .int (xs (nI i + 1).toNatClampNeg), .int (xs (nI i + 2).toNatClampNeg), Unk, Unk, Unk] [] τ1 _
  refine q_scatter va_w hM1 hw (fun τ2 hM2 hs2 => ?_)
  show X (some (n, xs)) (d + 60) mL_law 329 [.ref 200, .ref 0, .ref 94, .int (nI i)] [.int (o_scatter S (xs (nI i + 1).toNatClampNeg) (xs (nI i + 2).toNatClampNeg)).1, .int (o_scatter S (xs (nI i + 1).toNatClampNeg) (xs (nI i + 2).toNatClampNeg)).1] τ2 Q
  have hC2 := hC1.sm hs2 (fun i k q => by unfold SM94 at q; unfold SCR; omega)
  exact x_icmp_eq (pc' := 332) (tgt := 1336) dL_law_329 (by decide) rfl (fun _ => kk τ2 (o_scatter S (xs (nI i + 1).toNatClampNeg) (xs (nI i + 2).toNatClampNeg)).2 hC2 hM2 (ws_scatter hw)) (fun c => absurd rfl c)
set_option maxRecDepth 100000 in
set_option maxHeartbeats 4000000 in
theorem lc_4 (hC : CL σ S) (hM : MD σ S) (hw : WS VA0 S) (hv : ∀ k, k < 7 → vp_in (nI i + nI k) n) (kk : ∀ τ S', CL τ S' → MD τ S' → WS VA0 S' → X (some (n, xs)) (d + 60) mL_law 1336 [.ref 200, .ref 0, .ref 94, .int (nI i)] [] τ Q) : X (some (n, xs)) (d + 60) mL_law 334 [.ref 200, .ref 0, .ref 94, .int (nI i)] [] σ Q := by
  refine x_aload_n (pc' := 335) dL_law_334 rfl rfl rfl ?_
  refine x_aload_n (pc' := 336) dL_law_335 rfl rfl rfl ?_
  refine x_iload_n (pc' := 337) dL_law_336 rfl rfl rfl ?_
  refine x_iconst (pc' := 338) (v := 1) dL_law_337 rfl (by decide) ?_
  refine x_iadd (pc' := 339) dL_law_338 rfl ?_
  refine x_sld (pc' := 340) dL_law_339 rfl (hv 1 (by omega)) ?_
  refine x_aload_n (pc' := 341) dL_law_340 rfl rfl rfl ?_
  refine x_iload_n (pc' := 342) dL_law_341 rfl rfl rfl ?_
  refine x_iconst (pc' := 343) (v := 2) dL_law_342 rfl (by decide) ?_
  refine x_iadd (pc' := 344) dL_law_343 rfl ?_
  refine x_sld (pc' := 345) dL_law_344 rfl (hv 2 (by omega)) ?_
  refine x_aload_n (pc' := 346) dL_law_345 rfl rfl rfl ?_
  refine x_iload_n (pc' := 347) dL_law_346 rfl rfl rfl ?_
  refine x_iconst (pc' := 348) (v := 3) dL_law_347 rfl (by decide) ?_
  refine x_iadd (pc' := 349) dL_law_348 rfl ?_
  refine x_sld (pc' := 350) dL_law_349 rfl (hv 3 (by omega)) ?_
  refine x_aload_n (pc' := 351) dL_law_350 rfl rfl rfl ?_
  refine x_iload_n (pc' := 352) dL_law_351 rfl rfl rfl ?_
  refine x_iconst (pc' := 353) (v := 4) dL_law_352 rfl (by decide) ?_
  refine x_iadd (pc' := 354) dL_law_353 rfl ?_
  refine x_sld (pc' := 355) dL_law_354 rfl (hv 4 (by omega)) ?_
  refine x_callV (d := d + 59) (pc' := 358) (As := [.int (xs (nI i + 1).toNatClampNeg), .int (xs (nI i + 2).toNatClampNeg), .int (xs (nI i + 3).toNatClampNeg), .int (xs (nI i + 4).toNatClampNeg)]) dL_law_355 rfl lmL_32 kd_0 rfl rfl (Nat.le_of_ble_eq_true rfl) (Nat.le_of_ble_eq_true rfl) ?_
  show X none (d + 59) mX7_sweep 0 [.ref 0, .int (xs (nI i + 1).toNatClampNeg), .int (xs (nI i + 2).toNatClampNeg), .int (xs (nI i + 3).toNatClampNeg), .int (xs (nI i + 4).toNatClampNeg)] [] σ _
  refine p_sweep hC hw (fun τ1 hC1 hs1 => ?_)
  show X (some (n, xs)) (d + 60) mL_law 358 [.ref 200, .ref 0, .ref 94, .int (nI i)] [.int (o_sweep S (xs (nI i + 1).toNatClampNeg) (xs (nI i + 2).toNatClampNeg) (xs (nI i + 3).toNatClampNeg) (xs (nI i + 4).toNatClampNeg)).1] τ1 Q
  have hM1 : MD τ1 S := hM.sm va_w hw hs1 (fun i k q => by unfold S94 at q; unfold SCM; omega)
  refine x_aload_n (pc' := 359) dL_law_358 rfl rfl rfl ?_
  refine x_aload_n (pc' := 360) dL_law_359 rfl rfl rfl ?_
  refine x_iload_n (pc' := 361) dL_law_360 rfl rfl rfl ?_
  refine x_iconst (pc' := 362) (v := 1) dL_law_361 rfl (by decide) ?_
  refine x_iadd (pc' := 363) dL_law_362 rfl ?_
  refine x_sld (pc' := 364) dL_law_363 rfl (hv 1 (by omega)) ?_
  refine x_aload_n (pc' := 365) dL_law_364 rfl rfl rfl ?_
  refine x_iload_n (pc' := 366) dL_law_365 rfl rfl rfl ?_
  refine x_iconst (pc' := 367) (v := 2) dL_law_366 rfl (by decide) ?_
  refine x_iadd (pc' := 368) dL_law_367 rfl ?_
  refine x_sld (pc' := 369) dL_law_368 rfl (hv 2 (by omega)) ?_
  refine x_aload_n (pc' := 370) dL_law_369 rfl rfl rfl ?_
  refine x_iload_n (pc' := 371) dL_law_370 rfl rfl rfl ?_
  refine x_iconst (pc' := 372) (v := 3) dL_law_371 rfl (by decide) ?_
  refine x_iadd (pc' := 373) dL_law_372 rfl ?_
  refine x_sld (pc' := 374) dL_law_373 rfl (hv 3 (by omega)) ?_
  refine x_aload_n (pc' := 375) dL_law_374 rfl rfl rfl ?_
  refine x_iload_n (pc' := 376) dL_law_375 rfl rfl rfl ?_
  refine x_iconst (pc' := 377) (v := 4) dL_law_376 rfl (by decide) ?_
  refine x_iadd (pc' := 378) dL_law_377 rfl ?_
  refine x_sld (pc' := 379) dL_law_378 rfl (hv 4 (by omega)) ?_
  refine x_callV (d := d + 59) (pc' := 382) (As := [.int (xs (nI i + 1).toNatClampNeg), .int (xs (nI i + 2).toNatClampNeg), .int (xs (nI i + 3).toNatClampNeg), .int (xs (nI i + 4).toNatClampNeg)]) dL_law_379 rfl lmL_36 kd_94 rfl rfl (Nat.le_of_ble_eq_true rfl) (Nat.le_of_ble_eq_true rfl) ?_
  show X none (d + 59) mX8_sweep 0 [.ref 94, .int (xs (nI i + 1).toNatClampNeg), .int (xs (nI i + 2).toNatClampNeg), .int (xs (nI i + 3).toNatClampNeg), .int (xs (nI i + 4).toNatClampNeg)] [] τ1 _
  refine q_sweep va_w hM1 hw (fun τ2 hM2 hs2 => ?_)
  show X (some (n, xs)) (d + 60) mL_law 382 [.ref 200, .ref 0, .ref 94, .int (nI i)] [.int (o_sweep S (xs (nI i + 1).toNatClampNeg) (xs (nI i + 2).toNatClampNeg) (xs (nI i + 3).toNatClampNeg) (xs (nI i + 4).toNatClampNeg)).1, .int (o_sweep S (xs (nI i + 1).toNatClampNeg) (xs (nI i + 2).toNatClampNeg) (xs (nI i + 3).toNatClampNeg) (xs (nI i + 4).toNatClampNeg)).1] τ2 Q
  have hC2 := hC1.sm hs2 (fun i k q => by unfold SM94 at q; unfold SCR; omega)
  exact x_icmp_eq (pc' := 385) (tgt := 1336) dL_law_382 (by decide) rfl (fun _ => kk τ2 (o_sweep S (xs (nI i + 1).toNatClampNeg) (xs (nI i + 2).toNatClampNeg) (xs (nI i + 3).toNatClampNeg) (xs (nI i + 4).toNatClampNeg)).2 hC2 hM2 (ws_sweep hw)) (fun c => absurd rfl c)
set_option maxRecDepth 100000 in
set_option maxHeartbeats 4000000 in
theorem lc_5 (hC : CL σ S) (hM : MD σ S) (hw : WS VA0 S) (hv : ∀ k, k < 7 → vp_in (nI i + nI k) n) (kk : ∀ τ S', CL τ S' → MD τ S' → WS VA0 S' → X (some (n, xs)) (d + 60) mL_law 1336 [.ref 200, .ref 0, .ref 94, .int (nI i)] [] τ Q) : X (some (n, xs)) (d + 60) mL_law 387 [.ref 200, .ref 0, .ref 94, .int (nI i)] [] σ Q := by
  refine x_aload_n (pc' := 388) dL_law_387 rfl rfl rfl ?_
  refine x_aload_n (pc' := 389) dL_law_388 rfl rfl rfl ?_
  refine x_iload_n (pc' := 390) dL_law_389 rfl rfl rfl ?_
  refine x_iconst (pc' := 391) (v := 1) dL_law_390 rfl (by decide) ?_
  refine x_iadd (pc' := 392) dL_law_391 rfl ?_
  refine x_sld (pc' := 393) dL_law_392 rfl (hv 1 (by omega)) ?_
  refine x_callV (d := d + 59) (pc' := 396) (As := [.int (xs (nI i + 1).toNatClampNeg)]) dL_law_393 rfl lmL_37 kd_0 rfl rfl (Nat.le_of_ble_eq_true rfl) (Nat.le_of_ble_eq_true rfl) ?_
  show X none (d + 59) mX7_counter 0 [.ref 0, .int (xs (nI i + 1).toNatClampNeg), Unk] [] σ _
  refine p_counter hC hw (fun τ1 hC1 hs1 => ?_)
  show X (some (n, xs)) (d + 60) mL_law 396 [.ref 200, .ref 0, .ref 94, .int (nI i)] [.int (o_counter S (xs (nI i + 1).toNatClampNeg)).1] τ1 Q
  have hM1 : MD τ1 S := hM.sm va_w hw hs1 (fun i k q => by unfold S94 at q; unfold SCM; omega)
  refine x_aload_n (pc' := 397) dL_law_396 rfl rfl rfl ?_
  refine x_aload_n (pc' := 398) dL_law_397 rfl rfl rfl ?_
  refine x_iload_n (pc' := 399) dL_law_398 rfl rfl rfl ?_
  refine x_iconst (pc' := 400) (v := 1) dL_law_399 rfl (by decide) ?_
  refine x_iadd (pc' := 401) dL_law_400 rfl ?_
  refine x_sld (pc' := 402) dL_law_401 rfl (hv 1 (by omega)) ?_
  refine x_callV (d := d + 59) (pc' := 405) (As := [.int (xs (nI i + 1).toNatClampNeg)]) dL_law_402 rfl lmL_40 kd_94 rfl rfl (Nat.le_of_ble_eq_true rfl) (Nat.le_of_ble_eq_true rfl) ?_
  show X none (d + 59) mX8_counter 0 [.ref 94, .int (xs (nI i + 1).toNatClampNeg), Unk] [] τ1 _
  refine q_counter va_w hM1 hw (fun τ2 hM2 hs2 => ?_)
  show X (some (n, xs)) (d + 60) mL_law 405 [.ref 200, .ref 0, .ref 94, .int (nI i)] [.int (o_counter S (xs (nI i + 1).toNatClampNeg)).1, .int (o_counter S (xs (nI i + 1).toNatClampNeg)).1] τ2 Q
  have hC2 := hC1.sm hs2 (fun i k q => by unfold SM94 at q; unfold SCR; omega)
  exact x_icmp_eq (pc' := 408) (tgt := 1336) dL_law_405 (by decide) rfl (fun _ => kk τ2 (o_counter S (xs (nI i + 1).toNatClampNeg)).2 hC2 hM2 (ws_counter hw)) (fun c => absurd rfl c)
set_option maxRecDepth 100000 in
set_option maxHeartbeats 4000000 in
theorem lc_6 (hC : CL σ S) (hM : MD σ S) (hw : WS VA0 S) (hv : ∀ k, k < 7 → vp_in (nI i + nI k) n) (kk : ∀ τ S', CL τ S' → MD τ S' → WS VA0 S' → X (some (n, xs)) (d + 60) mL_law 1336 [.ref 200, .ref 0, .ref 94, .int (nI i)] [] τ Q) : X (some (n, xs)) (d + 60) mL_law 410 [.ref 200, .ref 0, .ref 94, .int (nI i)] [] σ Q := by
  refine x_aload_n (pc' := 411) dL_law_410 rfl rfl rfl ?_
  refine x_callV (d := d + 59) (pc' := 414) (As := []) dL_law_411 rfl lmL_41 kd_0 rfl rfl (Nat.le_of_ble_eq_true rfl) (Nat.le_of_ble_eq_true rfl) ?_
  show X none (d + 59) mX7_undo 0 [.ref 0] [] σ _
  refine p_undo hC hw (fun τ1 hC1 hs1 => ?_)
  show X (some (n, xs)) (d + 60) mL_law 414 [.ref 200, .ref 0, .ref 94, .int (nI i)] [.int (o_undo S).1] τ1 Q
  have hM1 : MD τ1 S := hM.sm va_w hw hs1 (fun i k q => by unfold S94 at q; unfold SCM; omega)
  refine x_aload_n (pc' := 415) dL_law_414 rfl rfl rfl ?_
  refine x_callV (d := d + 59) (pc' := 418) (As := []) dL_law_415 rfl lmL_45 kd_94 rfl rfl (Nat.le_of_ble_eq_true rfl) (Nat.le_of_ble_eq_true rfl) ?_
  show X none (d + 59) mX8_undo 0 [.ref 94] [] τ1 _
  refine q_undo va_w hM1 hw (fun τ2 hM2 hs2 => ?_)
  show X (some (n, xs)) (d + 60) mL_law 418 [.ref 200, .ref 0, .ref 94, .int (nI i)] [.int (o_undo S).1, .int (o_undo S).1] τ2 Q
  have hC2 := hC1.sm hs2 (fun i k q => by unfold SM94 at q; unfold SCR; omega)
  exact x_icmp_eq (pc' := 421) (tgt := 1336) dL_law_418 (by decide) rfl (fun _ => kk τ2 (o_undo S).2 hC2 hM2 (ws_undo hw)) (fun c => absurd rfl c)
set_option maxRecDepth 100000 in
set_option maxHeartbeats 4000000 in
theorem lc_7 (hC : CL σ S) (hM : MD σ S) (hw : WS VA0 S) (hv : ∀ k, k < 7 → vp_in (nI i + nI k) n) (kk : ∀ τ S', CL τ S' → MD τ S' → WS VA0 S' → X (some (n, xs)) (d + 60) mL_law 1336 [.ref 200, .ref 0, .ref 94, .int (nI i)] [] τ Q) : X (some (n, xs)) (d + 60) mL_law 423 [.ref 200, .ref 0, .ref 94, .int (nI i)] [] σ Q := by
  refine x_aload_n (pc' := 424) dL_law_423 rfl rfl rfl ?_
  refine x_aload_n (pc' := 425) dL_law_424 rfl rfl rfl ?_
  refine x_iload_n (pc' := 426) dL_law_425 rfl rfl rfl ?_
  refine x_iconst (pc' := 427) (v := 1) dL_law_426 rfl (by decide) ?_
  refine x_iadd (pc' := 428) dL_law_427 rfl ?_
  refine x_sld (pc' := 429) dL_law_428 rfl (hv 1 (by omega)) ?_
  refine x_aload_n (pc' := 430) dL_law_429 rfl rfl rfl ?_
  refine x_iload_n (pc' := 431) dL_law_430 rfl rfl rfl ?_
  refine x_iconst (pc' := 432) (v := 2) dL_law_431 rfl (by decide) ?_
  refine x_iadd (pc' := 433) dL_law_432 rfl ?_
  refine x_sld (pc' := 434) dL_law_433 rfl (hv 2 (by omega)) ?_
  refine x_callV (d := d + 59) (pc' := 437) (As := [.int (xs (nI i + 1).toNatClampNeg), .int (xs (nI i + 2).toNatClampNeg)]) dL_law_434 rfl lmL_46 kd_0 rfl rfl (Nat.le_of_ble_eq_true rfl) (Nat.le_of_ble_eq_true rfl) ?_
  show X none (d + 59) mX7_of 0 [.ref 0, .int (xs (nI i + 1).toNatClampNeg), .int (xs (nI i + 2).toNatClampNeg), Unk] [] σ _
  refine p_of hC hw (fun τ1 hC1 hs1 => ?_)
  show X (some (n, xs)) (d + 60) mL_law 437 [.ref 200, .ref 0, .ref 94, .int (nI i)] [.int (o_of S (xs (nI i + 1).toNatClampNeg) (xs (nI i + 2).toNatClampNeg)).1] τ1 Q
  have hM1 : MD τ1 S := hM.sm va_w hw hs1 (fun i k q => by unfold S94 at q; unfold SCM; omega)
  refine x_aload_n (pc' := 438) dL_law_437 rfl rfl rfl ?_
  refine x_aload_n (pc' := 439) dL_law_438 rfl rfl rfl ?_
  refine x_iload_n (pc' := 440) dL_law_439 rfl rfl rfl ?_
  refine x_iconst (pc' := 441) (v := 1) dL_law_440 rfl (by decide) ?_
  refine x_iadd (pc' := 442) dL_law_441 rfl ?_
  refine x_sld (pc' := 443) dL_law_442 rfl (hv 1 (by omega)) ?_
  refine x_aload_n (pc' := 444) dL_law_443 rfl rfl rfl ?_
  refine x_iload_n (pc' := 445) dL_law_444 rfl rfl rfl ?_
  refine x_iconst (pc' := 446) (v := 2) dL_law_445 rfl (by decide) ?_
  refine x_iadd (pc' := 447) dL_law_446 rfl ?_
  refine x_sld (pc' := 448) dL_law_447 rfl (hv 2 (by omega)) ?_
  refine x_callV (d := d + 59) (pc' := 451) (As := [.int (xs (nI i + 1).toNatClampNeg), .int (xs (nI i + 2).toNatClampNeg)]) dL_law_448 rfl lmL_49 kd_94 rfl rfl (Nat.le_of_ble_eq_true rfl) (Nat.le_of_ble_eq_true rfl) ?_
  show X none (d + 59) mX8_of 0 [.ref 94, .int (xs (nI i + 1).toNatClampNeg), .int (xs (nI i + 2).toNatClampNeg), Unk] [] τ1 _
  refine q_of va_w hM1 hw (fun τ2 hM2 hs2 => ?_)
  show X (some (n, xs)) (d + 60) mL_law 451 [.ref 200, .ref 0, .ref 94, .int (nI i)] [.int (o_of S (xs (nI i + 1).toNatClampNeg) (xs (nI i + 2).toNatClampNeg)).1, .int (o_of S (xs (nI i + 1).toNatClampNeg) (xs (nI i + 2).toNatClampNeg)).1] τ2 Q
  have hC2 := hC1.sm hs2 (fun i k q => by unfold SM94 at q; unfold SCR; omega)
  exact x_icmp_eq (pc' := 454) (tgt := 1336) dL_law_451 (by decide) rfl (fun _ => kk τ2 (o_of S (xs (nI i + 1).toNatClampNeg) (xs (nI i + 2).toNatClampNeg)).2 hC2 hM2 ((by unfold o_of; (repeat' split) <;> exact hw))) (fun c => absurd rfl c)
set_option maxRecDepth 100000 in
set_option maxHeartbeats 4000000 in
theorem lc_8 (hC : CL σ S) (hM : MD σ S) (hw : WS VA0 S) (hv : ∀ k, k < 7 → vp_in (nI i + nI k) n) (kk : ∀ τ S', CL τ S' → MD τ S' → WS VA0 S' → X (some (n, xs)) (d + 60) mL_law 1336 [.ref 200, .ref 0, .ref 94, .int (nI i)] [] τ Q) : X (some (n, xs)) (d + 60) mL_law 456 [.ref 200, .ref 0, .ref 94, .int (nI i)] [] σ Q := by
  refine x_aload_n (pc' := 457) dL_law_456 rfl rfl rfl ?_
  refine x_aload_n (pc' := 458) dL_law_457 rfl rfl rfl ?_
  refine x_iload_n (pc' := 459) dL_law_458 rfl rfl rfl ?_
  refine x_iconst (pc' := 460) (v := 1) dL_law_459 rfl (by decide) ?_
  refine x_iadd (pc' := 461) dL_law_460 rfl ?_
  refine x_sld (pc' := 462) dL_law_461 rfl (hv 1 (by omega)) ?_
  refine x_callV (d := d + 59) (pc' := 465) (As := [.int (xs (nI i + 1).toNatClampNeg)]) dL_law_462 rfl lmL_50 kd_0 rfl rfl (Nat.le_of_ble_eq_true rfl) (Nat.le_of_ble_eq_true rfl) ?_
  show X none (d + 59) mX7_nth 0 [.ref 0, .int (xs (nI i + 1).toNatClampNeg)] [] σ _
  refine p_nth hC hw (fun τ1 hC1 hs1 => ?_)
  show X (some (n, xs)) (d + 60) mL_law 465 [.ref 200, .ref 0, .ref 94, .int (nI i)] [.int (o_nth S (xs (nI i + 1).toNatClampNeg)).1] τ1 Q
  have hM1 : MD τ1 S := hM.sm va_w hw hs1 (fun i k q => by unfold S94 at q; unfold SCM; omega)
  refine x_aload_n (pc' := 466) dL_law_465 rfl rfl rfl ?_
  refine x_aload_n (pc' := 467) dL_law_466 rfl rfl rfl ?_
  refine x_iload_n (pc' := 468) dL_law_467 rfl rfl rfl ?_
  refine x_iconst (pc' := 469) (v := 1) dL_law_468 rfl (by decide) ?_
  refine x_iadd (pc' := 470) dL_law_469 rfl ?_
  refine x_sld (pc' := 471) dL_law_470 rfl (hv 1 (by omega)) ?_
  refine x_callV (d := d + 59) (pc' := 474) (As := [.int (xs (nI i + 1).toNatClampNeg)]) dL_law_471 rfl lmL_53 kd_94 rfl rfl (Nat.le_of_ble_eq_true rfl) (Nat.le_of_ble_eq_true rfl) ?_
  show X none (d + 59) mX8_nth 0 [.ref 94, .int (xs (nI i + 1).toNatClampNeg), Unk, Unk] [] τ1 _
  refine q_nth va_w hM1 hw (fun τ2 hM2 hs2 => ?_)
  show X (some (n, xs)) (d + 60) mL_law 474 [.ref 200, .ref 0, .ref 94, .int (nI i)] [.int (o_nth S (xs (nI i + 1).toNatClampNeg)).1, .int (o_nth S (xs (nI i + 1).toNatClampNeg)).1] τ2 Q
  have hC2 := hC1.sm hs2 (fun i k q => by unfold SM94 at q; unfold SCR; omega)
  exact x_icmp_eq (pc' := 477) (tgt := 1336) dL_law_474 (by decide) rfl (fun _ => kk τ2 (o_nth S (xs (nI i + 1).toNatClampNeg)).2 hC2 hM2 ((by unfold o_nth; (repeat' split) <;> exact hw))) (fun c => absurd rfl c)
set_option maxRecDepth 100000 in
set_option maxHeartbeats 4000000 in
theorem lc_9 (hC : CL σ S) (hM : MD σ S) (hw : WS VA0 S) (hv : ∀ k, k < 7 → vp_in (nI i + nI k) n) (kk : ∀ τ S', CL τ S' → MD τ S' → WS VA0 S' → X (some (n, xs)) (d + 60) mL_law 1336 [.ref 200, .ref 0, .ref 94, .int (nI i)] [] τ Q) : X (some (n, xs)) (d + 60) mL_law 479 [.ref 200, .ref 0, .ref 94, .int (nI i)] [] σ Q := by
  refine x_aload_n (pc' := 480) dL_law_479 rfl rfl rfl ?_
  refine x_aload_n (pc' := 481) dL_law_480 rfl rfl rfl ?_
  refine x_iload_n (pc' := 482) dL_law_481 rfl rfl rfl ?_
  refine x_iconst (pc' := 483) (v := 1) dL_law_482 rfl (by decide) ?_
  refine x_iadd (pc' := 484) dL_law_483 rfl ?_
  refine x_sld (pc' := 485) dL_law_484 rfl (hv 1 (by omega)) ?_
  refine x_aload_n (pc' := 486) dL_law_485 rfl rfl rfl ?_
  refine x_iload_n (pc' := 487) dL_law_486 rfl rfl rfl ?_
  refine x_iconst (pc' := 488) (v := 2) dL_law_487 rfl (by decide) ?_
  refine x_iadd (pc' := 489) dL_law_488 rfl ?_
  refine x_sld (pc' := 490) dL_law_489 rfl (hv 2 (by omega)) ?_
  refine x_aload_n (pc' := 491) dL_law_490 rfl rfl rfl ?_
  refine x_iload_n (pc' := 492) dL_law_491 rfl rfl rfl ?_
  refine x_iconst (pc' := 493) (v := 3) dL_law_492 rfl (by decide) ?_
  refine x_iadd (pc' := 494) dL_law_493 rfl ?_
  refine x_sld (pc' := 495) dL_law_494 rfl (hv 3 (by omega)) ?_
  refine x_aload_n (pc' := 496) dL_law_495 rfl rfl rfl ?_
  refine x_iload_n (pc' := 497) dL_law_496 rfl rfl rfl ?_
  refine x_iconst (pc' := 498) (v := 4) dL_law_497 rfl (by decide) ?_
  refine x_iadd (pc' := 499) dL_law_498 rfl ?_
  refine x_sld (pc' := 500) dL_law_499 rfl (hv 4 (by omega)) ?_
  refine x_callV (d := d + 59) (pc' := 503) (As := [.int (xs (nI i + 1).toNatClampNeg), .int (xs (nI i + 2).toNatClampNeg), .int (xs (nI i + 3).toNatClampNeg), .int (xs (nI i + 4).toNatClampNeg)]) dL_law_500 rfl lmL_54 kd_0 rfl rfl (Nat.le_of_ble_eq_true rfl) (Nat.le_of_ble_eq_true rfl) ?_
  show X none (d + 59) mX7_count 0 [.ref 0, .int (xs (nI i + 1).toNatClampNeg), .int (xs (nI i + 2).toNatClampNeg), .int (xs (nI i + 3).toNatClampNeg), .int (xs (nI i + 4).toNatClampNeg)] [] σ _
  refine p_count hC hw (fun τ1 hC1 hs1 => ?_)
  show X (some (n, xs)) (d + 60) mL_law 503 [.ref 200, .ref 0, .ref 94, .int (nI i)] [.int (o_count S (xs (nI i + 1).toNatClampNeg) (xs (nI i + 2).toNatClampNeg) (xs (nI i + 3).toNatClampNeg) (xs (nI i + 4).toNatClampNeg)).1] τ1 Q
  have hM1 : MD τ1 S := hM.sm va_w hw hs1 (fun i k q => by unfold S94 at q; unfold SCM; omega)
  refine x_aload_n (pc' := 504) dL_law_503 rfl rfl rfl ?_
  refine x_aload_n (pc' := 505) dL_law_504 rfl rfl rfl ?_
  refine x_iload_n (pc' := 506) dL_law_505 rfl rfl rfl ?_
  refine x_iconst (pc' := 507) (v := 1) dL_law_506 rfl (by decide) ?_
  refine x_iadd (pc' := 508) dL_law_507 rfl ?_
  refine x_sld (pc' := 509) dL_law_508 rfl (hv 1 (by omega)) ?_
  refine x_aload_n (pc' := 510) dL_law_509 rfl rfl rfl ?_
  refine x_iload_n (pc' := 511) dL_law_510 rfl rfl rfl ?_
  refine x_iconst (pc' := 512) (v := 2) dL_law_511 rfl (by decide) ?_
  refine x_iadd (pc' := 513) dL_law_512 rfl ?_
  refine x_sld (pc' := 514) dL_law_513 rfl (hv 2 (by omega)) ?_
  refine x_aload_n (pc' := 515) dL_law_514 rfl rfl rfl ?_
  refine x_iload_n (pc' := 516) dL_law_515 rfl rfl rfl ?_
  refine x_iconst (pc' := 517) (v := 3) dL_law_516 rfl (by decide) ?_
  refine x_iadd (pc' := 518) dL_law_517 rfl ?_
  refine x_sld (pc' := 519) dL_law_518 rfl (hv 3 (by omega)) ?_
  refine x_aload_n (pc' := 520) dL_law_519 rfl rfl rfl ?_
  refine x_iload_n (pc' := 521) dL_law_520 rfl rfl rfl ?_
  refine x_iconst (pc' := 522) (v := 4) dL_law_521 rfl (by decide) ?_
  refine x_iadd (pc' := 523) dL_law_522 rfl ?_
  refine x_sld (pc' := 524) dL_law_523 rfl (hv 4 (by omega)) ?_
  refine x_callV (d := d + 59) (pc' := 527) (As := [.int (xs (nI i + 1).toNatClampNeg), .int (xs (nI i + 2).toNatClampNeg), .int (xs (nI i + 3).toNatClampNeg), .int (xs (nI i + 4).toNatClampNeg)]) dL_law_524 rfl lmL_57 kd_94 rfl rfl (Nat.le_of_ble_eq_true rfl) (Nat.le_of_ble_eq_true rfl) ?_
  show X none (d + 59) mX8_count 0 [.ref 94, .int (xs (nI i + 1).toNatClampNeg), .int (xs (nI i + 2).toNatClampNeg), .int (xs (nI i + 3).toNatClampNeg), .int (xs (nI i + 4).toNatClampNeg), Unk, Unk] [] τ1 _
  refine q_count va_w hM1 hw (fun τ2 hM2 hs2 => ?_)
  show X (some (n, xs)) (d + 60) mL_law 527 [.ref 200, .ref 0, .ref 94, .int (nI i)] [.int (o_count S (xs (nI i + 1).toNatClampNeg) (xs (nI i + 2).toNatClampNeg) (xs (nI i + 3).toNatClampNeg) (xs (nI i + 4).toNatClampNeg)).1, .int (o_count S (xs (nI i + 1).toNatClampNeg) (xs (nI i + 2).toNatClampNeg) (xs (nI i + 3).toNatClampNeg) (xs (nI i + 4).toNatClampNeg)).1] τ2 Q
  have hC2 := hC1.sm hs2 (fun i k q => by unfold SM94 at q; unfold SCR; omega)
  exact x_icmp_eq (pc' := 530) (tgt := 1336) dL_law_527 (by decide) rfl (fun _ => kk τ2 (o_count S (xs (nI i + 1).toNatClampNeg) (xs (nI i + 2).toNatClampNeg) (xs (nI i + 3).toNatClampNeg) (xs (nI i + 4).toNatClampNeg)).2 hC2 hM2 ((by unfold o_count; (repeat' split) <;> exact hw))) (fun c => absurd rfl c)
set_option maxRecDepth 100000 in
set_option maxHeartbeats 4000000 in
theorem lc_10 (hC : CL σ S) (hM : MD σ S) (hw : WS VA0 S) (hv : ∀ k, k < 7 → vp_in (nI i + nI k) n) (kk : ∀ τ S', CL τ S' → MD τ S' → WS VA0 S' → X (some (n, xs)) (d + 60) mL_law 1336 [.ref 200, .ref 0, .ref 94, .int (nI i)] [] τ Q) : X (some (n, xs)) (d + 60) mL_law 532 [.ref 200, .ref 0, .ref 94, .int (nI i)] [] σ Q := by
  refine x_aload_n (pc' := 533) dL_law_532 rfl rfl rfl ?_
  refine x_aload_n (pc' := 534) dL_law_533 rfl rfl rfl ?_
  refine x_iload_n (pc' := 535) dL_law_534 rfl rfl rfl ?_
  refine x_iconst (pc' := 536) (v := 1) dL_law_535 rfl (by decide) ?_
  refine x_iadd (pc' := 537) dL_law_536 rfl ?_
  refine x_sld (pc' := 538) dL_law_537 rfl (hv 1 (by omega)) ?_
  refine x_aload_n (pc' := 539) dL_law_538 rfl rfl rfl ?_
  refine x_iload_n (pc' := 540) dL_law_539 rfl rfl rfl ?_
  refine x_iconst (pc' := 541) (v := 2) dL_law_540 rfl (by decide) ?_
  refine x_iadd (pc' := 542) dL_law_541 rfl ?_
  refine x_sld (pc' := 543) dL_law_542 rfl (hv 2 (by omega)) ?_
  refine x_aload_n (pc' := 544) dL_law_543 rfl rfl rfl ?_
  refine x_iload_n (pc' := 545) dL_law_544 rfl rfl rfl ?_
  refine x_iconst (pc' := 546) (v := 3) dL_law_545 rfl (by decide) ?_
  refine x_iadd (pc' := 547) dL_law_546 rfl ?_
  refine x_sld (pc' := 548) dL_law_547 rfl (hv 3 (by omega)) ?_
  refine x_aload_n (pc' := 549) dL_law_548 rfl rfl rfl ?_
  refine x_iload_n (pc' := 550) dL_law_549 rfl rfl rfl ?_
  refine x_iconst (pc' := 551) (v := 4) dL_law_550 rfl (by decide) ?_
  refine x_iadd (pc' := 552) dL_law_551 rfl ?_
  refine x_sld (pc' := 553) dL_law_552 rfl (hv 4 (by omega)) ?_
  refine x_callV (d := d + 59) (pc' := 556) (As := [.int (xs (nI i + 1).toNatClampNeg), .int (xs (nI i + 2).toNatClampNeg), .int (xs (nI i + 3).toNatClampNeg), .int (xs (nI i + 4).toNatClampNeg)]) dL_law_553 rfl lmL_58 kd_0 rfl rfl (Nat.le_of_ble_eq_true rfl) (Nat.le_of_ble_eq_true rfl) ?_
  show X none (d + 59) mX7_many 0 [.ref 0, .int (xs (nI i + 1).toNatClampNeg), .int (xs (nI i + 2).toNatClampNeg), .int (xs (nI i + 3).toNatClampNeg), .int (xs (nI i + 4).toNatClampNeg)] [] σ _
  refine p_many hC hw (fun τ1 hC1 hs1 => ?_)
  show X (some (n, xs)) (d + 60) mL_law 556 [.ref 200, .ref 0, .ref 94, .int (nI i)] [.int (o_many S (xs (nI i + 1).toNatClampNeg) (xs (nI i + 2).toNatClampNeg) (xs (nI i + 3).toNatClampNeg) (xs (nI i + 4).toNatClampNeg)).1] τ1 Q
  have hM1 : MD τ1 S := hM.sm va_w hw hs1 (fun i k q => by unfold S94 at q; unfold SCM; omega)
  refine x_aload_n (pc' := 557) dL_law_556 rfl rfl rfl ?_
  refine x_aload_n (pc' := 558) dL_law_557 rfl rfl rfl ?_
  refine x_iload_n (pc' := 559) dL_law_558 rfl rfl rfl ?_
  refine x_iconst (pc' := 560) (v := 1) dL_law_559 rfl (by decide) ?_
  refine x_iadd (pc' := 561) dL_law_560 rfl ?_
  refine x_sld (pc' := 562) dL_law_561 rfl (hv 1 (by omega)) ?_
  refine x_aload_n (pc' := 563) dL_law_562 rfl rfl rfl ?_
  refine x_iload_n (pc' := 564) dL_law_563 rfl rfl rfl ?_
  refine x_iconst (pc' := 565) (v := 2) dL_law_564 rfl (by decide) ?_
  refine x_iadd (pc' := 566) dL_law_565 rfl ?_
  refine x_sld (pc' := 567) dL_law_566 rfl (hv 2 (by omega)) ?_
  refine x_aload_n (pc' := 568) dL_law_567 rfl rfl rfl ?_
  refine x_iload_n (pc' := 569) dL_law_568 rfl rfl rfl ?_
  refine x_iconst (pc' := 570) (v := 3) dL_law_569 rfl (by decide) ?_
  refine x_iadd (pc' := 571) dL_law_570 rfl ?_
  refine x_sld (pc' := 572) dL_law_571 rfl (hv 3 (by omega)) ?_
  refine x_aload_n (pc' := 573) dL_law_572 rfl rfl rfl ?_
  refine x_iload_n (pc' := 574) dL_law_573 rfl rfl rfl ?_
  refine x_iconst (pc' := 575) (v := 4) dL_law_574 rfl (by decide) ?_
  refine x_iadd (pc' := 576) dL_law_575 rfl ?_
  refine x_sld (pc' := 577) dL_law_576 rfl (hv 4 (by omega)) ?_
  refine x_callV (d := d + 59) (pc' := 580) (As := [.int (xs (nI i + 1).toNatClampNeg), .int (xs (nI i + 2).toNatClampNeg), .int (xs (nI i + 3).toNatClampNeg), .int (xs (nI i + 4).toNatClampNeg)]) dL_law_577 rfl lmL_61 kd_94 rfl rfl (Nat.le_of_ble_eq_true rfl) (Nat.le_of_ble_eq_true rfl) ?_
  show X none (d + 59) mX8_many 0 [.ref 94, .int (xs (nI i + 1).toNatClampNeg), .int (xs (nI i + 2).toNatClampNeg), .int (xs (nI i + 3).toNatClampNeg), .int (xs (nI i + 4).toNatClampNeg)] [] τ1 _
  refine q_many va_w hM1 hw (fun τ2 hM2 hs2 => ?_)
  show X (some (n, xs)) (d + 60) mL_law 580 [.ref 200, .ref 0, .ref 94, .int (nI i)] [.int (o_many S (xs (nI i + 1).toNatClampNeg) (xs (nI i + 2).toNatClampNeg) (xs (nI i + 3).toNatClampNeg) (xs (nI i + 4).toNatClampNeg)).1, .int (o_many S (xs (nI i + 1).toNatClampNeg) (xs (nI i + 2).toNatClampNeg) (xs (nI i + 3).toNatClampNeg) (xs (nI i + 4).toNatClampNeg)).1] τ2 Q
  have hC2 := hC1.sm hs2 (fun i k q => by unfold SM94 at q; unfold SCR; omega)
  exact x_icmp_eq (pc' := 583) (tgt := 1336) dL_law_580 (by decide) rfl (fun _ => kk τ2 (o_many S (xs (nI i + 1).toNatClampNeg) (xs (nI i + 2).toNatClampNeg) (xs (nI i + 3).toNatClampNeg) (xs (nI i + 4).toNatClampNeg)).2 hC2 hM2 ((by unfold o_many; (repeat' split) <;> exact hw))) (fun c => absurd rfl c)
set_option maxRecDepth 100000 in
set_option maxHeartbeats 4000000 in
theorem lc_11 (hC : CL σ S) (hM : MD σ S) (hw : WS VA0 S) (hv : ∀ k, k < 7 → vp_in (nI i + nI k) n) (kk : ∀ τ S', CL τ S' → MD τ S' → WS VA0 S' → X (some (n, xs)) (d + 60) mL_law 1336 [.ref 200, .ref 0, .ref 94, .int (nI i)] [] τ Q) : X (some (n, xs)) (d + 60) mL_law 585 [.ref 200, .ref 0, .ref 94, .int (nI i)] [] σ Q := by
  refine x_aload_n (pc' := 586) dL_law_585 rfl rfl rfl ?_
  refine x_aload_n (pc' := 587) dL_law_586 rfl rfl rfl ?_
  refine x_iload_n (pc' := 588) dL_law_587 rfl rfl rfl ?_
  refine x_iconst (pc' := 589) (v := 1) dL_law_588 rfl (by decide) ?_
  refine x_iadd (pc' := 590) dL_law_589 rfl ?_
  refine x_sld (pc' := 591) dL_law_590 rfl (hv 1 (by omega)) ?_
  refine x_aload_n (pc' := 592) dL_law_591 rfl rfl rfl ?_
  refine x_iload_n (pc' := 593) dL_law_592 rfl rfl rfl ?_
  refine x_iconst (pc' := 594) (v := 2) dL_law_593 rfl (by decide) ?_
  refine x_iadd (pc' := 595) dL_law_594 rfl ?_
  refine x_sld (pc' := 596) dL_law_595 rfl (hv 2 (by omega)) ?_
  refine x_aload_n (pc' := 597) dL_law_596 rfl rfl rfl ?_
  refine x_iload_n (pc' := 598) dL_law_597 rfl rfl rfl ?_
  refine x_iconst (pc' := 599) (v := 3) dL_law_598 rfl (by decide) ?_
  refine x_iadd (pc' := 600) dL_law_599 rfl ?_
  refine x_sld (pc' := 601) dL_law_600 rfl (hv 3 (by omega)) ?_
  refine x_aload_n (pc' := 602) dL_law_601 rfl rfl rfl ?_
  refine x_iload_n (pc' := 603) dL_law_602 rfl rfl rfl ?_
  refine x_iconst (pc' := 604) (v := 4) dL_law_603 rfl (by decide) ?_
  refine x_iadd (pc' := 605) dL_law_604 rfl ?_
  refine x_sld (pc' := 606) dL_law_605 rfl (hv 4 (by omega)) ?_
  refine x_aload_n (pc' := 607) dL_law_606 rfl rfl rfl ?_
  refine x_iload_n (pc' := 608) dL_law_607 rfl rfl rfl ?_
  refine x_iconst (pc' := 609) (v := 5) dL_law_608 rfl (by decide) ?_
  refine x_iadd (pc' := 610) dL_law_609 rfl ?_
  refine x_sld (pc' := 611) dL_law_610 rfl (hv 5 (by omega)) ?_
  refine x_callV (d := d + 59) (pc' := 614) (As := [.int (xs (nI i + 1).toNatClampNeg), .int (xs (nI i + 2).toNatClampNeg), .int (xs (nI i + 3).toNatClampNeg), .int (xs (nI i + 4).toNatClampNeg), .int (xs (nI i + 5).toNatClampNeg)]) dL_law_611 rfl lmL_62 kd_0 rfl rfl (Nat.le_of_ble_eq_true rfl) (Nat.le_of_ble_eq_true rfl) ?_
  show X none (d + 59) mX7_kth 0 [.ref 0, .int (xs (nI i + 1).toNatClampNeg), .int (xs (nI i + 2).toNatClampNeg), .int (xs (nI i + 3).toNatClampNeg), .int (xs (nI i + 4).toNatClampNeg), .int (xs (nI i + 5).toNatClampNeg)] [] σ _
  refine p_kth hC hw (fun τ1 hC1 hs1 => ?_)
  show X (some (n, xs)) (d + 60) mL_law 614 [.ref 200, .ref 0, .ref 94, .int (nI i)] [.int (o_kth S (xs (nI i + 1).toNatClampNeg) (xs (nI i + 2).toNatClampNeg) (xs (nI i + 3).toNatClampNeg) (xs (nI i + 4).toNatClampNeg) (xs (nI i + 5).toNatClampNeg)).1] τ1 Q
  have hM1 : MD τ1 S := hM.sm va_w hw hs1 (fun i k q => by unfold S94 at q; unfold SCM; omega)
  refine x_aload_n (pc' := 615) dL_law_614 rfl rfl rfl ?_
  refine x_aload_n (pc' := 616) dL_law_615 rfl rfl rfl ?_
  refine x_iload_n (pc' := 617) dL_law_616 rfl rfl rfl ?_
  refine x_iconst (pc' := 618) (v := 1) dL_law_617 rfl (by decide) ?_
  refine x_iadd (pc' := 619) dL_law_618 rfl ?_
  refine x_sld (pc' := 620) dL_law_619 rfl (hv 1 (by omega)) ?_
  refine x_aload_n (pc' := 621) dL_law_620 rfl rfl rfl ?_
  refine x_iload_n (pc' := 622) dL_law_621 rfl rfl rfl ?_
  refine x_iconst (pc' := 623) (v := 2) dL_law_622 rfl (by decide) ?_
  refine x_iadd (pc' := 624) dL_law_623 rfl ?_
  refine x_sld (pc' := 625) dL_law_624 rfl (hv 2 (by omega)) ?_
  refine x_aload_n (pc' := 626) dL_law_625 rfl rfl rfl ?_
  refine x_iload_n (pc' := 627) dL_law_626 rfl rfl rfl ?_
  refine x_iconst (pc' := 628) (v := 3) dL_law_627 rfl (by decide) ?_
  refine x_iadd (pc' := 629) dL_law_628 rfl ?_
  refine x_sld (pc' := 630) dL_law_629 rfl (hv 3 (by omega)) ?_
  refine x_aload_n (pc' := 631) dL_law_630 rfl rfl rfl ?_
  refine x_iload_n (pc' := 632) dL_law_631 rfl rfl rfl ?_
  refine x_iconst (pc' := 633) (v := 4) dL_law_632 rfl (by decide) ?_
  refine x_iadd (pc' := 634) dL_law_633 rfl ?_
  refine x_sld (pc' := 635) dL_law_634 rfl (hv 4 (by omega)) ?_
  refine x_aload_n (pc' := 636) dL_law_635 rfl rfl rfl ?_
  refine x_iload_n (pc' := 637) dL_law_636 rfl rfl rfl ?_
  refine x_iconst (pc' := 638) (v := 5) dL_law_637 rfl (by decide) ?_
  refine x_iadd (pc' := 639) dL_law_638 rfl ?_
  refine x_sld (pc' := 640) dL_law_639 rfl (hv 5 (by omega)) ?_
  refine x_callV (d := d + 59) (pc' := 643) (As := [.int (xs (nI i + 1).toNatClampNeg), .int (xs (nI i + 2).toNatClampNeg), .int (xs (nI i + 3).toNatClampNeg), .int (xs (nI i + 4).toNatClampNeg), .int (xs (nI i + 5).toNatClampNeg)]) dL_law_640 rfl lmL_66 kd_94 rfl rfl (Nat.le_of_ble_eq_true rfl) (Nat.le_of_ble_eq_true rfl) ?_
  show X none (d + 59) mX8_kth 0 [.ref 94, .int (xs (nI i + 1).toNatClampNeg), .int (xs (nI i + 2).toNatClampNeg), .int (xs (nI i + 3).toNatClampNeg), .int (xs (nI i + 4).toNatClampNeg), .int (xs (nI i + 5).toNatClampNeg)] [] τ1 _
  refine q_kth va_w hM1 hw (fun τ2 hM2 hs2 => ?_)
  show X (some (n, xs)) (d + 60) mL_law 643 [.ref 200, .ref 0, .ref 94, .int (nI i)] [.int (o_kth S (xs (nI i + 1).toNatClampNeg) (xs (nI i + 2).toNatClampNeg) (xs (nI i + 3).toNatClampNeg) (xs (nI i + 4).toNatClampNeg) (xs (nI i + 5).toNatClampNeg)).1, .int (o_kth S (xs (nI i + 1).toNatClampNeg) (xs (nI i + 2).toNatClampNeg) (xs (nI i + 3).toNatClampNeg) (xs (nI i + 4).toNatClampNeg) (xs (nI i + 5).toNatClampNeg)).1] τ2 Q
  have hC2 := hC1.sm hs2 (fun i k q => by unfold SM94 at q; unfold SCR; omega)
  exact x_icmp_eq (pc' := 646) (tgt := 1336) dL_law_643 (by decide) rfl (fun _ => kk τ2 (o_kth S (xs (nI i + 1).toNatClampNeg) (xs (nI i + 2).toNatClampNeg) (xs (nI i + 3).toNatClampNeg) (xs (nI i + 4).toNatClampNeg) (xs (nI i + 5).toNatClampNeg)).2 hC2 hM2 ((by unfold o_kth; (repeat' split) <;> exact hw))) (fun c => absurd rfl c)
set_option maxRecDepth 100000 in
set_option maxHeartbeats 4000000 in
theorem lc_12 (hC : CL σ S) (hM : MD σ S) (hw : WS VA0 S) (hv : ∀ k, k < 7 → vp_in (nI i + nI k) n) (kk : ∀ τ S', CL τ S' → MD τ S' → WS VA0 S' → X (some (n, xs)) (d + 60) mL_law 1336 [.ref 200, .ref 0, .ref 94, .int (nI i)] [] τ Q) : X (some (n, xs)) (d + 60) mL_law 648 [.ref 200, .ref 0, .ref 94, .int (nI i)] [] σ Q := by
  refine x_aload_n (pc' := 649) dL_law_648 rfl rfl rfl ?_
  refine x_aload_n (pc' := 650) dL_law_649 rfl rfl rfl ?_
  refine x_iload_n (pc' := 651) dL_law_650 rfl rfl rfl ?_
  refine x_iconst (pc' := 652) (v := 1) dL_law_651 rfl (by decide) ?_
  refine x_iadd (pc' := 653) dL_law_652 rfl ?_
  refine x_sld (pc' := 654) dL_law_653 rfl (hv 1 (by omega)) ?_
  refine x_aload_n (pc' := 655) dL_law_654 rfl rfl rfl ?_
  refine x_iload_n (pc' := 656) dL_law_655 rfl rfl rfl ?_
  refine x_iconst (pc' := 657) (v := 2) dL_law_656 rfl (by decide) ?_
  refine x_iadd (pc' := 658) dL_law_657 rfl ?_
  refine x_sld (pc' := 659) dL_law_658 rfl (hv 2 (by omega)) ?_
  refine x_aload_n (pc' := 660) dL_law_659 rfl rfl rfl ?_
  refine x_iload_n (pc' := 661) dL_law_660 rfl rfl rfl ?_
  refine x_iconst (pc' := 662) (v := 3) dL_law_661 rfl (by decide) ?_
  refine x_iadd (pc' := 663) dL_law_662 rfl ?_
  refine x_sld (pc' := 664) dL_law_663 rfl (hv 3 (by omega)) ?_
  refine x_aload_n (pc' := 665) dL_law_664 rfl rfl rfl ?_
  refine x_iload_n (pc' := 666) dL_law_665 rfl rfl rfl ?_
  refine x_iconst (pc' := 667) (v := 4) dL_law_666 rfl (by decide) ?_
  refine x_iadd (pc' := 668) dL_law_667 rfl ?_
  refine x_sld (pc' := 669) dL_law_668 rfl (hv 4 (by omega)) ?_
  refine x_callV (d := d + 59) (pc' := 672) (As := [.int (xs (nI i + 1).toNatClampNeg), .int (xs (nI i + 2).toNatClampNeg), .int (xs (nI i + 3).toNatClampNeg), .int (xs (nI i + 4).toNatClampNeg)]) dL_law_669 rfl lmL_67 kd_0 rfl rfl (Nat.le_of_ble_eq_true rfl) (Nat.le_of_ble_eq_true rfl) ?_
  show X none (d + 59) mX7_half 0 [.ref 0, .int (xs (nI i + 1).toNatClampNeg), .int (xs (nI i + 2).toNatClampNeg), .int (xs (nI i + 3).toNatClampNeg), .int (xs (nI i + 4).toNatClampNeg), Unk] [] σ _
  refine p_half hC hw (fun τ1 hC1 hs1 => ?_)
  show X (some (n, xs)) (d + 60) mL_law 672 [.ref 200, .ref 0, .ref 94, .int (nI i)] [.int (o_half S (xs (nI i + 1).toNatClampNeg) (xs (nI i + 2).toNatClampNeg) (xs (nI i + 3).toNatClampNeg) (xs (nI i + 4).toNatClampNeg)).1] τ1 Q
  have hM1 : MD τ1 S := hM.sm va_w hw hs1 (fun i k q => by unfold S94 at q; unfold SCM; omega)
  refine x_aload_n (pc' := 673) dL_law_672 rfl rfl rfl ?_
  refine x_aload_n (pc' := 674) dL_law_673 rfl rfl rfl ?_
  refine x_iload_n (pc' := 675) dL_law_674 rfl rfl rfl ?_
  refine x_iconst (pc' := 676) (v := 1) dL_law_675 rfl (by decide) ?_
  refine x_iadd (pc' := 677) dL_law_676 rfl ?_
  refine x_sld (pc' := 678) dL_law_677 rfl (hv 1 (by omega)) ?_
  refine x_aload_n (pc' := 679) dL_law_678 rfl rfl rfl ?_
  refine x_iload_n (pc' := 680) dL_law_679 rfl rfl rfl ?_
  refine x_iconst (pc' := 681) (v := 2) dL_law_680 rfl (by decide) ?_
  refine x_iadd (pc' := 682) dL_law_681 rfl ?_
  refine x_sld (pc' := 683) dL_law_682 rfl (hv 2 (by omega)) ?_
  refine x_aload_n (pc' := 684) dL_law_683 rfl rfl rfl ?_
  refine x_iload_n (pc' := 685) dL_law_684 rfl rfl rfl ?_
  refine x_iconst (pc' := 686) (v := 3) dL_law_685 rfl (by decide) ?_
  refine x_iadd (pc' := 687) dL_law_686 rfl ?_
  refine x_sld (pc' := 688) dL_law_687 rfl (hv 3 (by omega)) ?_
  refine x_aload_n (pc' := 689) dL_law_688 rfl rfl rfl ?_
  refine x_iload_n (pc' := 690) dL_law_689 rfl rfl rfl ?_
  refine x_iconst (pc' := 691) (v := 4) dL_law_690 rfl (by decide) ?_
  refine x_iadd (pc' := 692) dL_law_691 rfl ?_
  refine x_sld (pc' := 693) dL_law_692 rfl (hv 4 (by omega)) ?_
  refine x_callV (d := d + 59) (pc' := 696) (As := [.int (xs (nI i + 1).toNatClampNeg), .int (xs (nI i + 2).toNatClampNeg), .int (xs (nI i + 3).toNatClampNeg), .int (xs (nI i + 4).toNatClampNeg)]) dL_law_693 rfl lmL_70 kd_94 rfl rfl (Nat.le_of_ble_eq_true rfl) (Nat.le_of_ble_eq_true rfl) ?_
  show X none (d + 59) mX8_half 0 [.ref 94, .int (xs (nI i + 1).toNatClampNeg), .int (xs (nI i + 2).toNatClampNeg), .int (xs (nI i + 3).toNatClampNeg), .int (xs (nI i + 4).toNatClampNeg)] [] τ1 _
  refine q_half va_w hM1 hw (fun τ2 hM2 hs2 => ?_)
  show X (some (n, xs)) (d + 60) mL_law 696 [.ref 200, .ref 0, .ref 94, .int (nI i)] [.int (o_half S (xs (nI i + 1).toNatClampNeg) (xs (nI i + 2).toNatClampNeg) (xs (nI i + 3).toNatClampNeg) (xs (nI i + 4).toNatClampNeg)).1, .int (o_half S (xs (nI i + 1).toNatClampNeg) (xs (nI i + 2).toNatClampNeg) (xs (nI i + 3).toNatClampNeg) (xs (nI i + 4).toNatClampNeg)).1] τ2 Q
  have hC2 := hC1.sm hs2 (fun i k q => by unfold SM94 at q; unfold SCR; omega)
  exact x_icmp_eq (pc' := 699) (tgt := 1336) dL_law_696 (by decide) rfl (fun _ => kk τ2 (o_half S (xs (nI i + 1).toNatClampNeg) (xs (nI i + 2).toNatClampNeg) (xs (nI i + 3).toNatClampNeg) (xs (nI i + 4).toNatClampNeg)).2 hC2 hM2 ((by unfold o_half; (repeat' split) <;> exact hw))) (fun c => absurd rfl c)
set_option maxRecDepth 100000 in
set_option maxHeartbeats 4000000 in
theorem lc_13 (hC : CL σ S) (hM : MD σ S) (hw : WS VA0 S) (hv : ∀ k, k < 7 → vp_in (nI i + nI k) n) (kk : ∀ τ S', CL τ S' → MD τ S' → WS VA0 S' → X (some (n, xs)) (d + 60) mL_law 1336 [.ref 200, .ref 0, .ref 94, .int (nI i)] [] τ Q) : X (some (n, xs)) (d + 60) mL_law 701 [.ref 200, .ref 0, .ref 94, .int (nI i)] [] σ Q := by
  refine x_aload_n (pc' := 702) dL_law_701 rfl rfl rfl ?_
  refine x_aload_n (pc' := 703) dL_law_702 rfl rfl rfl ?_
  refine x_iload_n (pc' := 704) dL_law_703 rfl rfl rfl ?_
  refine x_iconst (pc' := 705) (v := 1) dL_law_704 rfl (by decide) ?_
  refine x_iadd (pc' := 706) dL_law_705 rfl ?_
  refine x_sld (pc' := 707) dL_law_706 rfl (hv 1 (by omega)) ?_
  refine x_aload_n (pc' := 708) dL_law_707 rfl rfl rfl ?_
  refine x_iload_n (pc' := 709) dL_law_708 rfl rfl rfl ?_
  refine x_iconst (pc' := 710) (v := 2) dL_law_709 rfl (by decide) ?_
  refine x_iadd (pc' := 711) dL_law_710 rfl ?_
  refine x_sld (pc' := 712) dL_law_711 rfl (hv 2 (by omega)) ?_
  refine x_callV (d := d + 59) (pc' := 715) (As := [.int (xs (nI i + 1).toNatClampNeg), .int (xs (nI i + 2).toNatClampNeg)]) dL_law_712 rfl lmL_71 kd_0 rfl rfl (Nat.le_of_ble_eq_true rfl) (Nat.le_of_ble_eq_true rfl) ?_
  show X none (d + 59) mX7_below 0 [.ref 0, .int (xs (nI i + 1).toNatClampNeg), .int (xs (nI i + 2).toNatClampNeg)] [] σ _
  refine p_below hC hw (fun τ1 hC1 hs1 => ?_)
  show X (some (n, xs)) (d + 60) mL_law 715 [.ref 200, .ref 0, .ref 94, .int (nI i)] [.int (o_below S (xs (nI i + 1).toNatClampNeg) (xs (nI i + 2).toNatClampNeg)).1] τ1 Q
  have hM1 : MD τ1 S := hM.sm va_w hw hs1 (fun i k q => by unfold S94 at q; unfold SCM; omega)
  refine x_aload_n (pc' := 716) dL_law_715 rfl rfl rfl ?_
  refine x_aload_n (pc' := 717) dL_law_716 rfl rfl rfl ?_
  refine x_iload_n (pc' := 718) dL_law_717 rfl rfl rfl ?_
  refine x_iconst (pc' := 719) (v := 1) dL_law_718 rfl (by decide) ?_
  refine x_iadd (pc' := 720) dL_law_719 rfl ?_
  refine x_sld (pc' := 721) dL_law_720 rfl (hv 1 (by omega)) ?_
  refine x_aload_n (pc' := 722) dL_law_721 rfl rfl rfl ?_
  refine x_iload_n (pc' := 723) dL_law_722 rfl rfl rfl ?_
  refine x_iconst (pc' := 724) (v := 2) dL_law_723 rfl (by decide) ?_
  refine x_iadd (pc' := 725) dL_law_724 rfl ?_
  refine x_sld (pc' := 726) dL_law_725 rfl (hv 2 (by omega)) ?_
  refine x_callV (d := d + 59) (pc' := 729) (As := [.int (xs (nI i + 1).toNatClampNeg), .int (xs (nI i + 2).toNatClampNeg)]) dL_law_726 rfl lmL_74 kd_94 rfl rfl (Nat.le_of_ble_eq_true rfl) (Nat.le_of_ble_eq_true rfl) ?_
  show X none (d + 59) mX8_below 0 [.ref 94, .int (xs (nI i + 1).toNatClampNeg), .int (xs (nI i + 2).toNatClampNeg)] [] τ1 _
  refine q_below va_w hM1 hw (fun τ2 hM2 hs2 => ?_)
  show X (some (n, xs)) (d + 60) mL_law 729 [.ref 200, .ref 0, .ref 94, .int (nI i)] [.int (o_below S (xs (nI i + 1).toNatClampNeg) (xs (nI i + 2).toNatClampNeg)).1, .int (o_below S (xs (nI i + 1).toNatClampNeg) (xs (nI i + 2).toNatClampNeg)).1] τ2 Q
  have hC2 := hC1.sm hs2 (fun i k q => by unfold SM94 at q; unfold SCR; omega)
  exact x_icmp_eq (pc' := 732) (tgt := 1336) dL_law_729 (by decide) rfl (fun _ => kk τ2 (o_below S (xs (nI i + 1).toNatClampNeg) (xs (nI i + 2).toNatClampNeg)).2 hC2 hM2 ((by unfold o_below; (repeat' split) <;> exact hw))) (fun c => absurd rfl c)
set_option maxRecDepth 100000 in
set_option maxHeartbeats 4000000 in
theorem lc_14 (hC : CL σ S) (hM : MD σ S) (hw : WS VA0 S) (hv : ∀ k, k < 7 → vp_in (nI i + nI k) n) (kk : ∀ τ S', CL τ S' → MD τ S' → WS VA0 S' → X (some (n, xs)) (d + 60) mL_law 1336 [.ref 200, .ref 0, .ref 94, .int (nI i)] [] τ Q) : X (some (n, xs)) (d + 60) mL_law 734 [.ref 200, .ref 0, .ref 94, .int (nI i)] [] σ Q := by
  refine x_aload_n (pc' := 735) dL_law_734 rfl rfl rfl ?_
  refine x_aload_n (pc' := 736) dL_law_735 rfl rfl rfl ?_
  refine x_iload_n (pc' := 737) dL_law_736 rfl rfl rfl ?_
  refine x_iconst (pc' := 738) (v := 1) dL_law_737 rfl (by decide) ?_
  refine x_iadd (pc' := 739) dL_law_738 rfl ?_
  refine x_sld (pc' := 740) dL_law_739 rfl (hv 1 (by omega)) ?_
  refine x_aload_n (pc' := 741) dL_law_740 rfl rfl rfl ?_
  refine x_iload_n (pc' := 742) dL_law_741 rfl rfl rfl ?_
  refine x_iconst (pc' := 743) (v := 2) dL_law_742 rfl (by decide) ?_
  refine x_iadd (pc' := 744) dL_law_743 rfl ?_
  refine x_sld (pc' := 745) dL_law_744 rfl (hv 2 (by omega)) ?_
  refine x_aload_n (pc' := 746) dL_law_745 rfl rfl rfl ?_
  refine x_iload_n (pc' := 747) dL_law_746 rfl rfl rfl ?_
  refine x_iconst (pc' := 748) (v := 3) dL_law_747 rfl (by decide) ?_
  refine x_iadd (pc' := 749) dL_law_748 rfl ?_
  refine x_sld (pc' := 750) dL_law_749 rfl (hv 3 (by omega)) ?_
  refine x_callV (d := d + 59) (pc' := 753) (As := [.int (xs (nI i + 1).toNatClampNeg), .int (xs (nI i + 2).toNatClampNeg), .int (xs (nI i + 3).toNatClampNeg)]) dL_law_750 rfl lmL_75 kd_0 rfl rfl (Nat.le_of_ble_eq_true rfl) (Nat.le_of_ble_eq_true rfl) ?_
  show X none (d + 59) mX7_ring 0 [.ref 0, .int (xs (nI i + 1).toNatClampNeg), .int (xs (nI i + 2).toNatClampNeg), .int (xs (nI i + 3).toNatClampNeg), Unk, Unk, Unk] [] σ _
  refine p_ring hC hw (fun τ1 hC1 hs1 => ?_)
  show X (some (n, xs)) (d + 60) mL_law 753 [.ref 200, .ref 0, .ref 94, .int (nI i)] [.int (o_ring S (xs (nI i + 1).toNatClampNeg) (xs (nI i + 2).toNatClampNeg) (xs (nI i + 3).toNatClampNeg)).1] τ1 Q
  have hM1 : MD τ1 S := hM.sm va_w hw hs1 (fun i k q => by unfold S94 at q; unfold SCM; omega)
  refine x_aload_n (pc' := 754) dL_law_753 rfl rfl rfl ?_
  refine x_aload_n (pc' := 755) dL_law_754 rfl rfl rfl ?_
  refine x_iload_n (pc' := 756) dL_law_755 rfl rfl rfl ?_
  refine x_iconst (pc' := 757) (v := 1) dL_law_756 rfl (by decide) ?_
  refine x_iadd (pc' := 758) dL_law_757 rfl ?_
  refine x_sld (pc' := 759) dL_law_758 rfl (hv 1 (by omega)) ?_
  refine x_aload_n (pc' := 760) dL_law_759 rfl rfl rfl ?_
  refine x_iload_n (pc' := 761) dL_law_760 rfl rfl rfl ?_
  refine x_iconst (pc' := 762) (v := 2) dL_law_761 rfl (by decide) ?_
  refine x_iadd (pc' := 763) dL_law_762 rfl ?_
  refine x_sld (pc' := 764) dL_law_763 rfl (hv 2 (by omega)) ?_
  refine x_aload_n (pc' := 765) dL_law_764 rfl rfl rfl ?_
  refine x_iload_n (pc' := 766) dL_law_765 rfl rfl rfl ?_
  refine x_iconst (pc' := 767) (v := 3) dL_law_766 rfl (by decide) ?_
  refine x_iadd (pc' := 768) dL_law_767 rfl ?_
  refine x_sld (pc' := 769) dL_law_768 rfl (hv 3 (by omega)) ?_
  refine x_callV (d := d + 59) (pc' := 772) (As := [.int (xs (nI i + 1).toNatClampNeg), .int (xs (nI i + 2).toNatClampNeg), .int (xs (nI i + 3).toNatClampNeg)]) dL_law_769 rfl lmL_78 kd_94 rfl rfl (Nat.le_of_ble_eq_true rfl) (Nat.le_of_ble_eq_true rfl) ?_
  show X none (d + 59) mX8_ring 0 [.ref 94, .int (xs (nI i + 1).toNatClampNeg), .int (xs (nI i + 2).toNatClampNeg), .int (xs (nI i + 3).toNatClampNeg), Unk] [] τ1 _
  refine q_ring va_w hM1 hw (fun τ2 hM2 hs2 => ?_)
  show X (some (n, xs)) (d + 60) mL_law 772 [.ref 200, .ref 0, .ref 94, .int (nI i)] [.int (o_ring S (xs (nI i + 1).toNatClampNeg) (xs (nI i + 2).toNatClampNeg) (xs (nI i + 3).toNatClampNeg)).1, .int (o_ring S (xs (nI i + 1).toNatClampNeg) (xs (nI i + 2).toNatClampNeg) (xs (nI i + 3).toNatClampNeg)).1] τ2 Q
  have hC2 := hC1.sm hs2 (fun i k q => by unfold SM94 at q; unfold SCR; omega)
  exact x_icmp_eq (pc' := 775) (tgt := 1336) dL_law_772 (by decide) rfl (fun _ => kk τ2 (o_ring S (xs (nI i + 1).toNatClampNeg) (xs (nI i + 2).toNatClampNeg) (xs (nI i + 3).toNatClampNeg)).2 hC2 hM2 ((by unfold o_ring; (repeat' split) <;> exact hw))) (fun c => absurd rfl c)
set_option maxRecDepth 100000 in
set_option maxHeartbeats 4000000 in
theorem lc_15 (hC : CL σ S) (hM : MD σ S) (hw : WS VA0 S) (hv : ∀ k, k < 7 → vp_in (nI i + nI k) n) (kk : ∀ τ S', CL τ S' → MD τ S' → WS VA0 S' → X (some (n, xs)) (d + 60) mL_law 1336 [.ref 200, .ref 0, .ref 94, .int (nI i)] [] τ Q) : X (some (n, xs)) (d + 60) mL_law 777 [.ref 200, .ref 0, .ref 94, .int (nI i)] [] σ Q := by
  refine x_aload_n (pc' := 778) dL_law_777 rfl rfl rfl ?_
  refine x_aload_n (pc' := 779) dL_law_778 rfl rfl rfl ?_
  refine x_iload_n (pc' := 780) dL_law_779 rfl rfl rfl ?_
  refine x_iconst (pc' := 781) (v := 1) dL_law_780 rfl (by decide) ?_
  refine x_iadd (pc' := 782) dL_law_781 rfl ?_
  refine x_sld (pc' := 783) dL_law_782 rfl (hv 1 (by omega)) ?_
  refine x_aload_n (pc' := 784) dL_law_783 rfl rfl rfl ?_
  refine x_iload_n (pc' := 785) dL_law_784 rfl rfl rfl ?_
  refine x_iconst (pc' := 786) (v := 2) dL_law_785 rfl (by decide) ?_
  refine x_iadd (pc' := 787) dL_law_786 rfl ?_
  refine x_sld (pc' := 788) dL_law_787 rfl (hv 2 (by omega)) ?_
  refine x_callV (d := d + 59) (pc' := 791) (As := [.int (xs (nI i + 1).toNatClampNeg), .int (xs (nI i + 2).toNatClampNeg)]) dL_law_788 rfl lmL_79 kd_0 rfl rfl (Nat.le_of_ble_eq_true rfl) (Nat.le_of_ble_eq_true rfl) ?_
  show X none (d + 59) mX7_near 0 [.ref 0, .int (xs (nI i + 1).toNatClampNeg), .int (xs (nI i + 2).toNatClampNeg), Unk, Unk, Unk, Unk] [] σ _
  refine p_near hC hw (fun τ1 hC1 hs1 => ?_)
  show X (some (n, xs)) (d + 60) mL_law 791 [.ref 200, .ref 0, .ref 94, .int (nI i)] [.int (o_near S (xs (nI i + 1).toNatClampNeg) (xs (nI i + 2).toNatClampNeg)).1] τ1 Q
  have hM1 : MD τ1 S := hM.sm va_w hw hs1 (fun i k q => by unfold S94 at q; unfold SCM; omega)
  refine x_aload_n (pc' := 792) dL_law_791 rfl rfl rfl ?_
  refine x_aload_n (pc' := 793) dL_law_792 rfl rfl rfl ?_
  refine x_iload_n (pc' := 794) dL_law_793 rfl rfl rfl ?_
  refine x_iconst (pc' := 795) (v := 1) dL_law_794 rfl (by decide) ?_
  refine x_iadd (pc' := 796) dL_law_795 rfl ?_
  refine x_sld (pc' := 797) dL_law_796 rfl (hv 1 (by omega)) ?_
  refine x_aload_n (pc' := 798) dL_law_797 rfl rfl rfl ?_
  refine x_iload_n (pc' := 799) dL_law_798 rfl rfl rfl ?_
  refine x_iconst (pc' := 800) (v := 2) dL_law_799 rfl (by decide) ?_
  refine x_iadd (pc' := 801) dL_law_800 rfl ?_
  refine x_sld (pc' := 802) dL_law_801 rfl (hv 2 (by omega)) ?_
  refine x_callV (d := d + 59) (pc' := 805) (As := [.int (xs (nI i + 1).toNatClampNeg), .int (xs (nI i + 2).toNatClampNeg)]) dL_law_802 rfl lmL_82 kd_94 rfl rfl (Nat.le_of_ble_eq_true rfl) (Nat.le_of_ble_eq_true rfl) ?_
  show X none (d + 59) mX8_near 0 [.ref 94, .int (xs (nI i + 1).toNatClampNeg), .int (xs (nI i + 2).toNatClampNeg), Unk, Unk, Unk, Unk] [] τ1 _
  refine q_near va_w hM1 hw (fun τ2 hM2 hs2 => ?_)
  show X (some (n, xs)) (d + 60) mL_law 805 [.ref 200, .ref 0, .ref 94, .int (nI i)] [.int (o_near S (xs (nI i + 1).toNatClampNeg) (xs (nI i + 2).toNatClampNeg)).1, .int (o_near S (xs (nI i + 1).toNatClampNeg) (xs (nI i + 2).toNatClampNeg)).1] τ2 Q
  have hC2 := hC1.sm hs2 (fun i k q => by unfold SM94 at q; unfold SCR; omega)
  exact x_icmp_eq (pc' := 808) (tgt := 1336) dL_law_805 (by decide) rfl (fun _ => kk τ2 (o_near S (xs (nI i + 1).toNatClampNeg) (xs (nI i + 2).toNatClampNeg)).2 hC2 hM2 ((by unfold o_near; (repeat' split) <;> exact hw))) (fun c => absurd rfl c)
set_option maxRecDepth 100000 in
set_option maxHeartbeats 4000000 in
theorem lc_16 (hC : CL σ S) (hM : MD σ S) (hw : WS VA0 S) (hv : ∀ k, k < 7 → vp_in (nI i + nI k) n) (kk : ∀ τ S', CL τ S' → MD τ S' → WS VA0 S' → X (some (n, xs)) (d + 60) mL_law 1336 [.ref 200, .ref 0, .ref 94, .int (nI i)] [] τ Q) : X (some (n, xs)) (d + 60) mL_law 810 [.ref 200, .ref 0, .ref 94, .int (nI i)] [] σ Q := by
  refine x_aload_n (pc' := 811) dL_law_810 rfl rfl rfl ?_
  refine x_aload_n (pc' := 812) dL_law_811 rfl rfl rfl ?_
  refine x_iload_n (pc' := 813) dL_law_812 rfl rfl rfl ?_
  refine x_iconst (pc' := 814) (v := 1) dL_law_813 rfl (by decide) ?_
  refine x_iadd (pc' := 815) dL_law_814 rfl ?_
  refine x_sld (pc' := 816) dL_law_815 rfl (hv 1 (by omega)) ?_
  refine x_callV (d := d + 59) (pc' := 819) (As := [.int (xs (nI i + 1).toNatClampNeg)]) dL_law_816 rfl lmL_83 kd_0 rfl rfl (Nat.le_of_ble_eq_true rfl) (Nat.le_of_ble_eq_true rfl) ?_
  show X none (d + 59) mX7_strip 0 [.ref 0, .int (xs (nI i + 1).toNatClampNeg), Unk, Unk, Unk, Unk, Unk] [] σ _
  refine p_strip hC hw (fun τ1 hC1 hs1 => ?_)
  show X (some (n, xs)) (d + 60) mL_law 819 [.ref 200, .ref 0, .ref 94, .int (nI i)] [.int (o_strip S (xs (nI i + 1).toNatClampNeg)).1] τ1 Q
  have hM1 : MD τ1 S := hM.sm va_w hw hs1 (fun i k q => by unfold S94 at q; unfold SCM; omega)
  refine x_aload_n (pc' := 820) dL_law_819 rfl rfl rfl ?_
  refine x_aload_n (pc' := 821) dL_law_820 rfl rfl rfl ?_
  refine x_iload_n (pc' := 822) dL_law_821 rfl rfl rfl ?_
  refine x_iconst (pc' := 823) (v := 1) dL_law_822 rfl (by decide) ?_
  refine x_iadd (pc' := 824) dL_law_823 rfl ?_
  refine x_sld (pc' := 825) dL_law_824 rfl (hv 1 (by omega)) ?_
  refine x_callV (d := d + 59) (pc' := 828) (As := [.int (xs (nI i + 1).toNatClampNeg)]) dL_law_825 rfl lmL_86 kd_94 rfl rfl (Nat.le_of_ble_eq_true rfl) (Nat.le_of_ble_eq_true rfl) ?_
  show X none (d + 59) mX8_strip 0 [.ref 94, .int (xs (nI i + 1).toNatClampNeg), Unk, Unk, Unk, Unk] [] τ1 _
  refine q_strip va_w hM1 hw (fun τ2 hM2 hs2 => ?_)
  show X (some (n, xs)) (d + 60) mL_law 828 [.ref 200, .ref 0, .ref 94, .int (nI i)] [.int (o_strip S (xs (nI i + 1).toNatClampNeg)).1, .int (o_strip S (xs (nI i + 1).toNatClampNeg)).1] τ2 Q
  have hC2 := hC1.sm hs2 (fun i k q => by unfold SM94 at q; unfold SCR; omega)
  exact x_icmp_eq (pc' := 831) (tgt := 1336) dL_law_828 (by decide) rfl (fun _ => kk τ2 (o_strip S (xs (nI i + 1).toNatClampNeg)).2 hC2 hM2 ((by unfold o_strip; (repeat' split) <;> exact hw))) (fun c => absurd rfl c)
set_option maxRecDepth 100000 in
set_option maxHeartbeats 4000000 in
theorem lc_17 (hC : CL σ S) (hM : MD σ S) (hw : WS VA0 S) (hv : ∀ k, k < 7 → vp_in (nI i + nI k) n) (kk : ∀ τ S', CL τ S' → MD τ S' → WS VA0 S' → X (some (n, xs)) (d + 60) mL_law 1336 [.ref 200, .ref 0, .ref 94, .int (nI i)] [] τ Q) : X (some (n, xs)) (d + 60) mL_law 833 [.ref 200, .ref 0, .ref 94, .int (nI i)] [] σ Q := by
  refine x_aload_n (pc' := 834) dL_law_833 rfl rfl rfl ?_
  refine x_aload_n (pc' := 835) dL_law_834 rfl rfl rfl ?_
  refine x_iload_n (pc' := 836) dL_law_835 rfl rfl rfl ?_
  refine x_iconst (pc' := 837) (v := 1) dL_law_836 rfl (by decide) ?_
  refine x_iadd (pc' := 838) dL_law_837 rfl ?_
  refine x_sld (pc' := 839) dL_law_838 rfl (hv 1 (by omega)) ?_
  refine x_aload_n (pc' := 840) dL_law_839 rfl rfl rfl ?_
  refine x_iload_n (pc' := 841) dL_law_840 rfl rfl rfl ?_
  refine x_iconst (pc' := 842) (v := 2) dL_law_841 rfl (by decide) ?_
  refine x_iadd (pc' := 843) dL_law_842 rfl ?_
  refine x_sld (pc' := 844) dL_law_843 rfl (hv 2 (by omega)) ?_
  refine x_callV (d := d + 59) (pc' := 847) (As := [.int (xs (nI i + 1).toNatClampNeg), .int (xs (nI i + 2).toNatClampNeg)]) dL_law_844 rfl lmL_87 kd_0 rfl rfl (Nat.le_of_ble_eq_true rfl) (Nat.le_of_ble_eq_true rfl) ?_
  show X none (d + 59) mX7_square 0 [.ref 0, .int (xs (nI i + 1).toNatClampNeg), .int (xs (nI i + 2).toNatClampNeg), Unk, Unk, Unk, Unk, Unk, Unk, Unk] [] σ _
  refine p_square hC hw (fun τ1 hC1 hs1 => ?_)
  show X (some (n, xs)) (d + 60) mL_law 847 [.ref 200, .ref 0, .ref 94, .int (nI i)] [.int (o_square S (xs (nI i + 1).toNatClampNeg) (xs (nI i + 2).toNatClampNeg)).1] τ1 Q
  have hM1 : MD τ1 S := hM.sm va_w hw hs1 (fun i k q => by unfold S94 at q; unfold SCM; omega)
  refine x_aload_n (pc' := 848) dL_law_847 rfl rfl rfl ?_
  refine x_aload_n (pc' := 849) dL_law_848 rfl rfl rfl ?_
  refine x_iload_n (pc' := 850) dL_law_849 rfl rfl rfl ?_
  refine x_iconst (pc' := 851) (v := 1) dL_law_850 rfl (by decide) ?_
  refine x_iadd (pc' := 852) dL_law_851 rfl ?_
  refine x_sld (pc' := 853) dL_law_852 rfl (hv 1 (by omega)) ?_
  refine x_aload_n (pc' := 854) dL_law_853 rfl rfl rfl ?_
  refine x_iload_n (pc' := 855) dL_law_854 rfl rfl rfl ?_
  refine x_iconst (pc' := 856) (v := 2) dL_law_855 rfl (by decide) ?_
  refine x_iadd (pc' := 857) dL_law_856 rfl ?_
  refine x_sld (pc' := 858) dL_law_857 rfl (hv 2 (by omega)) ?_
  refine x_callV (d := d + 59) (pc' := 861) (As := [.int (xs (nI i + 1).toNatClampNeg), .int (xs (nI i + 2).toNatClampNeg)]) dL_law_858 rfl lmL_90 kd_94 rfl rfl (Nat.le_of_ble_eq_true rfl) (Nat.le_of_ble_eq_true rfl) ?_
  show X none (d + 59) mX8_square 0 [.ref 94, .int (xs (nI i + 1).toNatClampNeg), .int (xs (nI i + 2).toNatClampNeg), Unk, Unk, Unk, Unk, Unk, Unk, Unk, Unk, Unk] [] τ1 _
  refine q_square va_w hM1 hw (fun τ2 hM2 hs2 => ?_)
  show X (some (n, xs)) (d + 60) mL_law 861 [.ref 200, .ref 0, .ref 94, .int (nI i)] [.int (o_square S (xs (nI i + 1).toNatClampNeg) (xs (nI i + 2).toNatClampNeg)).1, .int (o_square S (xs (nI i + 1).toNatClampNeg) (xs (nI i + 2).toNatClampNeg)).1] τ2 Q
  have hC2 := hC1.sm hs2 (fun i k q => by unfold SM94 at q; unfold SCR; omega)
  exact x_icmp_eq (pc' := 864) (tgt := 1336) dL_law_861 (by decide) rfl (fun _ => kk τ2 (o_square S (xs (nI i + 1).toNatClampNeg) (xs (nI i + 2).toNatClampNeg)).2 hC2 hM2 ((by unfold o_square; (repeat' split) <;> exact hw))) (fun c => absurd rfl c)
end LAW
