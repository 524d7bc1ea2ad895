/-- what the law keeps: the place in the script, the script, the class, the model -/
def lwL (Z : ZT) (b : Nat) (i : Int32) : List (Nat × Value) := [(3, .int i), (0, .ref b), (1, .ref (za Z 0)), (2, .ref (za Z 383))]
/-- the script is where it was -/
def lwS (C : CX) (b L : Nat) (xs : Nat → Int32) : Prop := va_X b L xs (c_s C) (c_s C).heap ∧ b < (c_s C).heap.size ∧ ¬ c_A C b ∧ L ≤ 3584
theorem lw_inb {a L : Nat} (h : a < L) (hL : L ≤ 3584) : vp_in (nI a) L := inb_in (zi_inb h (by omega))
section LAWWALK
variable {Z : ZT} {C : CX} {σ : Mem} {pc b L j : Nat} {xs : Nat → Int32} {st : List Value}
theorem lw_sld {a : Nat} (O : Ok Z C RL code 4 12 510) (S : lwS C b L xs) (ha : a < L) (hd : decode code pc = .ok (.iaload, 1)) {M : List (Nat × Value)} (kk : G Z C σ (pc + 1) M (.int (xs a) :: st)) : G Z C σ pc M (.int (nI a) :: .ref b :: st) := by
  intro H locs ls hP hS h
  refine va_sld O.1 O.2.1 S.1 S.2.1 S.2.2.1 hS (lw_inb ha S.2.2.2) hd ?_
  have e : (nI a).toNatClampNeg = a := zi_ix (by have := S.2.2.2; omega)
  rw [e]
  exact kk H locs ls hP hS h
theorem lw_slen (O : Ok Z C RL code 4 12 510) (S : lwS C b L xs) (hd : decode code pc = .ok (.arraylength, 1)) {M : List (Nat × Value)} (kk : G Z C σ (pc + 1) M (.int (nI L) :: st)) : G Z C σ pc M (.ref b :: st) := by
  intro H locs ls hP hS h
  exact va_slen O.1 O.2.1 S.1 S.2.1 S.2.2.1 hS hd (kk H locs ls hP hS h)
theorem lw_arg (O : Ok Z C RL code 4 12 510) (S : lwS C b L xs) (hj : 7 * j + 7 ≤ L) (c : Nat) {n : Int} (hn : Int32.ofInt n = nI c) (hc : c < 7) (d0 : decode code pc = .ok (.aload_n 0, 1)) (d1 : decode code (pc + 1) = .ok (.iload_n 3, 1)) (d2 : decode code (pc + 2) = .ok (.iconst n, 1)) (d3 : decode code (pc + 3) = .ok (.iadd, 1)) (d4 : decode code (pc + 4) = .ok (.iaload, 1)) (kk : G Z C σ (pc + 5) (lwL Z b (nI (7 * j))) (.int (xs (7 * j + c)) :: st)) : G Z C σ pc (lwL Z b (nI (7 * j))) st := by
  refine g_aload_n O d0 1 rfl rfl ?_
  refine g_iload_n O d1 0 rfl rfl ?_
  refine g_iconst O d2 (nI c) hn ?_
  refine g_iadd O d3 ?_
  rw [zI.1]
  exact lw_sld O S (by omega) d4 kk
theorem lw_arg6 (O : Ok Z C RL code 4 12 510) (S : lwS C b L xs) (hj : 7 * j + 7 ≤ L) (d0 : decode code pc = .ok (.aload_n 0, 1)) (d1 : decode code (pc + 1) = .ok (.iload_n 3, 1)) (d2 : decode code (pc + 2) = .ok (.bipush 6, 2)) (d3 : decode code (pc + 4) = .ok (.iadd, 1)) (d4 : decode code (pc + 5) = .ok (.iaload, 1)) (kk : G Z C σ (pc + 6) (lwL Z b (nI (7 * j))) (.int (xs (7 * j + 6)) :: st)) : G Z C σ pc (lwL Z b (nI (7 * j))) st := by
  refine g_aload_n O d0 1 rfl rfl ?_
  refine g_iload_n O d1 0 rfl rfl ?_
  refine g_bipush O d2 (nI 6) rfl ?_
  refine g_iadd O d3 ?_
  rw [zI.1]
  exact lw_sld O S (by omega) d4 kk
theorem lw_same {off : Int} {r : Int32} (O : Ok Z C RL code 4 12 510) (hd : decode code pc = .ok (.if_icmp .eq off, 3)) (ht : (pc : Int) + off = ((1153 : Nat) : Int)) {M : List (Nat × Value)} (kk : G Z C σ 1153 M st) : G Z C σ pc M (.int r :: .int r :: st) :=
  g_icmp_eq (K := fun _ : Option Unit => True) (t := none) (e := none) 1153 O hd ht trivial (fun _ _ => kk) (fun h _ => absurd rfl h)

theorem lw_case_0 {g : Nat → Int32} (O : Ok Z C RL code 4 12 510) (S : lwS C b L xs) (hj : 7 * j + 7 ≤ L) (hz : zIv σ g) (kk : ∀ σ' g', zIv σ' g' → G Z C σ' 1153 (lwL Z b (nI (7 * j))) []) : G Z C σ 164 (lwL Z b (nI (7 * j))) [] := by
  have hZ := O.2.2.2.2.2.2.2.2.1
  obtain ⟨r, τ, υ, ex, em, g', hz'⟩ := z_op_feed hz (xs (7 * j + 1)) (xs (7 * j + 2)) (xs (7 * j + 3)) (xs (7 * j + 4)) (xs (7 * j + 5)) (xs (7 * j + 6))
  have ex : fX11_feed σ 0 (xs (7 * j + 1)) (xs (7 * j + 2)) (xs (7 * j + 3)) (xs (7 * j + 4)) (xs (7 * j + 5)) (xs (7 * j + 6)) = some (r, τ) := ex
  have em : fX12_feed τ 383 (xs (7 * j + 1)) (xs (7 * j + 2)) (xs (7 * j + 3)) (xs (7 * j + 4)) (xs (7 * j + 5)) (xs (7 * j + 6)) = some (r, υ) := em
  refine g_aload_n O dRL_164 2 rfl rfl ?_
  refine lw_arg O S hj 1 (by decide +kernel) (by decide) dRL_165 dRL_166 dRL_167 dRL_168 dRL_169 ?_
  refine lw_arg O S hj 2 (by decide +kernel) (by decide) dRL_170 dRL_171 dRL_172 dRL_173 dRL_174 ?_
  refine lw_arg O S hj 3 (by decide +kernel) (by decide) dRL_175 dRL_176 dRL_177 dRL_178 dRL_179 ?_
  refine lw_arg O S hj 4 (by decide +kernel) (by decide) dRL_180 dRL_181 dRL_182 dRL_183 dRL_184 ?_
  refine lw_arg O S hj 5 (by decide +kernel) (by decide) dRL_185 dRL_186 dRL_187 dRL_188 dRL_189 ?_
  refine lw_arg6 O S hj dRL_190 dRL_191 dRL_192 dRL_194 dRL_195 ?_
  refine g_callV (rest := []) (id := 0) O dRL_196 (ct_X11_feed hZ (by decide +kernel : kn 0 = 11) ex) vx_RL_13 (by decide +kernel : kn 0 = 11) rfl rfl (by decide) (Nat.le_of_ble_eq_true rfl) (fun _ => ?_)
  change G Z C τ 199 (lwL Z b (nI (7 * j))) [.int r]
  refine g_aload_n O dRL_199 3 rfl rfl ?_
  refine lw_arg O S hj 1 (by decide +kernel) (by decide) dRL_200 dRL_201 dRL_202 dRL_203 dRL_204 ?_
  refine lw_arg O S hj 2 (by decide +kernel) (by decide) dRL_205 dRL_206 dRL_207 dRL_208 dRL_209 ?_
  refine lw_arg O S hj 3 (by decide +kernel) (by decide) dRL_210 dRL_211 dRL_212 dRL_213 dRL_214 ?_
  refine lw_arg O S hj 4 (by decide +kernel) (by decide) dRL_215 dRL_216 dRL_217 dRL_218 dRL_219 ?_
  refine lw_arg O S hj 5 (by decide +kernel) (by decide) dRL_220 dRL_221 dRL_222 dRL_223 dRL_224 ?_
  refine lw_arg6 O S hj dRL_225 dRL_226 dRL_227 dRL_229 dRL_230 ?_
  refine g_callV (rest := [.int r]) (id := 383) O dRL_231 (ct_X12_feed hZ (by decide +kernel : kn 383 = 12) em) vx_RL_17 (by decide +kernel : kn 383 = 12) rfl rfl (by decide) (Nat.le_of_ble_eq_true rfl) (fun _ => ?_)
  change G Z C υ 234 (lwL Z b (nI (7 * j))) [.int r, .int r]
  exact lw_same O dRL_234 (by decide) (kk _ _ hz')
theorem lw_case_1 {g : Nat → Int32} (O : Ok Z C RL code 4 12 510) (S : lwS C b L xs) (hj : 7 * j + 7 ≤ L) (hz : zIv σ g) (kk : ∀ σ' g', zIv σ' g' → G Z C σ' 1153 (lwL Z b (nI (7 * j))) []) : G Z C σ 239 (lwL Z b (nI (7 * j))) [] := by
  have hZ := O.2.2.2.2.2.2.2.2.1
  obtain ⟨r, τ, υ, ex, em, g', hz'⟩ := z_op_word hz (xs (7 * j + 1)) (xs (7 * j + 2)) (xs (7 * j + 3))
  have ex : fX11_word σ 0 (xs (7 * j + 1)) (xs (7 * j + 2)) (xs (7 * j + 3)) = some (r, τ) := ex
  have em : fX12_word τ 383 (xs (7 * j + 1)) (xs (7 * j + 2)) (xs (7 * j + 3)) = some (r, υ) := em
  refine g_aload_n O dRL_239 2 rfl rfl ?_
  refine lw_arg O S hj 1 (by decide +kernel) (by decide) dRL_240 dRL_241 dRL_242 dRL_243 dRL_244 ?_
  refine lw_arg O S hj 2 (by decide +kernel) (by decide) dRL_245 dRL_246 dRL_247 dRL_248 dRL_249 ?_
  refine lw_arg O S hj 3 (by decide +kernel) (by decide) dRL_250 dRL_251 dRL_252 dRL_253 dRL_254 ?_
  refine g_callV (rest := []) (id := 0) O dRL_255 (ct_X11_word hZ (by decide +kernel : kn 0 = 11) ex) vx_RL_18 (by decide +kernel : kn 0 = 11) rfl rfl (by decide) (Nat.le_of_ble_eq_true rfl) (fun _ => ?_)
  change G Z C τ 258 (lwL Z b (nI (7 * j))) [.int r]
  refine g_aload_n O dRL_258 3 rfl rfl ?_
  refine lw_arg O S hj 1 (by decide +kernel) (by decide) dRL_259 dRL_260 dRL_261 dRL_262 dRL_263 ?_
  refine lw_arg O S hj 2 (by decide +kernel) (by decide) dRL_264 dRL_265 dRL_266 dRL_267 dRL_268 ?_
  refine lw_arg O S hj 3 (by decide +kernel) (by decide) dRL_269 dRL_270 dRL_271 dRL_272 dRL_273 ?_
  refine g_callV (rest := [.int r]) (id := 383) O dRL_274 (ct_X12_word hZ (by decide +kernel : kn 383 = 12) em) vx_RL_22 (by decide +kernel : kn 383 = 12) rfl rfl (by decide) (Nat.le_of_ble_eq_true rfl) (fun _ => ?_)
  change G Z C υ 277 (lwL Z b (nI (7 * j))) [.int r, .int r]
  exact lw_same O dRL_277 (by decide) (kk _ _ hz')
theorem lw_case_2 {g : Nat → Int32} (O : Ok Z C RL code 4 12 510) (S : lwS C b L xs) (hj : 7 * j + 7 ≤ L) (hz : zIv σ g) (kk : ∀ σ' g', zIv σ' g' → G Z C σ' 1153 (lwL Z b (nI (7 * j))) []) : G Z C σ 282 (lwL Z b (nI (7 * j))) [] := by
  have hZ := O.2.2.2.2.2.2.2.2.1
  obtain ⟨r, τ, υ, ex, em, g', hz'⟩ := z_op_ending hz (xs (7 * j + 1)) (xs (7 * j + 2)) (xs (7 * j + 3))
  have ex : fX11_ending σ 0 (xs (7 * j + 1)) (xs (7 * j + 2)) (xs (7 * j + 3)) = some (r, τ) := ex
  have em : fX12_ending τ 383 (xs (7 * j + 1)) (xs (7 * j + 2)) (xs (7 * j + 3)) = some (r, υ) := em
  refine g_aload_n O dRL_282 2 rfl rfl ?_
  refine lw_arg O S hj 1 (by decide +kernel) (by decide) dRL_283 dRL_284 dRL_285 dRL_286 dRL_287 ?_
  refine lw_arg O S hj 2 (by decide +kernel) (by decide) dRL_288 dRL_289 dRL_290 dRL_291 dRL_292 ?_
  refine lw_arg O S hj 3 (by decide +kernel) (by decide) dRL_293 dRL_294 dRL_295 dRL_296 dRL_297 ?_
  refine g_callV (rest := []) (id := 0) O dRL_298 (ct_X11_ending hZ (by decide +kernel : kn 0 = 11) ex) vx_RL_23 (by decide +kernel : kn 0 = 11) rfl rfl (by decide) (Nat.le_of_ble_eq_true rfl) (fun _ => ?_)
  change G Z C τ 301 (lwL Z b (nI (7 * j))) [.int r]
  refine g_aload_n O dRL_301 3 rfl rfl ?_
  refine lw_arg O S hj 1 (by decide +kernel) (by decide) dRL_302 dRL_303 dRL_304 dRL_305 dRL_306 ?_
  refine lw_arg O S hj 2 (by decide +kernel) (by decide) dRL_307 dRL_308 dRL_309 dRL_310 dRL_311 ?_
  refine lw_arg O S hj 3 (by decide +kernel) (by decide) dRL_312 dRL_313 dRL_314 dRL_315 dRL_316 ?_
  refine g_callV (rest := [.int r]) (id := 383) O dRL_317 (ct_X12_ending hZ (by decide +kernel : kn 383 = 12) em) vx_RL_26 (by decide +kernel : kn 383 = 12) rfl rfl (by decide) (Nat.le_of_ble_eq_true rfl) (fun _ => ?_)
  change G Z C υ 320 (lwL Z b (nI (7 * j))) [.int r, .int r]
  exact lw_same O dRL_320 (by decide) (kk _ _ hz')
theorem lw_case_3 {g : Nat → Int32} (O : Ok Z C RL code 4 12 510) (S : lwS C b L xs) (hj : 7 * j + 7 ≤ L) (hz : zIv σ g) (kk : ∀ σ' g', zIv σ' g' → G Z C σ' 1153 (lwL Z b (nI (7 * j))) []) : G Z C σ 325 (lwL Z b (nI (7 * j))) [] := by
  have hZ := O.2.2.2.2.2.2.2.2.1
  obtain ⟨r, τ, υ, ex, em, g', hz'⟩ := z_op_frame hz 
  have ex : fX11_frame σ 0  = some (r, τ) := ex
  have em : fX12_frame τ 383  = some (r, υ) := em
  refine g_aload_n O dRL_325 2 rfl rfl ?_
  refine g_callV (rest := []) (id := 0) O dRL_326 (ct_X11_frame hZ (by decide +kernel : kn 0 = 11) ex) vx_RL_27 (by decide +kernel : kn 0 = 11) rfl rfl (by decide) (Nat.le_of_ble_eq_true rfl) (fun _ => ?_)
  change G Z C τ 329 (lwL Z b (nI (7 * j))) [.int r]
  refine g_aload_n O dRL_329 3 rfl rfl ?_
  refine g_callV (rest := [.int r]) (id := 383) O dRL_330 (ct_X12_frame hZ (by decide +kernel : kn 383 = 12) em) vx_RL_31 (by decide +kernel : kn 383 = 12) rfl rfl (by decide) (Nat.le_of_ble_eq_true rfl) (fun _ => ?_)
  change G Z C υ 333 (lwL Z b (nI (7 * j))) [.int r, .int r]
  exact lw_same O dRL_333 (by decide) (kk _ _ hz')
theorem lw_case_4 {g : Nat → Int32} (O : Ok Z C RL code 4 12 510) (S : lwS C b L xs) (hj : 7 * j + 7 ≤ L) (hz : zIv σ g) (kk : ∀ σ' g', zIv σ' g' → G Z C σ' 1153 (lwL Z b (nI (7 * j))) []) : G Z C σ 338 (lwL Z b (nI (7 * j))) [] := by
  have hZ := O.2.2.2.2.2.2.2.2.1
  obtain ⟨r, ex, em⟩ := z_op_told hz (xs (7 * j + 1)) (xs (7 * j + 2))
  refine g_aload_n O dRL_338 2 rfl rfl ?_
  refine lw_arg O S hj 1 (by decide +kernel) (by decide) dRL_339 dRL_340 dRL_341 dRL_342 dRL_343 ?_
  refine lw_arg O S hj 2 (by decide +kernel) (by decide) dRL_344 dRL_345 dRL_346 dRL_347 dRL_348 ?_
  refine g_callV (rest := []) (id := 0) O dRL_349 (ct_X11_told hZ (by decide +kernel : kn 0 = 11) ex) vx_RL_32 (by decide +kernel : kn 0 = 11) rfl rfl (by decide) (Nat.le_of_ble_eq_true rfl) (fun _ => ?_)
  change G Z C σ 352 (lwL Z b (nI (7 * j))) [.int r]
  refine g_aload_n O dRL_352 3 rfl rfl ?_
  refine lw_arg O S hj 1 (by decide +kernel) (by decide) dRL_353 dRL_354 dRL_355 dRL_356 dRL_357 ?_
  refine lw_arg O S hj 2 (by decide +kernel) (by decide) dRL_358 dRL_359 dRL_360 dRL_361 dRL_362 ?_
  refine g_callV (rest := [.int r]) (id := 383) O dRL_363 (ct_X12_told hZ (by decide +kernel : kn 383 = 12) em) vx_RL_36 (by decide +kernel : kn 383 = 12) rfl rfl (by decide) (Nat.le_of_ble_eq_true rfl) (fun _ => ?_)
  change G Z C σ 366 (lwL Z b (nI (7 * j))) [.int r, .int r]
  exact lw_same O dRL_366 (by decide) (kk _ _ hz)
theorem lw_case_5 {g : Nat → Int32} (O : Ok Z C RL code 4 12 510) (S : lwS C b L xs) (hj : 7 * j + 7 ≤ L) (hz : zIv σ g) (kk : ∀ σ' g', zIv σ' g' → G Z C σ' 1153 (lwL Z b (nI (7 * j))) []) : G Z C σ 371 (lwL Z b (nI (7 * j))) [] := by
  have hZ := O.2.2.2.2.2.2.2.2.1
  obtain ⟨r, τ, υ, ex, em, g', hz'⟩ := z_op_taken hz (xs (7 * j + 1)) (xs (7 * j + 2))
  have ex : fX11_taken σ 0 (xs (7 * j + 1)) (xs (7 * j + 2)) = some (r, τ) := ex
  have em : fX12_taken τ 383 (xs (7 * j + 1)) (xs (7 * j + 2)) = some (r, υ) := em
  refine g_aload_n O dRL_371 2 rfl rfl ?_
  refine lw_arg O S hj 1 (by decide +kernel) (by decide) dRL_372 dRL_373 dRL_374 dRL_375 dRL_376 ?_
  refine lw_arg O S hj 2 (by decide +kernel) (by decide) dRL_377 dRL_378 dRL_379 dRL_380 dRL_381 ?_
  refine g_callV (rest := []) (id := 0) O dRL_382 (ct_X11_taken hZ (by decide +kernel : kn 0 = 11) ex) vx_RL_37 (by decide +kernel : kn 0 = 11) rfl rfl (by decide) (Nat.le_of_ble_eq_true rfl) (fun _ => ?_)
  change G Z C τ 385 (lwL Z b (nI (7 * j))) [.int r]
  refine g_aload_n O dRL_385 3 rfl rfl ?_
  refine lw_arg O S hj 1 (by decide +kernel) (by decide) dRL_386 dRL_387 dRL_388 dRL_389 dRL_390 ?_
  refine lw_arg O S hj 2 (by decide +kernel) (by decide) dRL_391 dRL_392 dRL_393 dRL_394 dRL_395 ?_
  refine g_callV (rest := [.int r]) (id := 383) O dRL_396 (ct_X12_taken hZ (by decide +kernel : kn 383 = 12) em) vx_RL_40 (by decide +kernel : kn 383 = 12) rfl rfl (by decide) (Nat.le_of_ble_eq_true rfl) (fun _ => ?_)
  change G Z C υ 399 (lwL Z b (nI (7 * j))) [.int r, .int r]
  exact lw_same O dRL_399 (by decide) (kk _ _ hz')
theorem lw_case_6 {g : Nat → Int32} (O : Ok Z C RL code 4 12 510) (S : lwS C b L xs) (hj : 7 * j + 7 ≤ L) (hz : zIv σ g) (kk : ∀ σ' g', zIv σ' g' → G Z C σ' 1153 (lwL Z b (nI (7 * j))) []) : G Z C σ 404 (lwL Z b (nI (7 * j))) [] := by
  have hZ := O.2.2.2.2.2.2.2.2.1
  obtain ⟨r, τ, υ, ex, em, g', hz'⟩ := z_op_form hz (xs (7 * j + 1)) (xs (7 * j + 2)) (xs (7 * j + 3))
  have ex : fX11_form σ 0 (xs (7 * j + 1)) (xs (7 * j + 2)) (xs (7 * j + 3)) = some (r, τ) := ex
  have em : fX12_form τ 383 (xs (7 * j + 1)) (xs (7 * j + 2)) (xs (7 * j + 3)) = some (r, υ) := em
  refine g_aload_n O dRL_404 2 rfl rfl ?_
  refine lw_arg O S hj 1 (by decide +kernel) (by decide) dRL_405 dRL_406 dRL_407 dRL_408 dRL_409 ?_
  refine lw_arg O S hj 2 (by decide +kernel) (by decide) dRL_410 dRL_411 dRL_412 dRL_413 dRL_414 ?_
  refine lw_arg O S hj 3 (by decide +kernel) (by decide) dRL_415 dRL_416 dRL_417 dRL_418 dRL_419 ?_
  refine g_callV (rest := []) (id := 0) O dRL_420 (ct_X11_form hZ (by decide +kernel : kn 0 = 11) ex) vx_RL_41 (by decide +kernel : kn 0 = 11) rfl rfl (by decide) (Nat.le_of_ble_eq_true rfl) (fun _ => ?_)
  change G Z C τ 423 (lwL Z b (nI (7 * j))) [.int r]
  refine g_aload_n O dRL_423 3 rfl rfl ?_
  refine lw_arg O S hj 1 (by decide +kernel) (by decide) dRL_424 dRL_425 dRL_426 dRL_427 dRL_428 ?_
  refine lw_arg O S hj 2 (by decide +kernel) (by decide) dRL_429 dRL_430 dRL_431 dRL_432 dRL_433 ?_
  refine lw_arg O S hj 3 (by decide +kernel) (by decide) dRL_434 dRL_435 dRL_436 dRL_437 dRL_438 ?_
  refine g_callV (rest := [.int r]) (id := 383) O dRL_439 (ct_X12_form hZ (by decide +kernel : kn 383 = 12) em) vx_RL_44 (by decide +kernel : kn 383 = 12) rfl rfl (by decide) (Nat.le_of_ble_eq_true rfl) (fun _ => ?_)
  change G Z C υ 442 (lwL Z b (nI (7 * j))) [.int r, .int r]
  exact lw_same O dRL_442 (by decide) (kk _ _ hz')
theorem lw_case_7 {g : Nat → Int32} (O : Ok Z C RL code 4 12 510) (S : lwS C b L xs) (hj : 7 * j + 7 ≤ L) (hz : zIv σ g) (kk : ∀ σ' g', zIv σ' g' → G Z C σ' 1153 (lwL Z b (nI (7 * j))) []) : G Z C σ 447 (lwL Z b (nI (7 * j))) [] := by
  have hZ := O.2.2.2.2.2.2.2.2.1
  obtain ⟨r, ex, em⟩ := z_op_hole hz (xs (7 * j + 1)) (xs (7 * j + 2)) (xs (7 * j + 3))
  refine g_aload_n O dRL_447 2 rfl rfl ?_
  refine lw_arg O S hj 1 (by decide +kernel) (by decide) dRL_448 dRL_449 dRL_450 dRL_451 dRL_452 ?_
  refine lw_arg O S hj 2 (by decide +kernel) (by decide) dRL_453 dRL_454 dRL_455 dRL_456 dRL_457 ?_
  refine lw_arg O S hj 3 (by decide +kernel) (by decide) dRL_458 dRL_459 dRL_460 dRL_461 dRL_462 ?_
  refine g_callV (rest := []) (id := 0) O dRL_463 (ct_X11_hole hZ (by decide +kernel : kn 0 = 11) ex) vx_RL_45 (by decide +kernel : kn 0 = 11) rfl rfl (by decide) (Nat.le_of_ble_eq_true rfl) (fun _ => ?_)
  change G Z C σ 466 (lwL Z b (nI (7 * j))) [.int r]
  refine g_aload_n O dRL_466 3 rfl rfl ?_
  refine lw_arg O S hj 1 (by decide +kernel) (by decide) dRL_467 dRL_468 dRL_469 dRL_470 dRL_471 ?_
  refine lw_arg O S hj 2 (by decide +kernel) (by decide) dRL_472 dRL_473 dRL_474 dRL_475 dRL_476 ?_
  refine lw_arg O S hj 3 (by decide +kernel) (by decide) dRL_477 dRL_478 dRL_479 dRL_480 dRL_481 ?_
  refine g_callV (rest := [.int r]) (id := 383) O dRL_482 (ct_X12_hole hZ (by decide +kernel : kn 383 = 12) em) vx_RL_48 (by decide +kernel : kn 383 = 12) rfl rfl (by decide) (Nat.le_of_ble_eq_true rfl) (fun _ => ?_)
  change G Z C σ 485 (lwL Z b (nI (7 * j))) [.int r, .int r]
  exact lw_same O dRL_485 (by decide) (kk _ _ hz)
theorem lw_case_8 {g : Nat → Int32} (O : Ok Z C RL code 4 12 510) (S : lwS C b L xs) (hj : 7 * j + 7 ≤ L) (hz : zIv σ g) (kk : ∀ σ' g', zIv σ' g' → G Z C σ' 1153 (lwL Z b (nI (7 * j))) []) : G Z C σ 490 (lwL Z b (nI (7 * j))) [] := by
  have hZ := O.2.2.2.2.2.2.2.2.1
  obtain ⟨r, τ, υ, ex, em, g', hz'⟩ := z_op_desk hz (xs (7 * j + 1)) (xs (7 * j + 2))
  have ex : fX11_desk σ 0 (xs (7 * j + 1)) (xs (7 * j + 2)) = some (r, τ) := ex
  have em : fX12_desk τ 383 (xs (7 * j + 1)) (xs (7 * j + 2)) = some (r, υ) := em
  refine g_aload_n O dRL_490 2 rfl rfl ?_
  refine lw_arg O S hj 1 (by decide +kernel) (by decide) dRL_491 dRL_492 dRL_493 dRL_494 dRL_495 ?_
  refine lw_arg O S hj 2 (by decide +kernel) (by decide) dRL_496 dRL_497 dRL_498 dRL_499 dRL_500 ?_
  refine g_callV (rest := []) (id := 0) O dRL_501 (ct_X11_desk hZ (by decide +kernel : kn 0 = 11) ex) vx_RL_49 (by decide +kernel : kn 0 = 11) rfl rfl (by decide) (Nat.le_of_ble_eq_true rfl) (fun _ => ?_)
  change G Z C τ 504 (lwL Z b (nI (7 * j))) [.int r]
  refine g_aload_n O dRL_504 3 rfl rfl ?_
  refine lw_arg O S hj 1 (by decide +kernel) (by decide) dRL_505 dRL_506 dRL_507 dRL_508 dRL_509 ?_
  refine lw_arg O S hj 2 (by decide +kernel) (by decide) dRL_510 dRL_511 dRL_512 dRL_513 dRL_514 ?_
  refine g_callV (rest := [.int r]) (id := 383) O dRL_515 (ct_X12_desk hZ (by decide +kernel : kn 383 = 12) em) vx_RL_52 (by decide +kernel : kn 383 = 12) rfl rfl (by decide) (Nat.le_of_ble_eq_true rfl) (fun _ => ?_)
  change G Z C υ 518 (lwL Z b (nI (7 * j))) [.int r, .int r]
  exact lw_same O dRL_518 (by decide) (kk _ _ hz')
theorem lw_case_9 {g : Nat → Int32} (O : Ok Z C RL code 4 12 510) (S : lwS C b L xs) (hj : 7 * j + 7 ≤ L) (hz : zIv σ g) (kk : ∀ σ' g', zIv σ' g' → G Z C σ' 1153 (lwL Z b (nI (7 * j))) []) : G Z C σ 523 (lwL Z b (nI (7 * j))) [] := by
  have hZ := O.2.2.2.2.2.2.2.2.1
  obtain ⟨r, τ, υ, ex, em, g', hz'⟩ := z_op_choose hz (xs (7 * j + 1)) (xs (7 * j + 2))
  have ex : fX11_choose σ 0 (xs (7 * j + 1)) (xs (7 * j + 2)) = some (r, τ) := ex
  have em : fX12_choose τ 383 (xs (7 * j + 1)) (xs (7 * j + 2)) = some (r, υ) := em
  refine g_aload_n O dRL_523 2 rfl rfl ?_
  refine lw_arg O S hj 1 (by decide +kernel) (by decide) dRL_524 dRL_525 dRL_526 dRL_527 dRL_528 ?_
  refine lw_arg O S hj 2 (by decide +kernel) (by decide) dRL_529 dRL_530 dRL_531 dRL_532 dRL_533 ?_
  refine g_callV (rest := []) (id := 0) O dRL_534 (ct_X11_choose hZ (by decide +kernel : kn 0 = 11) ex) vx_RL_53 (by decide +kernel : kn 0 = 11) rfl rfl (by decide) (Nat.le_of_ble_eq_true rfl) (fun _ => ?_)
  change G Z C τ 537 (lwL Z b (nI (7 * j))) [.int r]
  refine g_aload_n O dRL_537 3 rfl rfl ?_
  refine lw_arg O S hj 1 (by decide +kernel) (by decide) dRL_538 dRL_539 dRL_540 dRL_541 dRL_542 ?_
  refine lw_arg O S hj 2 (by decide +kernel) (by decide) dRL_543 dRL_544 dRL_545 dRL_546 dRL_547 ?_
  refine g_callV (rest := [.int r]) (id := 383) O dRL_548 (ct_X12_choose hZ (by decide +kernel : kn 383 = 12) em) vx_RL_56 (by decide +kernel : kn 383 = 12) rfl rfl (by decide) (Nat.le_of_ble_eq_true rfl) (fun _ => ?_)
  change G Z C υ 551 (lwL Z b (nI (7 * j))) [.int r, .int r]
  exact lw_same O dRL_551 (by decide) (kk _ _ hz')
theorem lw_case_10 {g : Nat → Int32} (O : Ok Z C RL code 4 12 510) (S : lwS C b L xs) (hj : 7 * j + 7 ≤ L) (hz : zIv σ g) (kk : ∀ σ' g', zIv σ' g' → G Z C σ' 1153 (lwL Z b (nI (7 * j))) []) : G Z C σ 556 (lwL Z b (nI (7 * j))) [] := by
  have hZ := O.2.2.2.2.2.2.2.2.1
  obtain ⟨r, τ, υ, ex, em, g', hz'⟩ := z_op_number hz (xs (7 * j + 1)) (xs (7 * j + 2))
  have ex : fX11_number σ 0 (xs (7 * j + 1)) (xs (7 * j + 2)) = some (r, τ) := ex
  have em : fX12_number τ 383 (xs (7 * j + 1)) (xs (7 * j + 2)) = some (r, υ) := em
  refine g_aload_n O dRL_556 2 rfl rfl ?_
  refine lw_arg O S hj 1 (by decide +kernel) (by decide) dRL_557 dRL_558 dRL_559 dRL_560 dRL_561 ?_
  refine lw_arg O S hj 2 (by decide +kernel) (by decide) dRL_562 dRL_563 dRL_564 dRL_565 dRL_566 ?_
  refine g_callV (rest := []) (id := 0) O dRL_567 (ct_X11_number hZ (by decide +kernel : kn 0 = 11) ex) vx_RL_57 (by decide +kernel : kn 0 = 11) rfl rfl (by decide) (Nat.le_of_ble_eq_true rfl) (fun _ => ?_)
  change G Z C τ 570 (lwL Z b (nI (7 * j))) [.int r]
  refine g_aload_n O dRL_570 3 rfl rfl ?_
  refine lw_arg O S hj 1 (by decide +kernel) (by decide) dRL_571 dRL_572 dRL_573 dRL_574 dRL_575 ?_
  refine lw_arg O S hj 2 (by decide +kernel) (by decide) dRL_576 dRL_577 dRL_578 dRL_579 dRL_580 ?_
  refine g_callV (rest := [.int r]) (id := 383) O dRL_581 (ct_X12_number hZ (by decide +kernel : kn 383 = 12) em) vx_RL_60 (by decide +kernel : kn 383 = 12) rfl rfl (by decide) (Nat.le_of_ble_eq_true rfl) (fun _ => ?_)
  change G Z C υ 584 (lwL Z b (nI (7 * j))) [.int r, .int r]
  exact lw_same O dRL_584 (by decide) (kk _ _ hz')
theorem lw_case_11 {g : Nat → Int32} (O : Ok Z C RL code 4 12 510) (S : lwS C b L xs) (hj : 7 * j + 7 ≤ L) (hz : zIv σ g) (kk : ∀ σ' g', zIv σ' g' → G Z C σ' 1153 (lwL Z b (nI (7 * j))) []) : G Z C σ 589 (lwL Z b (nI (7 * j))) [] := by
  have hZ := O.2.2.2.2.2.2.2.2.1
  obtain ⟨r, τ, υ, ex, em, g', hz'⟩ := z_op_said hz (xs (7 * j + 1))
  have ex : fX11_said σ 0 (xs (7 * j + 1)) = some (r, τ) := ex
  have em : fX12_said τ 383 (xs (7 * j + 1)) = some (r, υ) := em
  refine g_aload_n O dRL_589 2 rfl rfl ?_
  refine lw_arg O S hj 1 (by decide +kernel) (by decide) dRL_590 dRL_591 dRL_592 dRL_593 dRL_594 ?_
  refine g_callV (rest := []) (id := 0) O dRL_595 (ct_X11_said hZ (by decide +kernel : kn 0 = 11) ex) vx_RL_61 (by decide +kernel : kn 0 = 11) rfl rfl (by decide) (Nat.le_of_ble_eq_true rfl) (fun _ => ?_)
  change G Z C τ 598 (lwL Z b (nI (7 * j))) [.int r]
  refine g_aload_n O dRL_598 3 rfl rfl ?_
  refine lw_arg O S hj 1 (by decide +kernel) (by decide) dRL_599 dRL_600 dRL_601 dRL_602 dRL_603 ?_
  refine g_callV (rest := [.int r]) (id := 383) O dRL_604 (ct_X12_said hZ (by decide +kernel : kn 383 = 12) em) vx_RL_65 (by decide +kernel : kn 383 = 12) rfl rfl (by decide) (Nat.le_of_ble_eq_true rfl) (fun _ => ?_)
  change G Z C υ 607 (lwL Z b (nI (7 * j))) [.int r, .int r]
  exact lw_same O dRL_607 (by decide) (kk _ _ hz')
theorem lw_case_12 {g : Nat → Int32} (O : Ok Z C RL code 4 12 510) (S : lwS C b L xs) (hj : 7 * j + 7 ≤ L) (hz : zIv σ g) (kk : ∀ σ' g', zIv σ' g' → G Z C σ' 1153 (lwL Z b (nI (7 * j))) []) : G Z C σ 612 (lwL Z b (nI (7 * j))) [] := by
  have hZ := O.2.2.2.2.2.2.2.2.1
  obtain ⟨r, τ, υ, ex, em, g', hz'⟩ := z_op_spoken hz (xs (7 * j + 1))
  have ex : fX11_spoken σ 0 (xs (7 * j + 1)) = some (r, τ) := ex
  have em : fX12_spoken τ 383 (xs (7 * j + 1)) = some (r, υ) := em
  refine g_aload_n O dRL_612 2 rfl rfl ?_
  refine lw_arg O S hj 1 (by decide +kernel) (by decide) dRL_613 dRL_614 dRL_615 dRL_616 dRL_617 ?_
  refine g_callV (rest := []) (id := 0) O dRL_618 (ct_X11_spoken hZ (by decide +kernel : kn 0 = 11) ex) vx_RL_66 (by decide +kernel : kn 0 = 11) rfl rfl (by decide) (Nat.le_of_ble_eq_true rfl) (fun _ => ?_)
  change G Z C τ 621 (lwL Z b (nI (7 * j))) [.int r]
  refine g_aload_n O dRL_621 3 rfl rfl ?_
  refine lw_arg O S hj 1 (by decide +kernel) (by decide) dRL_622 dRL_623 dRL_624 dRL_625 dRL_626 ?_
  refine g_callV (rest := [.int r]) (id := 383) O dRL_627 (ct_X12_spoken hZ (by decide +kernel : kn 383 = 12) em) vx_RL_69 (by decide +kernel : kn 383 = 12) rfl rfl (by decide) (Nat.le_of_ble_eq_true rfl) (fun _ => ?_)
  change G Z C υ 630 (lwL Z b (nI (7 * j))) [.int r, .int r]
  exact lw_same O dRL_630 (by decide) (kk _ _ hz')
theorem lw_case_13 {g : Nat → Int32} (O : Ok Z C RL code 4 12 510) (S : lwS C b L xs) (hj : 7 * j + 7 ≤ L) (hz : zIv σ g) (kk : ∀ σ' g', zIv σ' g' → G Z C σ' 1153 (lwL Z b (nI (7 * j))) []) : G Z C σ 635 (lwL Z b (nI (7 * j))) [] := by
  have hZ := O.2.2.2.2.2.2.2.2.1
  obtain ⟨r, τ, υ, ex, em, g', hz'⟩ := z_op_text hz 
  have ex : fX11_text σ 0  = some (r, τ) := ex
  have em : fX12_text τ 383  = some (r, υ) := em
  refine g_aload_n O dRL_635 2 rfl rfl ?_
  refine g_callV (rest := []) (id := 0) O dRL_636 (ct_X11_text hZ (by decide +kernel : kn 0 = 11) ex) vx_RL_70 (by decide +kernel : kn 0 = 11) rfl rfl (by decide) (Nat.le_of_ble_eq_true rfl) (fun _ => ?_)
  change G Z C τ 639 (lwL Z b (nI (7 * j))) [.int r]
  refine g_aload_n O dRL_639 3 rfl rfl ?_
  refine g_callV (rest := [.int r]) (id := 383) O dRL_640 (ct_X12_text hZ (by decide +kernel : kn 383 = 12) em) vx_RL_73 (by decide +kernel : kn 383 = 12) rfl rfl (by decide) (Nat.le_of_ble_eq_true rfl) (fun _ => ?_)
  change G Z C υ 643 (lwL Z b (nI (7 * j))) [.int r, .int r]
  exact lw_same O dRL_643 (by decide) (kk _ _ hz')
theorem lw_case_14 {g : Nat → Int32} (O : Ok Z C RL code 4 12 510) (S : lwS C b L xs) (hj : 7 * j + 7 ≤ L) (hz : zIv σ g) (kk : ∀ σ' g', zIv σ' g' → G Z C σ' 1153 (lwL Z b (nI (7 * j))) []) : G Z C σ 648 (lwL Z b (nI (7 * j))) [] := by
  have hZ := O.2.2.2.2.2.2.2.2.1
  obtain ⟨r, τ, υ, ex, em, g', hz'⟩ := z_op_readings hz (xs (7 * j + 1))
  have ex : fX11_readings σ 0 (xs (7 * j + 1)) = some (r, τ) := ex
  have em : fX12_readings τ 383 (xs (7 * j + 1)) = some (r, υ) := em
  refine g_aload_n O dRL_648 2 rfl rfl ?_
  refine lw_arg O S hj 1 (by decide +kernel) (by decide) dRL_649 dRL_650 dRL_651 dRL_652 dRL_653 ?_
  refine g_callV (rest := []) (id := 0) O dRL_654 (ct_X11_readings hZ (by decide +kernel : kn 0 = 11) ex) vx_RL_74 (by decide +kernel : kn 0 = 11) rfl rfl (by decide) (Nat.le_of_ble_eq_true rfl) (fun _ => ?_)
  change G Z C τ 657 (lwL Z b (nI (7 * j))) [.int r]
  refine g_aload_n O dRL_657 3 rfl rfl ?_
  refine lw_arg O S hj 1 (by decide +kernel) (by decide) dRL_658 dRL_659 dRL_660 dRL_661 dRL_662 ?_
  refine g_callV (rest := [.int r]) (id := 383) O dRL_663 (ct_X12_readings hZ (by decide +kernel : kn 383 = 12) em) vx_RL_77 (by decide +kernel : kn 383 = 12) rfl rfl (by decide) (Nat.le_of_ble_eq_true rfl) (fun _ => ?_)
  change G Z C υ 666 (lwL Z b (nI (7 * j))) [.int r, .int r]
  exact lw_same O dRL_666 (by decide) (kk _ _ hz')
theorem lw_case_15 {g : Nat → Int32} (O : Ok Z C RL code 4 12 510) (S : lwS C b L xs) (hj : 7 * j + 7 ≤ L) (hz : zIv σ g) (kk : ∀ σ' g', zIv σ' g' → G Z C σ' 1153 (lwL Z b (nI (7 * j))) []) : G Z C σ 671 (lwL Z b (nI (7 * j))) [] := by
  have hZ := O.2.2.2.2.2.2.2.2.1
  obtain ⟨r, τ, υ, ex, em, g', hz'⟩ := z_op_near hz (xs (7 * j + 1))
  have ex : fX11_near σ 0 (xs (7 * j + 1)) = some (r, τ) := ex
  have em : fX12_near τ 383 (xs (7 * j + 1)) = some (r, υ) := em
  refine g_aload_n O dRL_671 2 rfl rfl ?_
  refine lw_arg O S hj 1 (by decide +kernel) (by decide) dRL_672 dRL_673 dRL_674 dRL_675 dRL_676 ?_
  refine g_callV (rest := []) (id := 0) O dRL_677 (ct_X11_near hZ (by decide +kernel : kn 0 = 11) ex) vx_RL_78 (by decide +kernel : kn 0 = 11) rfl rfl (by decide) (Nat.le_of_ble_eq_true rfl) (fun _ => ?_)
  change G Z C τ 680 (lwL Z b (nI (7 * j))) [.int r]
  refine g_aload_n O dRL_680 3 rfl rfl ?_
  refine lw_arg O S hj 1 (by decide +kernel) (by decide) dRL_681 dRL_682 dRL_683 dRL_684 dRL_685 ?_
  refine g_callV (rest := [.int r]) (id := 383) O dRL_686 (ct_X12_near hZ (by decide +kernel : kn 383 = 12) em) vx_RL_81 (by decide +kernel : kn 383 = 12) rfl rfl (by decide) (Nat.le_of_ble_eq_true rfl) (fun _ => ?_)
  change G Z C υ 689 (lwL Z b (nI (7 * j))) [.int r, .int r]
  exact lw_same O dRL_689 (by decide) (kk _ _ hz')
theorem lw_case_16 {g : Nat → Int32} (O : Ok Z C RL code 4 12 510) (S : lwS C b L xs) (hj : 7 * j + 7 ≤ L) (hz : zIv σ g) (kk : ∀ σ' g', zIv σ' g' → G Z C σ' 1153 (lwL Z b (nI (7 * j))) []) : G Z C σ 694 (lwL Z b (nI (7 * j))) [] := by
  have hZ := O.2.2.2.2.2.2.2.2.1
  obtain ⟨r, τ, υ, ex, em, g', hz'⟩ := z_op_drawn hz (xs (7 * j + 1)) (xs (7 * j + 2))
  have ex : fX11_drawn σ 0 (xs (7 * j + 1)) (xs (7 * j + 2)) = some (r, τ) := ex
  have em : fX12_drawn τ 383 (xs (7 * j + 1)) (xs (7 * j + 2)) = some (r, υ) := em
  refine g_aload_n O dRL_694 2 rfl rfl ?_
  refine lw_arg O S hj 1 (by decide +kernel) (by decide) dRL_695 dRL_696 dRL_697 dRL_698 dRL_699 ?_
  refine lw_arg O S hj 2 (by decide +kernel) (by decide) dRL_700 dRL_701 dRL_702 dRL_703 dRL_704 ?_
  refine g_callV (rest := []) (id := 0) O dRL_705 (ct_X11_drawn hZ (by decide +kernel : kn 0 = 11) ex) vx_RL_82 (by decide +kernel : kn 0 = 11) rfl rfl (by decide) (Nat.le_of_ble_eq_true rfl) (fun _ => ?_)
  change G Z C τ 708 (lwL Z b (nI (7 * j))) [.int r]
  refine g_aload_n O dRL_708 3 rfl rfl ?_
  refine lw_arg O S hj 1 (by decide +kernel) (by decide) dRL_709 dRL_710 dRL_711 dRL_712 dRL_713 ?_
  refine lw_arg O S hj 2 (by decide +kernel) (by decide) dRL_714 dRL_715 dRL_716 dRL_717 dRL_718 ?_
  refine g_callV (rest := [.int r]) (id := 383) O dRL_719 (ct_X12_drawn hZ (by decide +kernel : kn 383 = 12) em) vx_RL_85 (by decide +kernel : kn 383 = 12) rfl rfl (by decide) (Nat.le_of_ble_eq_true rfl) (fun _ => ?_)
  change G Z C υ 722 (lwL Z b (nI (7 * j))) [.int r, .int r]
  exact lw_same O dRL_722 (by decide) (kk _ _ hz')
theorem lw_case_17 {g : Nat → Int32} (O : Ok Z C RL code 4 12 510) (S : lwS C b L xs) (hj : 7 * j + 7 ≤ L) (hz : zIv σ g) (kk : ∀ σ' g', zIv σ' g' → G Z C σ' 1153 (lwL Z b (nI (7 * j))) []) : G Z C σ 727 (lwL Z b (nI (7 * j))) [] := by
  have hZ := O.2.2.2.2.2.2.2.2.1
  obtain ⟨r, τ, υ, ex, em, g', hz'⟩ := z_op_chance hz (xs (7 * j + 1)) (xs (7 * j + 2)) (xs (7 * j + 3))
  have ex : fX11_chance σ 0 (xs (7 * j + 1)) (xs (7 * j + 2)) (xs (7 * j + 3)) = some (r, τ) := ex
  have em : fX12_chance τ 383 (xs (7 * j + 1)) (xs (7 * j + 2)) (xs (7 * j + 3)) = some (r, υ) := em
  refine g_aload_n O dRL_727 2 rfl rfl ?_
  refine lw_arg O S hj 1 (by decide +kernel) (by decide) dRL_728 dRL_729 dRL_730 dRL_731 dRL_732 ?_
  refine lw_arg O S hj 2 (by decide +kernel) (by decide) dRL_733 dRL_734 dRL_735 dRL_736 dRL_737 ?_
  refine lw_arg O S hj 3 (by decide +kernel) (by decide) dRL_738 dRL_739 dRL_740 dRL_741 dRL_742 ?_
  refine g_callV (rest := []) (id := 0) O dRL_743 (ct_X11_chance hZ (by decide +kernel : kn 0 = 11) ex) vx_RL_86 (by decide +kernel : kn 0 = 11) rfl rfl (by decide) (Nat.le_of_ble_eq_true rfl) (fun _ => ?_)
  change G Z C τ 746 (lwL Z b (nI (7 * j))) [.int r]
  refine g_aload_n O dRL_746 3 rfl rfl ?_
  refine lw_arg O S hj 1 (by decide +kernel) (by decide) dRL_747 dRL_748 dRL_749 dRL_750 dRL_751 ?_
  refine lw_arg O S hj 2 (by decide +kernel) (by decide) dRL_752 dRL_753 dRL_754 dRL_755 dRL_756 ?_
  refine lw_arg O S hj 3 (by decide +kernel) (by decide) dRL_757 dRL_758 dRL_759 dRL_760 dRL_761 ?_
  refine g_callV (rest := [.int r]) (id := 383) O dRL_762 (ct_X12_chance hZ (by decide +kernel : kn 383 = 12) em) vx_RL_89 (by decide +kernel : kn 383 = 12) rfl rfl (by decide) (Nat.le_of_ble_eq_true rfl) (fun _ => ?_)
  change G Z C υ 765 (lwL Z b (nI (7 * j))) [.int r, .int r]
  exact lw_same O dRL_765 (by decide) (kk _ _ hz')
theorem lw_case_18 {g : Nat → Int32} (O : Ok Z C RL code 4 12 510) (S : lwS C b L xs) (hj : 7 * j + 7 ≤ L) (hz : zIv σ g) (kk : ∀ σ' g', zIv σ' g' → G Z C σ' 1153 (lwL Z b (nI (7 * j))) []) : G Z C σ 770 (lwL Z b (nI (7 * j))) [] := by
  have hZ := O.2.2.2.2.2.2.2.2.1
  obtain ⟨r, τ, υ, ex, em, g', hz'⟩ := z_op_tray hz (xs (7 * j + 1)) (xs (7 * j + 2)) (xs (7 * j + 3))
  have ex : fX11_tray σ 0 (xs (7 * j + 1)) (xs (7 * j + 2)) (xs (7 * j + 3)) = some (r, τ) := ex
  have em : fX12_tray τ 383 (xs (7 * j + 1)) (xs (7 * j + 2)) (xs (7 * j + 3)) = some (r, υ) := em
  refine g_aload_n O dRL_770 2 rfl rfl ?_
  refine lw_arg O S hj 1 (by decide +kernel) (by decide) dRL_771 dRL_772 dRL_773 dRL_774 dRL_775 ?_
  refine lw_arg O S hj 2 (by decide +kernel) (by decide) dRL_776 dRL_777 dRL_778 dRL_779 dRL_780 ?_
  refine lw_arg O S hj 3 (by decide +kernel) (by decide) dRL_781 dRL_782 dRL_783 dRL_784 dRL_785 ?_
  refine g_callV (rest := []) (id := 0) O dRL_786 (ct_X11_tray hZ (by decide +kernel : kn 0 = 11) ex) vx_RL_90 (by decide +kernel : kn 0 = 11) rfl rfl (by decide) (Nat.le_of_ble_eq_true rfl) (fun _ => ?_)
  change G Z C τ 789 (lwL Z b (nI (7 * j))) [.int r]
  refine g_aload_n O dRL_789 3 rfl rfl ?_
  refine lw_arg O S hj 1 (by decide +kernel) (by decide) dRL_790 dRL_791 dRL_792 dRL_793 dRL_794 ?_
  refine lw_arg O S hj 2 (by decide +kernel) (by decide) dRL_795 dRL_796 dRL_797 dRL_798 dRL_799 ?_
  refine lw_arg O S hj 3 (by decide +kernel) (by decide) dRL_800 dRL_801 dRL_802 dRL_803 dRL_804 ?_
  refine g_callV (rest := [.int r]) (id := 383) O dRL_805 (ct_X12_tray hZ (by decide +kernel : kn 383 = 12) em) vx_RL_93 (by decide +kernel : kn 383 = 12) rfl rfl (by decide) (Nat.le_of_ble_eq_true rfl) (fun _ => ?_)
  change G Z C υ 808 (lwL Z b (nI (7 * j))) [.int r, .int r]
  exact lw_same O dRL_808 (by decide) (kk _ _ hz')
theorem lw_case_19 {g : Nat → Int32} (O : Ok Z C RL code 4 12 510) (S : lwS C b L xs) (hj : 7 * j + 7 ≤ L) (hz : zIv σ g) (kk : ∀ σ' g', zIv σ' g' → G Z C σ' 1153 (lwL Z b (nI (7 * j))) []) : G Z C σ 813 (lwL Z b (nI (7 * j))) [] := by
  have hZ := O.2.2.2.2.2.2.2.2.1
  obtain ⟨r, τ, υ, ex, em, g', hz'⟩ := z_op_lays hz (xs (7 * j + 1)) (xs (7 * j + 2)) (xs (7 * j + 3))
  have ex : fX11_lays σ 0 (xs (7 * j + 1)) (xs (7 * j + 2)) (xs (7 * j + 3)) = some (r, τ) := ex
  have em : fX12_lays τ 383 (xs (7 * j + 1)) (xs (7 * j + 2)) (xs (7 * j + 3)) = some (r, υ) := em
  refine g_aload_n O dRL_813 2 rfl rfl ?_
  refine lw_arg O S hj 1 (by decide +kernel) (by decide) dRL_814 dRL_815 dRL_816 dRL_817 dRL_818 ?_
  refine lw_arg O S hj 2 (by decide +kernel) (by decide) dRL_819 dRL_820 dRL_821 dRL_822 dRL_823 ?_
  refine lw_arg O S hj 3 (by decide +kernel) (by decide) dRL_824 dRL_825 dRL_826 dRL_827 dRL_828 ?_
  refine g_callV (rest := []) (id := 0) O dRL_829 (ct_X11_lays hZ (by decide +kernel : kn 0 = 11) ex) vx_RL_94 (by decide +kernel : kn 0 = 11) rfl rfl (by decide) (Nat.le_of_ble_eq_true rfl) (fun _ => ?_)
  change G Z C τ 832 (lwL Z b (nI (7 * j))) [.int r]
  refine g_aload_n O dRL_832 3 rfl rfl ?_
  refine lw_arg O S hj 1 (by decide +kernel) (by decide) dRL_833 dRL_834 dRL_835 dRL_836 dRL_837 ?_
  refine lw_arg O S hj 2 (by decide +kernel) (by decide) dRL_838 dRL_839 dRL_840 dRL_841 dRL_842 ?_
  refine lw_arg O S hj 3 (by decide +kernel) (by decide) dRL_843 dRL_844 dRL_845 dRL_846 dRL_847 ?_
  refine g_callV (rest := [.int r]) (id := 383) O dRL_848 (ct_X12_lays hZ (by decide +kernel : kn 383 = 12) em) vx_RL_97 (by decide +kernel : kn 383 = 12) rfl rfl (by decide) (Nat.le_of_ble_eq_true rfl) (fun _ => ?_)
  change G Z C υ 851 (lwL Z b (nI (7 * j))) [.int r, .int r]
  exact lw_same O dRL_851 (by decide) (kk _ _ hz')
theorem lw_case_20 {g : Nat → Int32} (O : Ok Z C RL code 4 12 510) (S : lwS C b L xs) (hj : 7 * j + 7 ≤ L) (hz : zIv σ g) (kk : ∀ σ' g', zIv σ' g' → G Z C σ' 1153 (lwL Z b (nI (7 * j))) []) : G Z C σ 856 (lwL Z b (nI (7 * j))) [] := by
  have hZ := O.2.2.2.2.2.2.2.2.1
  obtain ⟨r, ex, em⟩ := z_op_laid hz (xs (7 * j + 1)) (xs (7 * j + 2))
  refine g_aload_n O dRL_856 2 rfl rfl ?_
  refine lw_arg O S hj 1 (by decide +kernel) (by decide) dRL_857 dRL_858 dRL_859 dRL_860 dRL_861 ?_
  refine lw_arg O S hj 2 (by decide +kernel) (by decide) dRL_862 dRL_863 dRL_864 dRL_865 dRL_866 ?_
  refine g_callV (rest := []) (id := 0) O dRL_867 (ct_X11_laid hZ (by decide +kernel : kn 0 = 11) ex) vx_RL_98 (by decide +kernel : kn 0 = 11) rfl rfl (by decide) (Nat.le_of_ble_eq_true rfl) (fun _ => ?_)
  change G Z C σ 870 (lwL Z b (nI (7 * j))) [.int r]
  refine g_aload_n O dRL_870 3 rfl rfl ?_
  refine lw_arg O S hj 1 (by decide +kernel) (by decide) dRL_871 dRL_872 dRL_873 dRL_874 dRL_875 ?_
  refine lw_arg O S hj 2 (by decide +kernel) (by decide) dRL_876 dRL_877 dRL_878 dRL_879 dRL_880 ?_
  refine g_callV (rest := [.int r]) (id := 383) O dRL_881 (ct_X12_laid hZ (by decide +kernel : kn 383 = 12) em) vx_RL_101 (by decide +kernel : kn 383 = 12) rfl rfl (by decide) (Nat.le_of_ble_eq_true rfl) (fun _ => ?_)
  change G Z C σ 884 (lwL Z b (nI (7 * j))) [.int r, .int r]
  exact lw_same O dRL_884 (by decide) (kk _ _ hz)
theorem lw_case_21 {g : Nat → Int32} (O : Ok Z C RL code 4 12 510) (S : lwS C b L xs) (hj : 7 * j + 7 ≤ L) (hz : zIv σ g) (kk : ∀ σ' g', zIv σ' g' → G Z C σ' 1153 (lwL Z b (nI (7 * j))) []) : G Z C σ 889 (lwL Z b (nI (7 * j))) [] := by
  have hZ := O.2.2.2.2.2.2.2.2.1
  obtain ⟨r, τ, υ, ex, em, g', hz'⟩ := z_op_like hz (xs (7 * j + 1)) (xs (7 * j + 2))
  have ex : fX11_like σ 0 (xs (7 * j + 1)) (xs (7 * j + 2)) = some (r, τ) := ex
  have em : fX12_like τ 383 (xs (7 * j + 1)) (xs (7 * j + 2)) = some (r, υ) := em
  refine g_aload_n O dRL_889 2 rfl rfl ?_
  refine lw_arg O S hj 1 (by decide +kernel) (by decide) dRL_890 dRL_891 dRL_892 dRL_893 dRL_894 ?_
  refine lw_arg O S hj 2 (by decide +kernel) (by decide) dRL_895 dRL_896 dRL_897 dRL_898 dRL_899 ?_
  refine g_callV (rest := []) (id := 0) O dRL_900 (ct_X11_like hZ (by decide +kernel : kn 0 = 11) ex) vx_RL_102 (by decide +kernel : kn 0 = 11) rfl rfl (by decide) (Nat.le_of_ble_eq_true rfl) (fun _ => ?_)
  change G Z C τ 903 (lwL Z b (nI (7 * j))) [.int r]
  refine g_aload_n O dRL_903 3 rfl rfl ?_
  refine lw_arg O S hj 1 (by decide +kernel) (by decide) dRL_904 dRL_905 dRL_906 dRL_907 dRL_908 ?_
  refine lw_arg O S hj 2 (by decide +kernel) (by decide) dRL_909 dRL_910 dRL_911 dRL_912 dRL_913 ?_
  refine g_callV (rest := [.int r]) (id := 383) O dRL_914 (ct_X12_like hZ (by decide +kernel : kn 383 = 12) em) vx_RL_105 (by decide +kernel : kn 383 = 12) rfl rfl (by decide) (Nat.le_of_ble_eq_true rfl) (fun _ => ?_)
  change G Z C υ 917 (lwL Z b (nI (7 * j))) [.int r, .int r]
  exact lw_same O dRL_917 (by decide) (kk _ _ hz')
theorem lw_case_22 {g : Nat → Int32} (O : Ok Z C RL code 4 12 510) (S : lwS C b L xs) (hj : 7 * j + 7 ≤ L) (hz : zIv σ g) (kk : ∀ σ' g', zIv σ' g' → G Z C σ' 1153 (lwL Z b (nI (7 * j))) []) : G Z C σ 922 (lwL Z b (nI (7 * j))) [] := by
  have hZ := O.2.2.2.2.2.2.2.2.1
  obtain ⟨r, τ, υ, ex, em, g', hz'⟩ := z_op_tells hz (xs (7 * j + 1)) (xs (7 * j + 2))
  have ex : fX11_tells σ 0 (xs (7 * j + 1)) (xs (7 * j + 2)) = some (r, τ) := ex
  have em : fX12_tells τ 383 (xs (7 * j + 1)) (xs (7 * j + 2)) = some (r, υ) := em
  refine g_aload_n O dRL_922 2 rfl rfl ?_
  refine lw_arg O S hj 1 (by decide +kernel) (by decide) dRL_923 dRL_924 dRL_925 dRL_926 dRL_927 ?_
  refine lw_arg O S hj 2 (by decide +kernel) (by decide) dRL_928 dRL_929 dRL_930 dRL_931 dRL_932 ?_
  refine g_callV (rest := []) (id := 0) O dRL_933 (ct_X11_tells hZ (by decide +kernel : kn 0 = 11) ex) vx_RL_106 (by decide +kernel : kn 0 = 11) rfl rfl (by decide) (Nat.le_of_ble_eq_true rfl) (fun _ => ?_)
  change G Z C τ 936 (lwL Z b (nI (7 * j))) [.int r]
  refine g_aload_n O dRL_936 3 rfl rfl ?_
  refine lw_arg O S hj 1 (by decide +kernel) (by decide) dRL_937 dRL_938 dRL_939 dRL_940 dRL_941 ?_
  refine lw_arg O S hj 2 (by decide +kernel) (by decide) dRL_942 dRL_943 dRL_944 dRL_945 dRL_946 ?_
  refine g_callV (rest := [.int r]) (id := 383) O dRL_947 (ct_X12_tells hZ (by decide +kernel : kn 383 = 12) em) vx_RL_109 (by decide +kernel : kn 383 = 12) rfl rfl (by decide) (Nat.le_of_ble_eq_true rfl) (fun _ => ?_)
  change G Z C υ 950 (lwL Z b (nI (7 * j))) [.int r, .int r]
  exact lw_same O dRL_950 (by decide) (kk _ _ hz')
theorem lw_case_23 {g : Nat → Int32} (O : Ok Z C RL code 4 12 510) (S : lwS C b L xs) (hj : 7 * j + 7 ≤ L) (hz : zIv σ g) (kk : ∀ σ' g', zIv σ' g' → G Z C σ' 1153 (lwL Z b (nI (7 * j))) []) : G Z C σ 955 (lwL Z b (nI (7 * j))) [] := by
  have hZ := O.2.2.2.2.2.2.2.2.1
  obtain ⟨r, τ, υ, ex, em, g', hz'⟩ := z_op_image hz 
  have ex : fX11_image σ 0  = some (r, τ) := ex
  have em : fX12_image τ 383  = some (r, υ) := em
  refine g_aload_n O dRL_955 2 rfl rfl ?_
  refine g_callV (rest := []) (id := 0) O dRL_956 (ct_X11_image hZ (by decide +kernel : kn 0 = 11) ex) vx_RL_110 (by decide +kernel : kn 0 = 11) rfl rfl (by decide) (Nat.le_of_ble_eq_true rfl) (fun _ => ?_)
  change G Z C τ 959 (lwL Z b (nI (7 * j))) [.int r]
  refine g_aload_n O dRL_959 3 rfl rfl ?_
  refine g_callV (rest := [.int r]) (id := 383) O dRL_960 (ct_X12_image hZ (by decide +kernel : kn 383 = 12) em) vx_RL_113 (by decide +kernel : kn 383 = 12) rfl rfl (by decide) (Nat.le_of_ble_eq_true rfl) (fun _ => ?_)
  change G Z C υ 963 (lwL Z b (nI (7 * j))) [.int r, .int r]
  exact lw_same O dRL_963 (by decide) (kk _ _ hz')
theorem lw_case_24 {g : Nat → Int32} (O : Ok Z C RL code 4 12 510) (S : lwS C b L xs) (hj : 7 * j + 7 ≤ L) (hz : zIv σ g) (kk : ∀ σ' g', zIv σ' g' → G Z C σ' 1153 (lwL Z b (nI (7 * j))) []) : G Z C σ 968 (lwL Z b (nI (7 * j))) [] := by
  have hZ := O.2.2.2.2.2.2.2.2.1
  obtain ⟨r, τ, υ, ex, em, g', hz'⟩ := z_op_back hz 
  have ex : fX11_back σ 0  = some (r, τ) := ex
  have em : fX12_back τ 383  = some (r, υ) := em
  refine g_aload_n O dRL_968 2 rfl rfl ?_
  refine g_callV (rest := []) (id := 0) O dRL_969 (ct_X11_back hZ (by decide +kernel : kn 0 = 11) ex) vx_RL_114 (by decide +kernel : kn 0 = 11) rfl rfl (by decide) (Nat.le_of_ble_eq_true rfl) (fun _ => ?_)
  change G Z C τ 972 (lwL Z b (nI (7 * j))) [.int r]
  refine g_aload_n O dRL_972 3 rfl rfl ?_
  refine g_callV (rest := [.int r]) (id := 383) O dRL_973 (ct_X12_back hZ (by decide +kernel : kn 383 = 12) em) vx_RL_117 (by decide +kernel : kn 383 = 12) rfl rfl (by decide) (Nat.le_of_ble_eq_true rfl) (fun _ => ?_)
  change G Z C υ 976 (lwL Z b (nI (7 * j))) [.int r, .int r]
  exact lw_same O dRL_976 (by decide) (kk _ _ hz')
theorem lw_case_25 {g : Nat → Int32} (O : Ok Z C RL code 4 12 510) (S : lwS C b L xs) (hj : 7 * j + 7 ≤ L) (hz : zIv σ g) (kk : ∀ σ' g', zIv σ' g' → G Z C σ' 1153 (lwL Z b (nI (7 * j))) []) : G Z C σ 981 (lwL Z b (nI (7 * j))) [] := by
  have hZ := O.2.2.2.2.2.2.2.2.1
  obtain ⟨r, τ, υ, ex, em, g', hz'⟩ := z_op_count hz (xs (7 * j + 1))
  have ex : fX11_count σ 0 (xs (7 * j + 1)) = some (r, τ) := ex
  have em : fX12_count τ 383 (xs (7 * j + 1)) = some (r, υ) := em
  refine g_aload_n O dRL_981 2 rfl rfl ?_
  refine lw_arg O S hj 1 (by decide +kernel) (by decide) dRL_982 dRL_983 dRL_984 dRL_985 dRL_986 ?_
  refine g_callV (rest := []) (id := 0) O dRL_987 (ct_X11_count hZ (by decide +kernel : kn 0 = 11) ex) vx_RL_118 (by decide +kernel : kn 0 = 11) rfl rfl (by decide) (Nat.le_of_ble_eq_true rfl) (fun _ => ?_)
  change G Z C τ 990 (lwL Z b (nI (7 * j))) [.int r]
  refine g_aload_n O dRL_990 3 rfl rfl ?_
  refine lw_arg O S hj 1 (by decide +kernel) (by decide) dRL_991 dRL_992 dRL_993 dRL_994 dRL_995 ?_
  refine g_callV (rest := [.int r]) (id := 383) O dRL_996 (ct_X12_count hZ (by decide +kernel : kn 383 = 12) em) vx_RL_121 (by decide +kernel : kn 383 = 12) rfl rfl (by decide) (Nat.le_of_ble_eq_true rfl) (fun _ => ?_)
  change G Z C υ 999 (lwL Z b (nI (7 * j))) [.int r, .int r]
  exact lw_same O dRL_999 (by decide) (kk _ _ hz')
theorem lw_case_26 {g : Nat → Int32} (O : Ok Z C RL code 4 12 510) (S : lwS C b L xs) (hj : 7 * j + 7 ≤ L) (hz : zIv σ g) (kk : ∀ σ' g', zIv σ' g' → G Z C σ' 1153 (lwL Z b (nI (7 * j))) []) : G Z C σ 1004 (lwL Z b (nI (7 * j))) [] := by
  have hZ := O.2.2.2.2.2.2.2.2.1
  obtain ⟨r, τ, υ, ex, em, g', hz'⟩ := z_op_sheet hz (xs (7 * j + 1)) (xs (7 * j + 2)) (xs (7 * j + 3))
  have ex : fX11_sheet σ 0 (xs (7 * j + 1)) (xs (7 * j + 2)) (xs (7 * j + 3)) = some (r, τ) := ex
  have em : fX12_sheet τ 383 (xs (7 * j + 1)) (xs (7 * j + 2)) (xs (7 * j + 3)) = some (r, υ) := em
  refine g_aload_n O dRL_1004 2 rfl rfl ?_
  refine lw_arg O S hj 1 (by decide +kernel) (by decide) dRL_1005 dRL_1006 dRL_1007 dRL_1008 dRL_1009 ?_
  refine lw_arg O S hj 2 (by decide +kernel) (by decide) dRL_1010 dRL_1011 dRL_1012 dRL_1013 dRL_1014 ?_
  refine lw_arg O S hj 3 (by decide +kernel) (by decide) dRL_1015 dRL_1016 dRL_1017 dRL_1018 dRL_1019 ?_
  refine g_callV (rest := []) (id := 0) O dRL_1020 (ct_X11_sheet hZ (by decide +kernel : kn 0 = 11) ex) vx_RL_122 (by decide +kernel : kn 0 = 11) rfl rfl (by decide) (Nat.le_of_ble_eq_true rfl) (fun _ => ?_)
  change G Z C τ 1023 (lwL Z b (nI (7 * j))) [.int r]
  refine g_aload_n O dRL_1023 3 rfl rfl ?_
  refine lw_arg O S hj 1 (by decide +kernel) (by decide) dRL_1024 dRL_1025 dRL_1026 dRL_1027 dRL_1028 ?_
  refine lw_arg O S hj 2 (by decide +kernel) (by decide) dRL_1029 dRL_1030 dRL_1031 dRL_1032 dRL_1033 ?_
  refine lw_arg O S hj 3 (by decide +kernel) (by decide) dRL_1034 dRL_1035 dRL_1036 dRL_1037 dRL_1038 ?_
  refine g_callV (rest := [.int r]) (id := 383) O dRL_1039 (ct_X12_sheet hZ (by decide +kernel : kn 383 = 12) em) vx_RL_125 (by decide +kernel : kn 383 = 12) rfl rfl (by decide) (Nat.le_of_ble_eq_true rfl) (fun _ => ?_)
  change G Z C υ 1042 (lwL Z b (nI (7 * j))) [.int r, .int r]
  exact lw_same O dRL_1042 (by decide) (kk _ _ hz')
theorem lw_case_27 {g : Nat → Int32} (O : Ok Z C RL code 4 12 510) (S : lwS C b L xs) (hj : 7 * j + 7 ≤ L) (hz : zIv σ g) (kk : ∀ σ' g', zIv σ' g' → G Z C σ' 1153 (lwL Z b (nI (7 * j))) []) : G Z C σ 1047 (lwL Z b (nI (7 * j))) [] := by
  have hZ := O.2.2.2.2.2.2.2.2.1
  obtain ⟨r, τ, υ, ex, em, g', hz'⟩ := z_op_put hz (xs (7 * j + 1)) (xs (7 * j + 2)) (xs (7 * j + 3))
  have ex : fX11_put σ 0 (xs (7 * j + 1)) (xs (7 * j + 2)) (xs (7 * j + 3)) = some (r, τ) := ex
  have em : fX12_put τ 383 (xs (7 * j + 1)) (xs (7 * j + 2)) (xs (7 * j + 3)) = some (r, υ) := em
  refine g_aload_n O dRL_1047 2 rfl rfl ?_
  refine lw_arg O S hj 1 (by decide +kernel) (by decide) dRL_1048 dRL_1049 dRL_1050 dRL_1051 dRL_1052 ?_
  refine lw_arg O S hj 2 (by decide +kernel) (by decide) dRL_1053 dRL_1054 dRL_1055 dRL_1056 dRL_1057 ?_
  refine lw_arg O S hj 3 (by decide +kernel) (by decide) dRL_1058 dRL_1059 dRL_1060 dRL_1061 dRL_1062 ?_
  refine g_callV (rest := []) (id := 0) O dRL_1063 (ct_X11_put hZ (by decide +kernel : kn 0 = 11) ex) vx_RL_126 (by decide +kernel : kn 0 = 11) rfl rfl (by decide) (Nat.le_of_ble_eq_true rfl) (fun _ => ?_)
  change G Z C τ 1066 (lwL Z b (nI (7 * j))) [.int r]
  refine g_aload_n O dRL_1066 3 rfl rfl ?_
  refine lw_arg O S hj 1 (by decide +kernel) (by decide) dRL_1067 dRL_1068 dRL_1069 dRL_1070 dRL_1071 ?_
  refine lw_arg O S hj 2 (by decide +kernel) (by decide) dRL_1072 dRL_1073 dRL_1074 dRL_1075 dRL_1076 ?_
  refine lw_arg O S hj 3 (by decide +kernel) (by decide) dRL_1077 dRL_1078 dRL_1079 dRL_1080 dRL_1081 ?_
  refine g_callV (rest := [.int r]) (id := 383) O dRL_1082 (ct_X12_put hZ (by decide +kernel : kn 383 = 12) em) vx_RL_129 (by decide +kernel : kn 383 = 12) rfl rfl (by decide) (Nat.le_of_ble_eq_true rfl) (fun _ => ?_)
  change G Z C υ 1085 (lwL Z b (nI (7 * j))) [.int r, .int r]
  exact lw_same O dRL_1085 (by decide) (kk _ _ hz')
theorem lw_case_28 {g : Nat → Int32} (O : Ok Z C RL code 4 12 510) (S : lwS C b L xs) (hj : 7 * j + 7 ≤ L) (hz : zIv σ g) (kk : ∀ σ' g', zIv σ' g' → G Z C σ' 1153 (lwL Z b (nI (7 * j))) []) : G Z C σ 1090 (lwL Z b (nI (7 * j))) [] := by
  have hZ := O.2.2.2.2.2.2.2.2.1
  obtain ⟨r, τ, υ, ex, em, g', hz'⟩ := z_op_copy hz (xs (7 * j + 1)) (xs (7 * j + 2)) (xs (7 * j + 3)) (xs (7 * j + 4)) (xs (7 * j + 5))
  have ex : fX11_copy σ 0 (xs (7 * j + 1)) (xs (7 * j + 2)) (xs (7 * j + 3)) (xs (7 * j + 4)) (xs (7 * j + 5)) = some (r, τ) := ex
  have em : fX12_copy τ 383 (xs (7 * j + 1)) (xs (7 * j + 2)) (xs (7 * j + 3)) (xs (7 * j + 4)) (xs (7 * j + 5)) = some (r, υ) := em
  refine g_aload_n O dRL_1090 2 rfl rfl ?_
  refine lw_arg O S hj 1 (by decide +kernel) (by decide) dRL_1091 dRL_1092 dRL_1093 dRL_1094 dRL_1095 ?_
  refine lw_arg O S hj 2 (by decide +kernel) (by decide) dRL_1096 dRL_1097 dRL_1098 dRL_1099 dRL_1100 ?_
  refine lw_arg O S hj 3 (by decide +kernel) (by decide) dRL_1101 dRL_1102 dRL_1103 dRL_1104 dRL_1105 ?_
  refine lw_arg O S hj 4 (by decide +kernel) (by decide) dRL_1106 dRL_1107 dRL_1108 dRL_1109 dRL_1110 ?_
  refine lw_arg O S hj 5 (by decide +kernel) (by decide) dRL_1111 dRL_1112 dRL_1113 dRL_1114 dRL_1115 ?_
  refine g_callV (rest := []) (id := 0) O dRL_1116 (ct_X11_copy hZ (by decide +kernel : kn 0 = 11) ex) vx_RL_130 (by decide +kernel : kn 0 = 11) rfl rfl (by decide) (Nat.le_of_ble_eq_true rfl) (fun _ => ?_)
  change G Z C τ 1119 (lwL Z b (nI (7 * j))) [.int r]
  refine g_aload_n O dRL_1119 3 rfl rfl ?_
  refine lw_arg O S hj 1 (by decide +kernel) (by decide) dRL_1120 dRL_1121 dRL_1122 dRL_1123 dRL_1124 ?_
  refine lw_arg O S hj 2 (by decide +kernel) (by decide) dRL_1125 dRL_1126 dRL_1127 dRL_1128 dRL_1129 ?_
  refine lw_arg O S hj 3 (by decide +kernel) (by decide) dRL_1130 dRL_1131 dRL_1132 dRL_1133 dRL_1134 ?_
  refine lw_arg O S hj 4 (by decide +kernel) (by decide) dRL_1135 dRL_1136 dRL_1137 dRL_1138 dRL_1139 ?_
  refine lw_arg O S hj 5 (by decide +kernel) (by decide) dRL_1140 dRL_1141 dRL_1142 dRL_1143 dRL_1144 ?_
  refine g_callV (rest := [.int r]) (id := 383) O dRL_1145 (ct_X12_copy hZ (by decide +kernel : kn 383 = 12) em) vx_RL_134 (by decide +kernel : kn 383 = 12) rfl rfl (by decide) (Nat.le_of_ble_eq_true rfl) (fun _ => ?_)
  change G Z C υ 1148 (lwL Z b (nI (7 * j))) [.int r, .int r]
  exact lw_same O dRL_1148 (by decide) (kk _ _ hz')
end LAWWALK
