/-! THE LAW: one case of its switch a theorem -/
def mL_law : vMeth := (yL_law, cL_law, 4, ret)
abbrev lsL (k : Nat) : List (Nat × Value) := [(0, .ref vsN), (1, .ref 0), (2, .ref 163), (3, .int (nI k))]
def JL (L : Nat) (xs : Nat → Int32) (k pc : Nat) (m : vM) (P : Option Value → vSh → vM → Prop) : Prop := vJ mL_law 8 294 197 (some (L, xs)) pc (lsL k) [] 197 SH m P
section LAWS
variable {L : Nat} {xs : Nat → Int32} {k pc : Nat} {st : List Value} {m : vM} {P : Option Value → vSh → vM → Prop}
/-- one number of the script, behind the op's -/
theorem rdS {q : Int} {j : Nat} (h0 : decode cL_law pc = .ok (.aload_n 0, 1)) (h1 : decode cL_law (pc + 1) = .ok (.iload_n 3, 1)) (h2 : decode cL_law (pc + 2) = .ok (.iconst q, 1)) (h3 : decode cL_law (pc + 3) = .ok (.iadd, 1)) (h4 : decode cL_law (pc + 4) = .ok (.iaload, 1)) (hq : Int32.ofInt q = nI j) (hj : j < 6) (hL : L ≤ 3072) (hk : k + 6 ≤ L) (kk : vJ mL_law 8 294 197 (some (L, xs)) (pc + 5) (lsL k) (.int (xs (k + j)) :: st) 197 SH m P) : vJ mL_law 8 294 197 (some (L, xs)) pc (lsL k) st 197 SH m P := by
  refine vJ.aload_n h0 rfl rfl ?_
  refine vJ.iload_n h1 rfl rfl ?_
  refine vJ.iconst h2 hq ?_
  refine vJ.iadd h3 ?_
  rw [adI]
  refine vJ.sld rfl h4 (vI (by omega) (by omega)) ?_
  rw [clI (k + j) (by omega)]
  exact kk
end LAWS
theorem law_0 {L k : Nat} {xs : Nat → Int32} {m : vM} {P : Option Value → vSh → vM → Prop} (hL : L ≤ 3072) (hk : k + 6 ≤ L) (hI : Inv m) (back : ∀ m1, Inv m1 → JL L xs k 1096 m1 P) : JL L xs k 172 m P := by
  unfold JL
  refine vJ.aload_n dL_law_172 rfl rfl ?_
  refine rdS (j := 1) dL_law_173 dL_law_174 dL_law_175 dL_law_176 dL_law_177 rfl (by decide) hL hk ?_
  refine rdS (j := 2) dL_law_178 dL_law_179 dL_law_180 dL_law_181 dL_law_182 rfl (by decide) hL hk ?_
  refine rdS (j := 3) dL_law_183 dL_law_184 dL_law_185 dL_law_186 dL_law_187 rfl (by decide) hL hk ?_
  refine vJ.callV (ci := 6) (N := 8) (b := 0) (Yc := mX6_table) (frc := 2) (loc := 46) (as := [.int (xs (k + 1)), .int (xs (k + 2)), .int (xs (k + 3))]) (st := []) dL_law_188 rfl sh_0 (Nat.le_of_ble_eq_true rfl) rfl ml_RL_13 im_yX6_table se_yX6_table co_X6_table in_TableSetter pl_X6_table (Nat.le_of_ble_eq_true rfl) (Nat.le_of_ble_eq_true rfl) (Nat.le_of_ble_eq_true rfl) ?_
  refine Ev.gi (pair_table (xs (k + 1)) (xs (k + 2)) (xs (k + 3)) m hI) (fun r m1 h => ?_)
  refine vJ.aload_n dL_law_191 rfl rfl ?_
  refine rdS (j := 1) dL_law_192 dL_law_193 dL_law_194 dL_law_195 dL_law_196 rfl (by decide) hL hk ?_
  refine rdS (j := 2) dL_law_197 dL_law_198 dL_law_199 dL_law_200 dL_law_201 rfl (by decide) hL hk ?_
  refine rdS (j := 3) dL_law_202 dL_law_203 dL_law_204 dL_law_205 dL_law_206 rfl (by decide) hL hk ?_
  refine vJ.callV (ci := 7) (N := 41) (b := 163) (Yc := mX7_table) (frc := 1) (loc := 24) (as := [.int (xs (k + 1)), .int (xs (k + 2)), .int (xs (k + 3))]) (st := [.int r]) dL_law_207 rfl sh_163 (Nat.le_of_ble_eq_true rfl) rfl ml_RL_17 im_yX7_table se_yX7_table co_X7_table in_TableSetterModel pl_X7_table (Nat.le_of_ble_eq_true rfl) (Nat.le_of_ble_eq_true rfl) (Nat.le_of_ble_eq_true rfl) ?_
  refine Ev.gi h (fun r2 m2 h2 => ?_)
  obtain ⟨rfl, hI2⟩ := h2
  exact vJ.icmp_eq (tgt := 1096) dL_law_210 (by decide) (fun _ => back m2 hI2) (fun hn => absurd rfl hn)
theorem law_1 {L k : Nat} {xs : Nat → Int32} {m : vM} {P : Option Value → vSh → vM → Prop} (hL : L ≤ 3072) (hk : k + 6 ≤ L) (hI : Inv m) (back : ∀ m1, Inv m1 → JL L xs k 1096 m1 P) : JL L xs k 215 m P := by
  unfold JL
  refine vJ.aload_n dL_law_215 rfl rfl ?_
  refine rdS (j := 1) dL_law_216 dL_law_217 dL_law_218 dL_law_219 dL_law_220 rfl (by decide) hL hk ?_
  refine rdS (j := 2) dL_law_221 dL_law_222 dL_law_223 dL_law_224 dL_law_225 rfl (by decide) hL hk ?_
  refine vJ.callV (ci := 6) (N := 8) (b := 0) (Yc := mX6_weight) (frc := 1) (loc := 22) (as := [.int (xs (k + 1)), .int (xs (k + 2))]) (st := []) dL_law_226 rfl sh_0 (Nat.le_of_ble_eq_true rfl) rfl ml_RL_18 im_yX6_weight se_yX6_weight co_X6_weight in_TableSetter pl_X6_weight (Nat.le_of_ble_eq_true rfl) (Nat.le_of_ble_eq_true rfl) (Nat.le_of_ble_eq_true rfl) ?_
  refine Ev.gi (pair_weight (xs (k + 1)) (xs (k + 2)) m hI) (fun r m1 h => ?_)
  refine vJ.aload_n dL_law_229 rfl rfl ?_
  refine rdS (j := 1) dL_law_230 dL_law_231 dL_law_232 dL_law_233 dL_law_234 rfl (by decide) hL hk ?_
  refine rdS (j := 2) dL_law_235 dL_law_236 dL_law_237 dL_law_238 dL_law_239 rfl (by decide) hL hk ?_
  refine vJ.callV (ci := 7) (N := 41) (b := 163) (Yc := mX7_weight) (frc := 2) (loc := 43) (as := [.int (xs (k + 1)), .int (xs (k + 2))]) (st := [.int r]) dL_law_240 rfl sh_163 (Nat.le_of_ble_eq_true rfl) rfl ml_RL_22 im_yX7_weight se_yX7_weight co_X7_weight in_TableSetterModel pl_X7_weight (Nat.le_of_ble_eq_true rfl) (Nat.le_of_ble_eq_true rfl) (Nat.le_of_ble_eq_true rfl) ?_
  refine Ev.gi h (fun r2 m2 h2 => ?_)
  obtain ⟨rfl, hI2⟩ := h2
  exact vJ.icmp_eq (tgt := 1096) dL_law_243 (by decide) (fun _ => back m2 hI2) (fun hn => absurd rfl hn)
theorem law_2 {L k : Nat} {xs : Nat → Int32} {m : vM} {P : Option Value → vSh → vM → Prop} (hL : L ≤ 3072) (hk : k + 6 ≤ L) (hI : Inv m) (back : ∀ m1, Inv m1 → JL L xs k 1096 m1 P) : JL L xs k 248 m P := by
  unfold JL
  refine vJ.aload_n dL_law_248 rfl rfl ?_
  refine rdS (j := 1) dL_law_249 dL_law_250 dL_law_251 dL_law_252 dL_law_253 rfl (by decide) hL hk ?_
  refine rdS (j := 2) dL_law_254 dL_law_255 dL_law_256 dL_law_257 dL_law_258 rfl (by decide) hL hk ?_
  refine vJ.callV (ci := 6) (N := 8) (b := 0) (Yc := mX6_note) (frc := 1) (loc := 22) (as := [.int (xs (k + 1)), .int (xs (k + 2))]) (st := []) dL_law_259 rfl sh_0 (Nat.le_of_ble_eq_true rfl) rfl ml_RL_23 im_yX6_note se_yX6_note co_X6_note in_TableSetter pl_X6_note (Nat.le_of_ble_eq_true rfl) (Nat.le_of_ble_eq_true rfl) (Nat.le_of_ble_eq_true rfl) ?_
  refine Ev.gi (pair_note (xs (k + 1)) (xs (k + 2)) m hI) (fun r m1 h => ?_)
  refine vJ.aload_n dL_law_262 rfl rfl ?_
  refine rdS (j := 1) dL_law_263 dL_law_264 dL_law_265 dL_law_266 dL_law_267 rfl (by decide) hL hk ?_
  refine rdS (j := 2) dL_law_268 dL_law_269 dL_law_270 dL_law_271 dL_law_272 rfl (by decide) hL hk ?_
  refine vJ.callV (ci := 7) (N := 41) (b := 163) (Yc := mX7_note) (frc := 1) (loc := 22) (as := [.int (xs (k + 1)), .int (xs (k + 2))]) (st := [.int r]) dL_law_273 rfl sh_163 (Nat.le_of_ble_eq_true rfl) rfl ml_RL_26 im_yX7_note se_yX7_note co_X7_note in_TableSetterModel pl_X7_note (Nat.le_of_ble_eq_true rfl) (Nat.le_of_ble_eq_true rfl) (Nat.le_of_ble_eq_true rfl) ?_
  refine Ev.gi h (fun r2 m2 h2 => ?_)
  obtain ⟨rfl, hI2⟩ := h2
  exact vJ.icmp_eq (tgt := 1096) dL_law_276 (by decide) (fun _ => back m2 hI2) (fun hn => absurd rfl hn)
theorem law_3 {L k : Nat} {xs : Nat → Int32} {m : vM} {P : Option Value → vSh → vM → Prop} (hL : L ≤ 3072) (hk : k + 6 ≤ L) (hI : Inv m) (back : ∀ m1, Inv m1 → JL L xs k 1096 m1 P) : JL L xs k 281 m P := by
  unfold JL
  refine vJ.aload_n dL_law_281 rfl rfl ?_
  refine rdS (j := 1) dL_law_282 dL_law_283 dL_law_284 dL_law_285 dL_law_286 rfl (by decide) hL hk ?_
  refine rdS (j := 2) dL_law_287 dL_law_288 dL_law_289 dL_law_290 dL_law_291 rfl (by decide) hL hk ?_
  refine rdS (j := 3) dL_law_292 dL_law_293 dL_law_294 dL_law_295 dL_law_296 rfl (by decide) hL hk ?_
  refine rdS (j := 4) dL_law_297 dL_law_298 dL_law_299 dL_law_300 dL_law_301 rfl (by decide) hL hk ?_
  refine rdS (j := 5) dL_law_302 dL_law_303 dL_law_304 dL_law_305 dL_law_306 rfl (by decide) hL hk ?_
  refine vJ.callV (ci := 6) (N := 8) (b := 0) (Yc := mX6_cell) (frc := 5) (loc := 114) (as := [.int (xs (k + 1)), .int (xs (k + 2)), .int (xs (k + 3)), .int (xs (k + 4)), .int (xs (k + 5))]) (st := []) dL_law_307 rfl sh_0 (Nat.le_of_ble_eq_true rfl) rfl ml_RL_27 im_yX6_cell se_yX6_cell co_X6_cell in_TableSetter pl_X6_cell (Nat.le_of_ble_eq_true rfl) (Nat.le_of_ble_eq_true rfl) (Nat.le_of_ble_eq_true rfl) ?_
  refine Ev.gi (pair_cell (xs (k + 1)) (xs (k + 2)) (xs (k + 3)) (xs (k + 4)) (xs (k + 5)) m hI) (fun r m1 h => ?_)
  refine vJ.aload_n dL_law_310 rfl rfl ?_
  refine rdS (j := 1) dL_law_311 dL_law_312 dL_law_313 dL_law_314 dL_law_315 rfl (by decide) hL hk ?_
  refine rdS (j := 2) dL_law_316 dL_law_317 dL_law_318 dL_law_319 dL_law_320 rfl (by decide) hL hk ?_
  refine rdS (j := 3) dL_law_321 dL_law_322 dL_law_323 dL_law_324 dL_law_325 rfl (by decide) hL hk ?_
  refine rdS (j := 4) dL_law_326 dL_law_327 dL_law_328 dL_law_329 dL_law_330 rfl (by decide) hL hk ?_
  refine rdS (j := 5) dL_law_331 dL_law_332 dL_law_333 dL_law_334 dL_law_335 rfl (by decide) hL hk ?_
  refine vJ.callV (ci := 7) (N := 41) (b := 163) (Yc := mX7_cell) (frc := 2) (loc := 46) (as := [.int (xs (k + 1)), .int (xs (k + 2)), .int (xs (k + 3)), .int (xs (k + 4)), .int (xs (k + 5))]) (st := [.int r]) dL_law_336 rfl sh_163 (Nat.le_of_ble_eq_true rfl) rfl ml_RL_31 im_yX7_cell se_yX7_cell co_X7_cell in_TableSetterModel pl_X7_cell (Nat.le_of_ble_eq_true rfl) (Nat.le_of_ble_eq_true rfl) (Nat.le_of_ble_eq_true rfl) ?_
  refine Ev.gi h (fun r2 m2 h2 => ?_)
  obtain ⟨rfl, hI2⟩ := h2
  exact vJ.icmp_eq (tgt := 1096) dL_law_339 (by decide) (fun _ => back m2 hI2) (fun hn => absurd rfl hn)
theorem law_4 {L k : Nat} {xs : Nat → Int32} {m : vM} {P : Option Value → vSh → vM → Prop} (hL : L ≤ 3072) (hk : k + 6 ≤ L) (hI : Inv m) (back : ∀ m1, Inv m1 → JL L xs k 1096 m1 P) : JL L xs k 344 m P := by
  unfold JL
  refine vJ.aload_n dL_law_344 rfl rfl ?_
  refine vJ.callV (ci := 6) (N := 8) (b := 0) (Yc := mX6_clash) (frc := 0) (loc := 0) (as := []) (st := []) dL_law_345 rfl sh_0 (Nat.le_of_ble_eq_true rfl) rfl ml_RL_32 im_yX6_clash se_yX6_clash co_X6_clash in_TableSetter pl_X6_clash (Nat.le_of_ble_eq_true rfl) (Nat.le_of_ble_eq_true rfl) (Nat.le_of_ble_eq_true rfl) ?_
  refine Ev.gi (pair_clash m hI) (fun r m1 h => ?_)
  refine vJ.aload_n dL_law_348 rfl rfl ?_
  refine vJ.callV (ci := 7) (N := 41) (b := 163) (Yc := mX7_clash) (frc := 0) (loc := 0) (as := []) (st := [.int r]) dL_law_349 rfl sh_163 (Nat.le_of_ble_eq_true rfl) rfl ml_RL_36 im_yX7_clash se_yX7_clash co_X7_clash in_TableSetterModel pl_X7_clash (Nat.le_of_ble_eq_true rfl) (Nat.le_of_ble_eq_true rfl) (Nat.le_of_ble_eq_true rfl) ?_
  refine Ev.gi h (fun r2 m2 h2 => ?_)
  obtain ⟨rfl, hI2⟩ := h2
  exact vJ.icmp_eq (tgt := 1096) dL_law_352 (by decide) (fun _ => back m2 hI2) (fun hn => absurd rfl hn)
theorem law_5 {L k : Nat} {xs : Nat → Int32} {m : vM} {P : Option Value → vSh → vM → Prop} (hL : L ≤ 3072) (hk : k + 6 ≤ L) (hI : Inv m) (back : ∀ m1, Inv m1 → JL L xs k 1096 m1 P) : JL L xs k 357 m P := by
  unfold JL
  refine vJ.aload_n dL_law_357 rfl rfl ?_
  refine rdS (j := 1) dL_law_358 dL_law_359 dL_law_360 dL_law_361 dL_law_362 rfl (by decide) hL hk ?_
  refine vJ.callV (ci := 6) (N := 8) (b := 0) (Yc := mX6_drop) (frc := 1) (loc := 21) (as := [.int (xs (k + 1))]) (st := []) dL_law_363 rfl sh_0 (Nat.le_of_ble_eq_true rfl) rfl ml_RL_37 im_yX6_drop se_yX6_drop co_X6_drop in_TableSetter pl_X6_drop (Nat.le_of_ble_eq_true rfl) (Nat.le_of_ble_eq_true rfl) (Nat.le_of_ble_eq_true rfl) ?_
  refine Ev.gi (pair_drop (xs (k + 1)) m hI) (fun r m1 h => ?_)
  refine vJ.aload_n dL_law_366 rfl rfl ?_
  refine rdS (j := 1) dL_law_367 dL_law_368 dL_law_369 dL_law_370 dL_law_371 rfl (by decide) hL hk ?_
  refine vJ.callV (ci := 7) (N := 41) (b := 163) (Yc := mX7_drop) (frc := 2) (loc := 43) (as := [.int (xs (k + 1))]) (st := [.int r]) dL_law_372 rfl sh_163 (Nat.le_of_ble_eq_true rfl) rfl ml_RL_41 im_yX7_drop se_yX7_drop co_X7_drop in_TableSetterModel pl_X7_drop (Nat.le_of_ble_eq_true rfl) (Nat.le_of_ble_eq_true rfl) (Nat.le_of_ble_eq_true rfl) ?_
  refine Ev.gi h (fun r2 m2 h2 => ?_)
  obtain ⟨rfl, hI2⟩ := h2
  exact vJ.icmp_eq (tgt := 1096) dL_law_375 (by decide) (fun _ => back m2 hI2) (fun hn => absurd rfl hn)
theorem law_6 {L k : Nat} {xs : Nat → Int32} {m : vM} {P : Option Value → vSh → vM → Prop} (hL : L ≤ 3072) (hk : k + 6 ≤ L) (hI : Inv m) (back : ∀ m1, Inv m1 → JL L xs k 1096 m1 P) : JL L xs k 380 m P := by
  unfold JL
  refine vJ.aload_n dL_law_380 rfl rfl ?_
  refine rdS (j := 1) dL_law_381 dL_law_382 dL_law_383 dL_law_384 dL_law_385 rfl (by decide) hL hk ?_
  refine rdS (j := 2) dL_law_386 dL_law_387 dL_law_388 dL_law_389 dL_law_390 rfl (by decide) hL hk ?_
  refine vJ.callV (ci := 6) (N := 8) (b := 0) (Yc := mX6_told) (frc := 1) (loc := 22) (as := [.int (xs (k + 1)), .int (xs (k + 2))]) (st := []) dL_law_391 rfl sh_0 (Nat.le_of_ble_eq_true rfl) rfl ml_RL_42 im_yX6_told se_yX6_told co_X6_told in_TableSetter pl_X6_told (Nat.le_of_ble_eq_true rfl) (Nat.le_of_ble_eq_true rfl) (Nat.le_of_ble_eq_true rfl) ?_
  refine Ev.gi (pair_told (xs (k + 1)) (xs (k + 2)) m hI) (fun r m1 h => ?_)
  refine vJ.aload_n dL_law_394 rfl rfl ?_
  refine rdS (j := 1) dL_law_395 dL_law_396 dL_law_397 dL_law_398 dL_law_399 rfl (by decide) hL hk ?_
  refine rdS (j := 2) dL_law_400 dL_law_401 dL_law_402 dL_law_403 dL_law_404 rfl (by decide) hL hk ?_
  refine vJ.callV (ci := 7) (N := 41) (b := 163) (Yc := mX7_told) (frc := 3) (loc := 65) (as := [.int (xs (k + 1)), .int (xs (k + 2))]) (st := [.int r]) dL_law_405 rfl sh_163 (Nat.le_of_ble_eq_true rfl) rfl ml_RL_45 im_yX7_told se_yX7_told co_X7_told in_TableSetterModel pl_X7_told (Nat.le_of_ble_eq_true rfl) (Nat.le_of_ble_eq_true rfl) (Nat.le_of_ble_eq_true rfl) ?_
  refine Ev.gi h (fun r2 m2 h2 => ?_)
  obtain ⟨rfl, hI2⟩ := h2
  exact vJ.icmp_eq (tgt := 1096) dL_law_408 (by decide) (fun _ => back m2 hI2) (fun hn => absurd rfl hn)
theorem law_7 {L k : Nat} {xs : Nat → Int32} {m : vM} {P : Option Value → vSh → vM → Prop} (hL : L ≤ 3072) (hk : k + 6 ≤ L) (hI : Inv m) (back : ∀ m1, Inv m1 → JL L xs k 1096 m1 P) : JL L xs k 413 m P := by
  unfold JL
  refine vJ.aload_n dL_law_413 rfl rfl ?_
  refine rdS (j := 1) dL_law_414 dL_law_415 dL_law_416 dL_law_417 dL_law_418 rfl (by decide) hL hk ?_
  refine rdS (j := 2) dL_law_419 dL_law_420 dL_law_421 dL_law_422 dL_law_423 rfl (by decide) hL hk ?_
  refine vJ.callV (ci := 6) (N := 8) (b := 0) (Yc := mX6_is) (frc := 1) (loc := 22) (as := [.int (xs (k + 1)), .int (xs (k + 2))]) (st := []) dL_law_424 rfl sh_0 (Nat.le_of_ble_eq_true rfl) rfl ml_RL_46 im_yX6_is se_yX6_is co_X6_is in_TableSetter pl_X6_is (Nat.le_of_ble_eq_true rfl) (Nat.le_of_ble_eq_true rfl) (Nat.le_of_ble_eq_true rfl) ?_
  refine Ev.gi (pair_is (xs (k + 1)) (xs (k + 2)) m hI) (fun r m1 h => ?_)
  refine vJ.aload_n dL_law_427 rfl rfl ?_
  refine rdS (j := 1) dL_law_428 dL_law_429 dL_law_430 dL_law_431 dL_law_432 rfl (by decide) hL hk ?_
  refine rdS (j := 2) dL_law_433 dL_law_434 dL_law_435 dL_law_436 dL_law_437 rfl (by decide) hL hk ?_
  refine vJ.callV (ci := 7) (N := 41) (b := 163) (Yc := mX7_is) (frc := 3) (loc := 65) (as := [.int (xs (k + 1)), .int (xs (k + 2))]) (st := [.int r]) dL_law_438 rfl sh_163 (Nat.le_of_ble_eq_true rfl) rfl ml_RL_49 im_yX7_is se_yX7_is co_X7_is in_TableSetterModel pl_X7_is (Nat.le_of_ble_eq_true rfl) (Nat.le_of_ble_eq_true rfl) (Nat.le_of_ble_eq_true rfl) ?_
  refine Ev.gi h (fun r2 m2 h2 => ?_)
  obtain ⟨rfl, hI2⟩ := h2
  exact vJ.icmp_eq (tgt := 1096) dL_law_441 (by decide) (fun _ => back m2 hI2) (fun hn => absurd rfl hn)
theorem law_8 {L k : Nat} {xs : Nat → Int32} {m : vM} {P : Option Value → vSh → vM → Prop} (hL : L ≤ 3072) (hk : k + 6 ≤ L) (hI : Inv m) (back : ∀ m1, Inv m1 → JL L xs k 1096 m1 P) : JL L xs k 446 m P := by
  unfold JL
  refine vJ.aload_n dL_law_446 rfl rfl ?_
  refine rdS (j := 1) dL_law_447 dL_law_448 dL_law_449 dL_law_450 dL_law_451 rfl (by decide) hL hk ?_
  refine rdS (j := 2) dL_law_452 dL_law_453 dL_law_454 dL_law_455 dL_law_456 rfl (by decide) hL hk ?_
  refine vJ.callV (ci := 6) (N := 8) (b := 0) (Yc := mX6_on) (frc := 3) (loc := 69) (as := [.int (xs (k + 1)), .int (xs (k + 2))]) (st := []) dL_law_457 rfl sh_0 (Nat.le_of_ble_eq_true rfl) rfl ml_RL_50 im_yX6_on se_yX6_on co_X6_on in_TableSetter pl_X6_on (Nat.le_of_ble_eq_true rfl) (Nat.le_of_ble_eq_true rfl) (Nat.le_of_ble_eq_true rfl) ?_
  refine Ev.gi (pair_on (xs (k + 1)) (xs (k + 2)) m hI) (fun r m1 h => ?_)
  refine vJ.aload_n dL_law_460 rfl rfl ?_
  refine rdS (j := 1) dL_law_461 dL_law_462 dL_law_463 dL_law_464 dL_law_465 rfl (by decide) hL hk ?_
  refine rdS (j := 2) dL_law_466 dL_law_467 dL_law_468 dL_law_469 dL_law_470 rfl (by decide) hL hk ?_
  refine vJ.callV (ci := 7) (N := 41) (b := 163) (Yc := mX7_on) (frc := 2) (loc := 46) (as := [.int (xs (k + 1)), .int (xs (k + 2))]) (st := [.int r]) dL_law_471 rfl sh_163 (Nat.le_of_ble_eq_true rfl) rfl ml_RL_53 im_yX7_on se_yX7_on co_X7_on in_TableSetterModel pl_X7_on (Nat.le_of_ble_eq_true rfl) (Nat.le_of_ble_eq_true rfl) (Nat.le_of_ble_eq_true rfl) ?_
  refine Ev.gi h (fun r2 m2 h2 => ?_)
  obtain ⟨rfl, hI2⟩ := h2
  exact vJ.icmp_eq (tgt := 1096) dL_law_474 (by decide) (fun _ => back m2 hI2) (fun hn => absurd rfl hn)
theorem law_9 {L k : Nat} {xs : Nat → Int32} {m : vM} {P : Option Value → vSh → vM → Prop} (hL : L ≤ 3072) (hk : k + 6 ≤ L) (hI : Inv m) (back : ∀ m1, Inv m1 → JL L xs k 1096 m1 P) : JL L xs k 479 m P := by
  unfold JL
  refine vJ.aload_n dL_law_479 rfl rfl ?_
  refine rdS (j := 1) dL_law_480 dL_law_481 dL_law_482 dL_law_483 dL_law_484 rfl (by decide) hL hk ?_
  refine rdS (j := 2) dL_law_485 dL_law_486 dL_law_487 dL_law_488 dL_law_489 rfl (by decide) hL hk ?_
  refine vJ.callV (ci := 6) (N := 8) (b := 0) (Yc := mX6_words) (frc := 3) (loc := 64) (as := [.int (xs (k + 1)), .int (xs (k + 2))]) (st := []) dL_law_490 rfl sh_0 (Nat.le_of_ble_eq_true rfl) rfl ml_RL_54 im_yX6_words se_yX6_words co_X6_words in_TableSetter pl_X6_words (Nat.le_of_ble_eq_true rfl) (Nat.le_of_ble_eq_true rfl) (Nat.le_of_ble_eq_true rfl) ?_
  refine Ev.gi (pair_words (xs (k + 1)) (xs (k + 2)) m hI) (fun r m1 h => ?_)
  refine vJ.aload_n dL_law_493 rfl rfl ?_
  refine rdS (j := 1) dL_law_494 dL_law_495 dL_law_496 dL_law_497 dL_law_498 rfl (by decide) hL hk ?_
  refine rdS (j := 2) dL_law_499 dL_law_500 dL_law_501 dL_law_502 dL_law_503 rfl (by decide) hL hk ?_
  refine vJ.callV (ci := 7) (N := 41) (b := 163) (Yc := mX7_words) (frc := 3) (loc := 65) (as := [.int (xs (k + 1)), .int (xs (k + 2))]) (st := [.int r]) dL_law_504 rfl sh_163 (Nat.le_of_ble_eq_true rfl) rfl ml_RL_57 im_yX7_words se_yX7_words co_X7_words in_TableSetterModel pl_X7_words (Nat.le_of_ble_eq_true rfl) (Nat.le_of_ble_eq_true rfl) (Nat.le_of_ble_eq_true rfl) ?_
  refine Ev.gi h (fun r2 m2 h2 => ?_)
  obtain ⟨rfl, hI2⟩ := h2
  exact vJ.icmp_eq (tgt := 1096) dL_law_507 (by decide) (fun _ => back m2 hI2) (fun hn => absurd rfl hn)
theorem law_10 {L k : Nat} {xs : Nat → Int32} {m : vM} {P : Option Value → vSh → vM → Prop} (hL : L ≤ 3072) (hk : k + 6 ≤ L) (hI : Inv m) (back : ∀ m1, Inv m1 → JL L xs k 1096 m1 P) : JL L xs k 512 m P := by
  unfold JL
  refine vJ.aload_n dL_law_512 rfl rfl ?_
  refine rdS (j := 1) dL_law_513 dL_law_514 dL_law_515 dL_law_516 dL_law_517 rfl (by decide) hL hk ?_
  refine rdS (j := 2) dL_law_518 dL_law_519 dL_law_520 dL_law_521 dL_law_522 rfl (by decide) hL hk ?_
  refine rdS (j := 3) dL_law_523 dL_law_524 dL_law_525 dL_law_526 dL_law_527 rfl (by decide) hL hk ?_
  refine vJ.callV (ci := 6) (N := 8) (b := 0) (Yc := mX6_word) (frc := 3) (loc := 66) (as := [.int (xs (k + 1)), .int (xs (k + 2)), .int (xs (k + 3))]) (st := []) dL_law_528 rfl sh_0 (Nat.le_of_ble_eq_true rfl) rfl ml_RL_58 im_yX6_word se_yX6_word co_X6_word in_TableSetter pl_X6_word (Nat.le_of_ble_eq_true rfl) (Nat.le_of_ble_eq_true rfl) (Nat.le_of_ble_eq_true rfl) ?_
  refine Ev.gi (pair_word (xs (k + 1)) (xs (k + 2)) (xs (k + 3)) m hI) (fun r m1 h => ?_)
  refine vJ.aload_n dL_law_531 rfl rfl ?_
  refine rdS (j := 1) dL_law_532 dL_law_533 dL_law_534 dL_law_535 dL_law_536 rfl (by decide) hL hk ?_
  refine rdS (j := 2) dL_law_537 dL_law_538 dL_law_539 dL_law_540 dL_law_541 rfl (by decide) hL hk ?_
  refine rdS (j := 3) dL_law_542 dL_law_543 dL_law_544 dL_law_545 dL_law_546 rfl (by decide) hL hk ?_
  refine vJ.callV (ci := 7) (N := 41) (b := 163) (Yc := mX7_word) (frc := 3) (loc := 65) (as := [.int (xs (k + 1)), .int (xs (k + 2)), .int (xs (k + 3))]) (st := [.int r]) dL_law_547 rfl sh_163 (Nat.le_of_ble_eq_true rfl) rfl ml_RL_61 im_yX7_word se_yX7_word co_X7_word in_TableSetterModel pl_X7_word (Nat.le_of_ble_eq_true rfl) (Nat.le_of_ble_eq_true rfl) (Nat.le_of_ble_eq_true rfl) ?_
  refine Ev.gi h (fun r2 m2 h2 => ?_)
  obtain ⟨rfl, hI2⟩ := h2
  exact vJ.icmp_eq (tgt := 1096) dL_law_550 (by decide) (fun _ => back m2 hI2) (fun hn => absurd rfl hn)
theorem law_11 {L k : Nat} {xs : Nat → Int32} {m : vM} {P : Option Value → vSh → vM → Prop} (hL : L ≤ 3072) (hk : k + 6 ≤ L) (hI : Inv m) (back : ∀ m1, Inv m1 → JL L xs k 1096 m1 P) : JL L xs k 555 m P := by
  unfold JL
  refine vJ.aload_n dL_law_555 rfl rfl ?_
  refine rdS (j := 1) dL_law_556 dL_law_557 dL_law_558 dL_law_559 dL_law_560 rfl (by decide) hL hk ?_
  refine rdS (j := 2) dL_law_561 dL_law_562 dL_law_563 dL_law_564 dL_law_565 rfl (by decide) hL hk ?_
  refine rdS (j := 3) dL_law_566 dL_law_567 dL_law_568 dL_law_569 dL_law_570 rfl (by decide) hL hk ?_
  refine rdS (j := 4) dL_law_571 dL_law_572 dL_law_573 dL_law_574 dL_law_575 rfl (by decide) hL hk ?_
  refine rdS (j := 5) dL_law_576 dL_law_577 dL_law_578 dL_law_579 dL_law_580 rfl (by decide) hL hk ?_
  refine vJ.callV (ci := 6) (N := 8) (b := 0) (Yc := mX6_copy) (frc := 3) (loc := 67) (as := [.int (xs (k + 1)), .int (xs (k + 2)), .int (xs (k + 3)), .int (xs (k + 4)), .int (xs (k + 5))]) (st := []) dL_law_581 rfl sh_0 (Nat.le_of_ble_eq_true rfl) rfl ml_RL_62 im_yX6_copy se_yX6_copy co_X6_copy in_TableSetter pl_X6_copy (Nat.le_of_ble_eq_true rfl) (Nat.le_of_ble_eq_true rfl) (Nat.le_of_ble_eq_true rfl) ?_
  refine Ev.gi (pair_copy (xs (k + 1)) (xs (k + 2)) (xs (k + 3)) (xs (k + 4)) (xs (k + 5)) m hI) (fun r m1 h => ?_)
  refine vJ.aload_n dL_law_584 rfl rfl ?_
  refine rdS (j := 1) dL_law_585 dL_law_586 dL_law_587 dL_law_588 dL_law_589 rfl (by decide) hL hk ?_
  refine rdS (j := 2) dL_law_590 dL_law_591 dL_law_592 dL_law_593 dL_law_594 rfl (by decide) hL hk ?_
  refine rdS (j := 3) dL_law_595 dL_law_596 dL_law_597 dL_law_598 dL_law_599 rfl (by decide) hL hk ?_
  refine rdS (j := 4) dL_law_600 dL_law_601 dL_law_602 dL_law_603 dL_law_604 rfl (by decide) hL hk ?_
  refine rdS (j := 5) dL_law_605 dL_law_606 dL_law_607 dL_law_608 dL_law_609 rfl (by decide) hL hk ?_
  refine vJ.callV (ci := 7) (N := 41) (b := 163) (Yc := mX7_copy) (frc := 2) (loc := 43) (as := [.int (xs (k + 1)), .int (xs (k + 2)), .int (xs (k + 3)), .int (xs (k + 4)), .int (xs (k + 5))]) (st := [.int r]) dL_law_610 rfl sh_163 (Nat.le_of_ble_eq_true rfl) rfl ml_RL_65 im_yX7_copy se_yX7_copy co_X7_copy in_TableSetterModel pl_X7_copy (Nat.le_of_ble_eq_true rfl) (Nat.le_of_ble_eq_true rfl) (Nat.le_of_ble_eq_true rfl) ?_
  refine Ev.gi h (fun r2 m2 h2 => ?_)
  obtain ⟨rfl, hI2⟩ := h2
  exact vJ.icmp_eq (tgt := 1096) dL_law_613 (by decide) (fun _ => back m2 hI2) (fun hn => absurd rfl hn)
theorem law_12 {L k : Nat} {xs : Nat → Int32} {m : vM} {P : Option Value → vSh → vM → Prop} (hL : L ≤ 3072) (hk : k + 6 ≤ L) (hI : Inv m) (back : ∀ m1, Inv m1 → JL L xs k 1096 m1 P) : JL L xs k 618 m P := by
  unfold JL
  refine vJ.aload_n dL_law_618 rfl rfl ?_
  refine rdS (j := 1) dL_law_619 dL_law_620 dL_law_621 dL_law_622 dL_law_623 rfl (by decide) hL hk ?_
  refine vJ.callV (ci := 6) (N := 8) (b := 0) (Yc := mX6_mean) (frc := 1) (loc := 22) (as := [.int (xs (k + 1))]) (st := []) dL_law_624 rfl sh_0 (Nat.le_of_ble_eq_true rfl) rfl ml_RL_66 im_yX6_mean se_yX6_mean co_X6_mean in_TableSetter pl_X6_mean (Nat.le_of_ble_eq_true rfl) (Nat.le_of_ble_eq_true rfl) (Nat.le_of_ble_eq_true rfl) ?_
  refine Ev.gi (pair_mean (xs (k + 1)) m hI) (fun r m1 h => ?_)
  refine vJ.aload_n dL_law_627 rfl rfl ?_
  refine rdS (j := 1) dL_law_628 dL_law_629 dL_law_630 dL_law_631 dL_law_632 rfl (by decide) hL hk ?_
  refine vJ.callV (ci := 7) (N := 41) (b := 163) (Yc := mX7_mean) (frc := 3) (loc := 65) (as := [.int (xs (k + 1))]) (st := [.int r]) dL_law_633 rfl sh_163 (Nat.le_of_ble_eq_true rfl) rfl ml_RL_69 im_yX7_mean se_yX7_mean co_X7_mean in_TableSetterModel pl_X7_mean (Nat.le_of_ble_eq_true rfl) (Nat.le_of_ble_eq_true rfl) (Nat.le_of_ble_eq_true rfl) ?_
  refine Ev.gi h (fun r2 m2 h2 => ?_)
  obtain ⟨rfl, hI2⟩ := h2
  exact vJ.icmp_eq (tgt := 1096) dL_law_636 (by decide) (fun _ => back m2 hI2) (fun hn => absurd rfl hn)
theorem law_13 {L k : Nat} {xs : Nat → Int32} {m : vM} {P : Option Value → vSh → vM → Prop} (hL : L ≤ 3072) (hk : k + 6 ≤ L) (hI : Inv m) (back : ∀ m1, Inv m1 → JL L xs k 1096 m1 P) : JL L xs k 641 m P := by
  unfold JL
  refine vJ.aload_n dL_law_641 rfl rfl ?_
  refine rdS (j := 1) dL_law_642 dL_law_643 dL_law_644 dL_law_645 dL_law_646 rfl (by decide) hL hk ?_
  refine rdS (j := 2) dL_law_647 dL_law_648 dL_law_649 dL_law_650 dL_law_651 rfl (by decide) hL hk ?_
  refine vJ.callV (ci := 6) (N := 8) (b := 0) (Yc := mX6_calls) (frc := 1) (loc := 22) (as := [.int (xs (k + 1)), .int (xs (k + 2))]) (st := []) dL_law_652 rfl sh_0 (Nat.le_of_ble_eq_true rfl) rfl ml_RL_70 im_yX6_calls se_yX6_calls co_X6_calls in_TableSetter pl_X6_calls (Nat.le_of_ble_eq_true rfl) (Nat.le_of_ble_eq_true rfl) (Nat.le_of_ble_eq_true rfl) ?_
  refine Ev.gi (pair_calls (xs (k + 1)) (xs (k + 2)) m hI) (fun r m1 h => ?_)
  refine vJ.aload_n dL_law_655 rfl rfl ?_
  refine rdS (j := 1) dL_law_656 dL_law_657 dL_law_658 dL_law_659 dL_law_660 rfl (by decide) hL hk ?_
  refine rdS (j := 2) dL_law_661 dL_law_662 dL_law_663 dL_law_664 dL_law_665 rfl (by decide) hL hk ?_
  refine vJ.callV (ci := 7) (N := 41) (b := 163) (Yc := mX7_calls) (frc := 3) (loc := 65) (as := [.int (xs (k + 1)), .int (xs (k + 2))]) (st := [.int r]) dL_law_666 rfl sh_163 (Nat.le_of_ble_eq_true rfl) rfl ml_RL_73 im_yX7_calls se_yX7_calls co_X7_calls in_TableSetterModel pl_X7_calls (Nat.le_of_ble_eq_true rfl) (Nat.le_of_ble_eq_true rfl) (Nat.le_of_ble_eq_true rfl) ?_
  refine Ev.gi h (fun r2 m2 h2 => ?_)
  obtain ⟨rfl, hI2⟩ := h2
  exact vJ.icmp_eq (tgt := 1096) dL_law_669 (by decide) (fun _ => back m2 hI2) (fun hn => absurd rfl hn)
theorem law_14 {L k : Nat} {xs : Nat → Int32} {m : vM} {P : Option Value → vSh → vM → Prop} (hL : L ≤ 3072) (hk : k + 6 ≤ L) (hI : Inv m) (back : ∀ m1, Inv m1 → JL L xs k 1096 m1 P) : JL L xs k 674 m P := by
  unfold JL
  refine vJ.aload_n dL_law_674 rfl rfl ?_
  refine rdS (j := 1) dL_law_675 dL_law_676 dL_law_677 dL_law_678 dL_law_679 rfl (by decide) hL hk ?_
  refine rdS (j := 2) dL_law_680 dL_law_681 dL_law_682 dL_law_683 dL_law_684 rfl (by decide) hL hk ?_
  refine vJ.callV (ci := 6) (N := 8) (b := 0) (Yc := mX6_fix) (frc := 1) (loc := 22) (as := [.int (xs (k + 1)), .int (xs (k + 2))]) (st := []) dL_law_685 rfl sh_0 (Nat.le_of_ble_eq_true rfl) rfl ml_RL_74 im_yX6_fix se_yX6_fix co_X6_fix in_TableSetter pl_X6_fix (Nat.le_of_ble_eq_true rfl) (Nat.le_of_ble_eq_true rfl) (Nat.le_of_ble_eq_true rfl) ?_
  refine Ev.gi (pair_fix (xs (k + 1)) (xs (k + 2)) m hI) (fun r m1 h => ?_)
  refine vJ.aload_n dL_law_688 rfl rfl ?_
  refine rdS (j := 1) dL_law_689 dL_law_690 dL_law_691 dL_law_692 dL_law_693 rfl (by decide) hL hk ?_
  refine rdS (j := 2) dL_law_694 dL_law_695 dL_law_696 dL_law_697 dL_law_698 rfl (by decide) hL hk ?_
  refine vJ.callV (ci := 7) (N := 41) (b := 163) (Yc := mX7_fix) (frc := 3) (loc := 65) (as := [.int (xs (k + 1)), .int (xs (k + 2))]) (st := [.int r]) dL_law_699 rfl sh_163 (Nat.le_of_ble_eq_true rfl) rfl ml_RL_77 im_yX7_fix se_yX7_fix co_X7_fix in_TableSetterModel pl_X7_fix (Nat.le_of_ble_eq_true rfl) (Nat.le_of_ble_eq_true rfl) (Nat.le_of_ble_eq_true rfl) ?_
  refine Ev.gi h (fun r2 m2 h2 => ?_)
  obtain ⟨rfl, hI2⟩ := h2
  exact vJ.icmp_eq (tgt := 1096) dL_law_702 (by decide) (fun _ => back m2 hI2) (fun hn => absurd rfl hn)
theorem law_15 {L k : Nat} {xs : Nat → Int32} {m : vM} {P : Option Value → vSh → vM → Prop} (hL : L ≤ 3072) (hk : k + 6 ≤ L) (hI : Inv m) (back : ∀ m1, Inv m1 → JL L xs k 1096 m1 P) : JL L xs k 707 m P := by
  unfold JL
  refine vJ.aload_n dL_law_707 rfl rfl ?_
  refine rdS (j := 1) dL_law_708 dL_law_709 dL_law_710 dL_law_711 dL_law_712 rfl (by decide) hL hk ?_
  refine rdS (j := 2) dL_law_713 dL_law_714 dL_law_715 dL_law_716 dL_law_717 rfl (by decide) hL hk ?_
  refine vJ.callV (ci := 6) (N := 8) (b := 0) (Yc := mX6_lines) (frc := 2) (loc := 48) (as := [.int (xs (k + 1)), .int (xs (k + 2))]) (st := []) dL_law_718 rfl sh_0 (Nat.le_of_ble_eq_true rfl) rfl ml_RL_78 im_yX6_lines se_yX6_lines co_X6_lines in_TableSetter pl_X6_lines (Nat.le_of_ble_eq_true rfl) (Nat.le_of_ble_eq_true rfl) (Nat.le_of_ble_eq_true rfl) ?_
  refine Ev.gi (pair_lines (xs (k + 1)) (xs (k + 2)) m hI) (fun r m1 h => ?_)
  refine vJ.aload_n dL_law_721 rfl rfl ?_
  refine rdS (j := 1) dL_law_722 dL_law_723 dL_law_724 dL_law_725 dL_law_726 rfl (by decide) hL hk ?_
  refine rdS (j := 2) dL_law_727 dL_law_728 dL_law_729 dL_law_730 dL_law_731 rfl (by decide) hL hk ?_
  refine vJ.callV (ci := 7) (N := 41) (b := 163) (Yc := mX7_lines) (frc := 3) (loc := 65) (as := [.int (xs (k + 1)), .int (xs (k + 2))]) (st := [.int r]) dL_law_732 rfl sh_163 (Nat.le_of_ble_eq_true rfl) rfl ml_RL_81 im_yX7_lines se_yX7_lines co_X7_lines in_TableSetterModel pl_X7_lines (Nat.le_of_ble_eq_true rfl) (Nat.le_of_ble_eq_true rfl) (Nat.le_of_ble_eq_true rfl) ?_
  refine Ev.gi h (fun r2 m2 h2 => ?_)
  obtain ⟨rfl, hI2⟩ := h2
  exact vJ.icmp_eq (tgt := 1096) dL_law_735 (by decide) (fun _ => back m2 hI2) (fun hn => absurd rfl hn)
theorem law_16 {L k : Nat} {xs : Nat → Int32} {m : vM} {P : Option Value → vSh → vM → Prop} (hL : L ≤ 3072) (hk : k + 6 ≤ L) (hI : Inv m) (back : ∀ m1, Inv m1 → JL L xs k 1096 m1 P) : JL L xs k 740 m P := by
  unfold JL
  refine vJ.aload_n dL_law_740 rfl rfl ?_
  refine rdS (j := 1) dL_law_741 dL_law_742 dL_law_743 dL_law_744 dL_law_745 rfl (by decide) hL hk ?_
  refine rdS (j := 2) dL_law_746 dL_law_747 dL_law_748 dL_law_749 dL_law_750 rfl (by decide) hL hk ?_
  refine vJ.callV (ci := 6) (N := 8) (b := 0) (Yc := mX6_want) (frc := 3) (loc := 64) (as := [.int (xs (k + 1)), .int (xs (k + 2))]) (st := []) dL_law_751 rfl sh_0 (Nat.le_of_ble_eq_true rfl) rfl ml_RL_82 im_yX6_want se_yX6_want co_X6_want in_TableSetter pl_X6_want (Nat.le_of_ble_eq_true rfl) (Nat.le_of_ble_eq_true rfl) (Nat.le_of_ble_eq_true rfl) ?_
  refine Ev.gi (pair_want (xs (k + 1)) (xs (k + 2)) m hI) (fun r m1 h => ?_)
  refine vJ.aload_n dL_law_754 rfl rfl ?_
  refine rdS (j := 1) dL_law_755 dL_law_756 dL_law_757 dL_law_758 dL_law_759 rfl (by decide) hL hk ?_
  refine rdS (j := 2) dL_law_760 dL_law_761 dL_law_762 dL_law_763 dL_law_764 rfl (by decide) hL hk ?_
  refine vJ.callV (ci := 7) (N := 41) (b := 163) (Yc := mX7_want) (frc := 3) (loc := 65) (as := [.int (xs (k + 1)), .int (xs (k + 2))]) (st := [.int r]) dL_law_765 rfl sh_163 (Nat.le_of_ble_eq_true rfl) rfl ml_RL_85 im_yX7_want se_yX7_want co_X7_want in_TableSetterModel pl_X7_want (Nat.le_of_ble_eq_true rfl) (Nat.le_of_ble_eq_true rfl) (Nat.le_of_ble_eq_true rfl) ?_
  refine Ev.gi h (fun r2 m2 h2 => ?_)
  obtain ⟨rfl, hI2⟩ := h2
  exact vJ.icmp_eq (tgt := 1096) dL_law_768 (by decide) (fun _ => back m2 hI2) (fun hn => absurd rfl hn)
theorem law_17 {L k : Nat} {xs : Nat → Int32} {m : vM} {P : Option Value → vSh → vM → Prop} (hL : L ≤ 3072) (hk : k + 6 ≤ L) (hI : Inv m) (back : ∀ m1, Inv m1 → JL L xs k 1096 m1 P) : JL L xs k 773 m P := by
  unfold JL
  refine vJ.aload_n dL_law_773 rfl rfl ?_
  refine rdS (j := 1) dL_law_774 dL_law_775 dL_law_776 dL_law_777 dL_law_778 rfl (by decide) hL hk ?_
  refine rdS (j := 2) dL_law_779 dL_law_780 dL_law_781 dL_law_782 dL_law_783 rfl (by decide) hL hk ?_
  refine vJ.callV (ci := 6) (N := 8) (b := 0) (Yc := mX6_natural) (frc := 5) (loc := 121) (as := [.int (xs (k + 1)), .int (xs (k + 2))]) (st := []) dL_law_784 rfl sh_0 (Nat.le_of_ble_eq_true rfl) rfl ml_RL_86 im_yX6_natural se_yX6_natural co_X6_natural in_TableSetter pl_X6_natural (Nat.le_of_ble_eq_true rfl) (Nat.le_of_ble_eq_true rfl) (Nat.le_of_ble_eq_true rfl) ?_
  refine Ev.gi (pair_natural (xs (k + 1)) (xs (k + 2)) m hI) (fun r m1 h => ?_)
  refine vJ.aload_n dL_law_787 rfl rfl ?_
  refine rdS (j := 1) dL_law_788 dL_law_789 dL_law_790 dL_law_791 dL_law_792 rfl (by decide) hL hk ?_
  refine rdS (j := 2) dL_law_793 dL_law_794 dL_law_795 dL_law_796 dL_law_797 rfl (by decide) hL hk ?_
  refine vJ.callV (ci := 7) (N := 41) (b := 163) (Yc := mX7_natural) (frc := 4) (loc := 96) (as := [.int (xs (k + 1)), .int (xs (k + 2))]) (st := [.int r]) dL_law_798 rfl sh_163 (Nat.le_of_ble_eq_true rfl) rfl ml_RL_89 im_yX7_natural se_yX7_natural co_X7_natural in_TableSetterModel pl_X7_natural (Nat.le_of_ble_eq_true rfl) (Nat.le_of_ble_eq_true rfl) (Nat.le_of_ble_eq_true rfl) ?_
  refine Ev.gi h (fun r2 m2 h2 => ?_)
  obtain ⟨rfl, hI2⟩ := h2
  exact vJ.icmp_eq (tgt := 1096) dL_law_801 (by decide) (fun _ => back m2 hI2) (fun hn => absurd rfl hn)
theorem law_18 {L k : Nat} {xs : Nat → Int32} {m : vM} {P : Option Value → vSh → vM → Prop} (hL : L ≤ 3072) (hk : k + 6 ≤ L) (hI : Inv m) (back : ∀ m1, Inv m1 → JL L xs k 1096 m1 P) : JL L xs k 806 m P := by
  unfold JL
  refine vJ.aload_n dL_law_806 rfl rfl ?_
  refine rdS (j := 1) dL_law_807 dL_law_808 dL_law_809 dL_law_810 dL_law_811 rfl (by decide) hL hk ?_
  refine vJ.callV (ci := 6) (N := 8) (b := 0) (Yc := mX6_set) (frc := 5) (loc := 121) (as := [.int (xs (k + 1))]) (st := []) dL_law_812 rfl sh_0 (Nat.le_of_ble_eq_true rfl) rfl ml_RL_90 im_yX6_set se_yX6_set co_X6_set in_TableSetter pl_X6_set (Nat.le_of_ble_eq_true rfl) (Nat.le_of_ble_eq_true rfl) (Nat.le_of_ble_eq_true rfl) ?_
  refine Ev.gi (pair_set (xs (k + 1)) m hI) (fun r m1 h => ?_)
  refine vJ.aload_n dL_law_815 rfl rfl ?_
  refine rdS (j := 1) dL_law_816 dL_law_817 dL_law_818 dL_law_819 dL_law_820 rfl (by decide) hL hk ?_
  refine vJ.callV (ci := 7) (N := 41) (b := 163) (Yc := mX7_set) (frc := 4) (loc := 96) (as := [.int (xs (k + 1))]) (st := [.int r]) dL_law_821 rfl sh_163 (Nat.le_of_ble_eq_true rfl) rfl ml_RL_93 im_yX7_set se_yX7_set co_X7_set in_TableSetterModel pl_X7_set (Nat.le_of_ble_eq_true rfl) (Nat.le_of_ble_eq_true rfl) (Nat.le_of_ble_eq_true rfl) ?_
  refine Ev.gi h (fun r2 m2 h2 => ?_)
  obtain ⟨rfl, hI2⟩ := h2
  exact vJ.icmp_eq (tgt := 1096) dL_law_824 (by decide) (fun _ => back m2 hI2) (fun hn => absurd rfl hn)
theorem law_19 {L k : Nat} {xs : Nat → Int32} {m : vM} {P : Option Value → vSh → vM → Prop} (hL : L ≤ 3072) (hk : k + 6 ≤ L) (hI : Inv m) (back : ∀ m1, Inv m1 → JL L xs k 1096 m1 P) : JL L xs k 829 m P := by
  unfold JL
  refine vJ.aload_n dL_law_829 rfl rfl ?_
  refine rdS (j := 1) dL_law_830 dL_law_831 dL_law_832 dL_law_833 dL_law_834 rfl (by decide) hL hk ?_
  refine rdS (j := 2) dL_law_835 dL_law_836 dL_law_837 dL_law_838 dL_law_839 rfl (by decide) hL hk ?_
  refine vJ.callV (ci := 6) (N := 8) (b := 0) (Yc := mX6_tight) (frc := 5) (loc := 121) (as := [.int (xs (k + 1)), .int (xs (k + 2))]) (st := []) dL_law_840 rfl sh_0 (Nat.le_of_ble_eq_true rfl) rfl ml_RL_94 im_yX6_tight se_yX6_tight co_X6_tight in_TableSetter pl_X6_tight (Nat.le_of_ble_eq_true rfl) (Nat.le_of_ble_eq_true rfl) (Nat.le_of_ble_eq_true rfl) ?_
  refine Ev.gi (pair_tight (xs (k + 1)) (xs (k + 2)) m hI) (fun r m1 h => ?_)
  refine vJ.aload_n dL_law_843 rfl rfl ?_
  refine rdS (j := 1) dL_law_844 dL_law_845 dL_law_846 dL_law_847 dL_law_848 rfl (by decide) hL hk ?_
  refine rdS (j := 2) dL_law_849 dL_law_850 dL_law_851 dL_law_852 dL_law_853 rfl (by decide) hL hk ?_
  refine vJ.callV (ci := 7) (N := 41) (b := 163) (Yc := mX7_tight) (frc := 4) (loc := 96) (as := [.int (xs (k + 1)), .int (xs (k + 2))]) (st := [.int r]) dL_law_854 rfl sh_163 (Nat.le_of_ble_eq_true rfl) rfl ml_RL_97 im_yX7_tight se_yX7_tight co_X7_tight in_TableSetterModel pl_X7_tight (Nat.le_of_ble_eq_true rfl) (Nat.le_of_ble_eq_true rfl) (Nat.le_of_ble_eq_true rfl) ?_
  refine Ev.gi h (fun r2 m2 h2 => ?_)
  obtain ⟨rfl, hI2⟩ := h2
  exact vJ.icmp_eq (tgt := 1096) dL_law_857 (by decide) (fun _ => back m2 hI2) (fun hn => absurd rfl hn)
theorem law_20 {L k : Nat} {xs : Nat → Int32} {m : vM} {P : Option Value → vSh → vM → Prop} (hL : L ≤ 3072) (hk : k + 6 ≤ L) (hI : Inv m) (back : ∀ m1, Inv m1 → JL L xs k 1096 m1 P) : JL L xs k 862 m P := by
  unfold JL
  refine vJ.aload_n dL_law_862 rfl rfl ?_
  refine vJ.callV (ci := 6) (N := 8) (b := 0) (Yc := mX6_tries) (frc := 0) (loc := 0) (as := []) (st := []) dL_law_863 rfl sh_0 (Nat.le_of_ble_eq_true rfl) rfl ml_RL_98 im_yX6_tries se_yX6_tries co_X6_tries in_TableSetter pl_X6_tries (Nat.le_of_ble_eq_true rfl) (Nat.le_of_ble_eq_true rfl) (Nat.le_of_ble_eq_true rfl) ?_
  refine Ev.gi (pair_tries m hI) (fun r m1 h => ?_)
  refine vJ.aload_n dL_law_866 rfl rfl ?_
  refine vJ.callV (ci := 7) (N := 41) (b := 163) (Yc := mX7_tries) (frc := 0) (loc := 0) (as := []) (st := [.int r]) dL_law_867 rfl sh_163 (Nat.le_of_ble_eq_true rfl) rfl ml_RL_101 im_yX7_tries se_yX7_tries co_X7_tries in_TableSetterModel pl_X7_tries (Nat.le_of_ble_eq_true rfl) (Nat.le_of_ble_eq_true rfl) (Nat.le_of_ble_eq_true rfl) ?_
  refine Ev.gi h (fun r2 m2 h2 => ?_)
  obtain ⟨rfl, hI2⟩ := h2
  exact vJ.icmp_eq (tgt := 1096) dL_law_870 (by decide) (fun _ => back m2 hI2) (fun hn => absurd rfl hn)
theorem law_21 {L k : Nat} {xs : Nat → Int32} {m : vM} {P : Option Value → vSh → vM → Prop} (hL : L ≤ 3072) (hk : k + 6 ≤ L) (hI : Inv m) (back : ∀ m1, Inv m1 → JL L xs k 1096 m1 P) : JL L xs k 875 m P := by
  unfold JL
  refine vJ.aload_n dL_law_875 rfl rfl ?_
  refine rdS (j := 1) dL_law_876 dL_law_877 dL_law_878 dL_law_879 dL_law_880 rfl (by decide) hL hk ?_
  refine vJ.callV (ci := 6) (N := 8) (b := 0) (Yc := mX6_width) (frc := 1) (loc := 22) (as := [.int (xs (k + 1))]) (st := []) dL_law_881 rfl sh_0 (Nat.le_of_ble_eq_true rfl) rfl ml_RL_102 im_yX6_width se_yX6_width co_X6_width in_TableSetter pl_X6_width (Nat.le_of_ble_eq_true rfl) (Nat.le_of_ble_eq_true rfl) (Nat.le_of_ble_eq_true rfl) ?_
  refine Ev.gi (pair_width (xs (k + 1)) m hI) (fun r m1 h => ?_)
  refine vJ.aload_n dL_law_884 rfl rfl ?_
  refine rdS (j := 1) dL_law_885 dL_law_886 dL_law_887 dL_law_888 dL_law_889 rfl (by decide) hL hk ?_
  refine vJ.callV (ci := 7) (N := 41) (b := 163) (Yc := mX7_width) (frc := 2) (loc := 43) (as := [.int (xs (k + 1))]) (st := [.int r]) dL_law_890 rfl sh_163 (Nat.le_of_ble_eq_true rfl) rfl ml_RL_105 im_yX7_width se_yX7_width co_X7_width in_TableSetterModel pl_X7_width (Nat.le_of_ble_eq_true rfl) (Nat.le_of_ble_eq_true rfl) (Nat.le_of_ble_eq_true rfl) ?_
  refine Ev.gi h (fun r2 m2 h2 => ?_)
  obtain ⟨rfl, hI2⟩ := h2
  exact vJ.icmp_eq (tgt := 1096) dL_law_893 (by decide) (fun _ => back m2 hI2) (fun hn => absurd rfl hn)
theorem law_22 {L k : Nat} {xs : Nat → Int32} {m : vM} {P : Option Value → vSh → vM → Prop} (hL : L ≤ 3072) (hk : k + 6 ≤ L) (hI : Inv m) (back : ∀ m1, Inv m1 → JL L xs k 1096 m1 P) : JL L xs k 898 m P := by
  unfold JL
  refine vJ.aload_n dL_law_898 rfl rfl ?_
  refine rdS (j := 1) dL_law_899 dL_law_900 dL_law_901 dL_law_902 dL_law_903 rfl (by decide) hL hk ?_
  refine vJ.callV (ci := 6) (N := 8) (b := 0) (Yc := mX6_height) (frc := 4) (loc := 92) (as := [.int (xs (k + 1))]) (st := []) dL_law_904 rfl sh_0 (Nat.le_of_ble_eq_true rfl) rfl ml_RL_106 im_yX6_height se_yX6_height co_X6_height in_TableSetter pl_X6_height (Nat.le_of_ble_eq_true rfl) (Nat.le_of_ble_eq_true rfl) (Nat.le_of_ble_eq_true rfl) ?_
  refine Ev.gi (pair_height (xs (k + 1)) m hI) (fun r m1 h => ?_)
  refine vJ.aload_n dL_law_907 rfl rfl ?_
  refine rdS (j := 1) dL_law_908 dL_law_909 dL_law_910 dL_law_911 dL_law_912 rfl (by decide) hL hk ?_
  refine vJ.callV (ci := 7) (N := 41) (b := 163) (Yc := mX7_height) (frc := 2) (loc := 53) (as := [.int (xs (k + 1))]) (st := [.int r]) dL_law_913 rfl sh_163 (Nat.le_of_ble_eq_true rfl) rfl ml_RL_109 im_yX7_height se_yX7_height co_X7_height in_TableSetterModel pl_X7_height (Nat.le_of_ble_eq_true rfl) (Nat.le_of_ble_eq_true rfl) (Nat.le_of_ble_eq_true rfl) ?_
  refine Ev.gi h (fun r2 m2 h2 => ?_)
  obtain ⟨rfl, hI2⟩ := h2
  exact vJ.icmp_eq (tgt := 1096) dL_law_916 (by decide) (fun _ => back m2 hI2) (fun hn => absurd rfl hn)
theorem law_23 {L k : Nat} {xs : Nat → Int32} {m : vM} {P : Option Value → vSh → vM → Prop} (hL : L ≤ 3072) (hk : k + 6 ≤ L) (hI : Inv m) (back : ∀ m1, Inv m1 → JL L xs k 1096 m1 P) : JL L xs k 921 m P := by
  unfold JL
  refine vJ.aload_n dL_law_921 rfl rfl ?_
  refine rdS (j := 1) dL_law_922 dL_law_923 dL_law_924 dL_law_925 dL_law_926 rfl (by decide) hL hk ?_
  refine vJ.callV (ci := 6) (N := 8) (b := 0) (Yc := mX6_pages) (frc := 5) (loc := 112) (as := [.int (xs (k + 1))]) (st := []) dL_law_927 rfl sh_0 (Nat.le_of_ble_eq_true rfl) rfl ml_RL_110 im_yX6_pages se_yX6_pages co_X6_pages in_TableSetter pl_X6_pages (Nat.le_of_ble_eq_true rfl) (Nat.le_of_ble_eq_true rfl) (Nat.le_of_ble_eq_true rfl) ?_
  refine Ev.gi (pair_pages (xs (k + 1)) m hI) (fun r m1 h => ?_)
  refine vJ.aload_n dL_law_930 rfl rfl ?_
  refine rdS (j := 1) dL_law_931 dL_law_932 dL_law_933 dL_law_934 dL_law_935 rfl (by decide) hL hk ?_
  refine vJ.callV (ci := 7) (N := 41) (b := 163) (Yc := mX7_pages) (frc := 4) (loc := 95) (as := [.int (xs (k + 1))]) (st := [.int r]) dL_law_936 rfl sh_163 (Nat.le_of_ble_eq_true rfl) rfl ml_RL_113 im_yX7_pages se_yX7_pages co_X7_pages in_TableSetterModel pl_X7_pages (Nat.le_of_ble_eq_true rfl) (Nat.le_of_ble_eq_true rfl) (Nat.le_of_ble_eq_true rfl) ?_
  refine Ev.gi h (fun r2 m2 h2 => ?_)
  obtain ⟨rfl, hI2⟩ := h2
  exact vJ.icmp_eq (tgt := 1096) dL_law_939 (by decide) (fun _ => back m2 hI2) (fun hn => absurd rfl hn)
theorem law_24 {L k : Nat} {xs : Nat → Int32} {m : vM} {P : Option Value → vSh → vM → Prop} (hL : L ≤ 3072) (hk : k + 6 ≤ L) (hI : Inv m) (back : ∀ m1, Inv m1 → JL L xs k 1096 m1 P) : JL L xs k 944 m P := by
  unfold JL
  refine vJ.aload_n dL_law_944 rfl rfl ?_
  refine rdS (j := 1) dL_law_945 dL_law_946 dL_law_947 dL_law_948 dL_law_949 rfl (by decide) hL hk ?_
  refine rdS (j := 2) dL_law_950 dL_law_951 dL_law_952 dL_law_953 dL_law_954 rfl (by decide) hL hk ?_
  refine vJ.callV (ci := 6) (N := 8) (b := 0) (Yc := mX6_page) (frc := 1) (loc := 22) (as := [.int (xs (k + 1)), .int (xs (k + 2))]) (st := []) dL_law_955 rfl sh_0 (Nat.le_of_ble_eq_true rfl) rfl ml_RL_114 im_yX6_page se_yX6_page co_X6_page in_TableSetter pl_X6_page (Nat.le_of_ble_eq_true rfl) (Nat.le_of_ble_eq_true rfl) (Nat.le_of_ble_eq_true rfl) ?_
  refine Ev.gi (pair_page (xs (k + 1)) (xs (k + 2)) m hI) (fun r m1 h => ?_)
  refine vJ.aload_n dL_law_958 rfl rfl ?_
  refine rdS (j := 1) dL_law_959 dL_law_960 dL_law_961 dL_law_962 dL_law_963 rfl (by decide) hL hk ?_
  refine rdS (j := 2) dL_law_964 dL_law_965 dL_law_966 dL_law_967 dL_law_968 rfl (by decide) hL hk ?_
  refine vJ.callV (ci := 7) (N := 41) (b := 163) (Yc := mX7_page) (frc := 1) (loc := 22) (as := [.int (xs (k + 1)), .int (xs (k + 2))]) (st := [.int r]) dL_law_969 rfl sh_163 (Nat.le_of_ble_eq_true rfl) rfl ml_RL_117 im_yX7_page se_yX7_page co_X7_page in_TableSetterModel pl_X7_page (Nat.le_of_ble_eq_true rfl) (Nat.le_of_ble_eq_true rfl) (Nat.le_of_ble_eq_true rfl) ?_
  refine Ev.gi h (fun r2 m2 h2 => ?_)
  obtain ⟨rfl, hI2⟩ := h2
  exact vJ.icmp_eq (tgt := 1096) dL_law_972 (by decide) (fun _ => back m2 hI2) (fun hn => absurd rfl hn)
theorem law_25 {L k : Nat} {xs : Nat → Int32} {m : vM} {P : Option Value → vSh → vM → Prop} (hL : L ≤ 3072) (hk : k + 6 ≤ L) (hI : Inv m) (back : ∀ m1, Inv m1 → JL L xs k 1096 m1 P) : JL L xs k 977 m P := by
  unfold JL
  refine vJ.aload_n dL_law_977 rfl rfl ?_
  refine rdS (j := 1) dL_law_978 dL_law_979 dL_law_980 dL_law_981 dL_law_982 rfl (by decide) hL hk ?_
  refine vJ.callV (ci := 6) (N := 8) (b := 0) (Yc := mX6_pageOf) (frc := 1) (loc := 22) (as := [.int (xs (k + 1))]) (st := []) dL_law_983 rfl sh_0 (Nat.le_of_ble_eq_true rfl) rfl ml_RL_118 im_yX6_pageOf se_yX6_pageOf co_X6_pageOf in_TableSetter pl_X6_pageOf (Nat.le_of_ble_eq_true rfl) (Nat.le_of_ble_eq_true rfl) (Nat.le_of_ble_eq_true rfl) ?_
  refine Ev.gi (pair_pageOf (xs (k + 1)) m hI) (fun r m1 h => ?_)
  refine vJ.aload_n dL_law_986 rfl rfl ?_
  refine rdS (j := 1) dL_law_987 dL_law_988 dL_law_989 dL_law_990 dL_law_991 rfl (by decide) hL hk ?_
  refine vJ.callV (ci := 7) (N := 41) (b := 163) (Yc := mX7_pageOf) (frc := 2) (loc := 43) (as := [.int (xs (k + 1))]) (st := [.int r]) dL_law_992 rfl sh_163 (Nat.le_of_ble_eq_true rfl) rfl ml_RL_121 im_yX7_pageOf se_yX7_pageOf co_X7_pageOf in_TableSetterModel pl_X7_pageOf (Nat.le_of_ble_eq_true rfl) (Nat.le_of_ble_eq_true rfl) (Nat.le_of_ble_eq_true rfl) ?_
  refine Ev.gi h (fun r2 m2 h2 => ?_)
  obtain ⟨rfl, hI2⟩ := h2
  exact vJ.icmp_eq (tgt := 1096) dL_law_995 (by decide) (fun _ => back m2 hI2) (fun hn => absurd rfl hn)
theorem law_26 {L k : Nat} {xs : Nat → Int32} {m : vM} {P : Option Value → vSh → vM → Prop} (hL : L ≤ 3072) (hk : k + 6 ≤ L) (hI : Inv m) (back : ∀ m1, Inv m1 → JL L xs k 1096 m1 P) : JL L xs k 1000 m P := by
  unfold JL
  refine vJ.aload_n dL_law_1000 rfl rfl ?_
  refine rdS (j := 1) dL_law_1001 dL_law_1002 dL_law_1003 dL_law_1004 dL_law_1005 rfl (by decide) hL hk ?_
  refine vJ.callV (ci := 6) (N := 8) (b := 0) (Yc := mX6_mayBreak) (frc := 4) (loc := 87) (as := [.int (xs (k + 1))]) (st := []) dL_law_1006 rfl sh_0 (Nat.le_of_ble_eq_true rfl) rfl ml_RL_122 im_yX6_mayBreak se_yX6_mayBreak co_X6_mayBreak in_TableSetter pl_X6_mayBreak (Nat.le_of_ble_eq_true rfl) (Nat.le_of_ble_eq_true rfl) (Nat.le_of_ble_eq_true rfl) ?_
  refine Ev.gi (pair_mayBreak (xs (k + 1)) m hI) (fun r m1 h => ?_)
  refine vJ.aload_n dL_law_1009 rfl rfl ?_
  refine rdS (j := 1) dL_law_1010 dL_law_1011 dL_law_1012 dL_law_1013 dL_law_1014 rfl (by decide) hL hk ?_
  refine vJ.callV (ci := 7) (N := 41) (b := 163) (Yc := mX7_mayBreak) (frc := 4) (loc := 95) (as := [.int (xs (k + 1))]) (st := [.int r]) dL_law_1015 rfl sh_163 (Nat.le_of_ble_eq_true rfl) rfl ml_RL_125 im_yX7_mayBreak se_yX7_mayBreak co_X7_mayBreak in_TableSetterModel pl_X7_mayBreak (Nat.le_of_ble_eq_true rfl) (Nat.le_of_ble_eq_true rfl) (Nat.le_of_ble_eq_true rfl) ?_
  refine Ev.gi h (fun r2 m2 h2 => ?_)
  obtain ⟨rfl, hI2⟩ := h2
  exact vJ.icmp_eq (tgt := 1096) dL_law_1018 (by decide) (fun _ => back m2 hI2) (fun hn => absurd rfl hn)
theorem law_27 {L k : Nat} {xs : Nat → Int32} {m : vM} {P : Option Value → vSh → vM → Prop} (hL : L ≤ 3072) (hk : k + 6 ≤ L) (hI : Inv m) (back : ∀ m1, Inv m1 → JL L xs k 1096 m1 P) : JL L xs k 1023 m P := by
  unfold JL
  refine vJ.aload_n dL_law_1023 rfl rfl ?_
  refine rdS (j := 1) dL_law_1024 dL_law_1025 dL_law_1026 dL_law_1027 dL_law_1028 rfl (by decide) hL hk ?_
  refine vJ.callV (ci := 6) (N := 8) (b := 0) (Yc := mX6_count) (frc := 4) (loc := 92) (as := [.int (xs (k + 1))]) (st := []) dL_law_1029 rfl sh_0 (Nat.le_of_ble_eq_true rfl) rfl ml_RL_126 im_yX6_count se_yX6_count co_X6_count in_TableSetter pl_X6_count (Nat.le_of_ble_eq_true rfl) (Nat.le_of_ble_eq_true rfl) (Nat.le_of_ble_eq_true rfl) ?_
  refine Ev.gi (pair_count (xs (k + 1)) m hI) (fun r m1 h => ?_)
  refine vJ.aload_n dL_law_1032 rfl rfl ?_
  refine rdS (j := 1) dL_law_1033 dL_law_1034 dL_law_1035 dL_law_1036 dL_law_1037 rfl (by decide) hL hk ?_
  refine vJ.callV (ci := 7) (N := 41) (b := 163) (Yc := mX7_count) (frc := 3) (loc := 76) (as := [.int (xs (k + 1))]) (st := [.int r]) dL_law_1038 rfl sh_163 (Nat.le_of_ble_eq_true rfl) rfl ml_RL_129 im_yX7_count se_yX7_count co_X7_count in_TableSetterModel pl_X7_count (Nat.le_of_ble_eq_true rfl) (Nat.le_of_ble_eq_true rfl) (Nat.le_of_ble_eq_true rfl) ?_
  refine Ev.gi h (fun r2 m2 h2 => ?_)
  obtain ⟨rfl, hI2⟩ := h2
  exact vJ.icmp_eq (tgt := 1096) dL_law_1041 (by decide) (fun _ => back m2 hI2) (fun hn => absurd rfl hn)
theorem law_28 {L k : Nat} {xs : Nat → Int32} {m : vM} {P : Option Value → vSh → vM → Prop} (hL : L ≤ 3072) (hk : k + 6 ≤ L) (hI : Inv m) (back : ∀ m1, Inv m1 → JL L xs k 1096 m1 P) : JL L xs k 1046 m P := by
  unfold JL
  refine vJ.aload_n dL_law_1046 rfl rfl ?_
  refine vJ.callV (ci := 6) (N := 8) (b := 0) (Yc := mX6_finding) (frc := 0) (loc := 0) (as := []) (st := []) dL_law_1047 rfl sh_0 (Nat.le_of_ble_eq_true rfl) rfl ml_RL_130 im_yX6_finding se_yX6_finding co_X6_finding in_TableSetter pl_X6_finding (Nat.le_of_ble_eq_true rfl) (Nat.le_of_ble_eq_true rfl) (Nat.le_of_ble_eq_true rfl) ?_
  refine Ev.gi (pair_finding m hI) (fun r m1 h => ?_)
  refine vJ.aload_n dL_law_1050 rfl rfl ?_
  refine vJ.callV (ci := 7) (N := 41) (b := 163) (Yc := mX7_finding) (frc := 0) (loc := 0) (as := []) (st := [.int r]) dL_law_1051 rfl sh_163 (Nat.le_of_ble_eq_true rfl) rfl ml_RL_133 im_yX7_finding se_yX7_finding co_X7_finding in_TableSetterModel pl_X7_finding (Nat.le_of_ble_eq_true rfl) (Nat.le_of_ble_eq_true rfl) (Nat.le_of_ble_eq_true rfl) ?_
  refine Ev.gi h (fun r2 m2 h2 => ?_)
  obtain ⟨rfl, hI2⟩ := h2
  exact vJ.icmp_eq (tgt := 1096) dL_law_1054 (by decide) (fun _ => back m2 hI2) (fun hn => absurd rfl hn)
theorem law_29 {L k : Nat} {xs : Nat → Int32} {m : vM} {P : Option Value → vSh → vM → Prop} (hL : L ≤ 3072) (hk : k + 6 ≤ L) (hI : Inv m) (back : ∀ m1, Inv m1 → JL L xs k 1096 m1 P) : JL L xs k 1059 m P := by
  unfold JL
  refine vJ.aload_n dL_law_1059 rfl rfl ?_
  refine rdS (j := 1) dL_law_1060 dL_law_1061 dL_law_1062 dL_law_1063 dL_law_1064 rfl (by decide) hL hk ?_
  refine vJ.callV (ci := 6) (N := 8) (b := 0) (Yc := mX6_findings) (frc := 1) (loc := 22) (as := [.int (xs (k + 1))]) (st := []) dL_law_1065 rfl sh_0 (Nat.le_of_ble_eq_true rfl) rfl ml_RL_134 im_yX6_findings se_yX6_findings co_X6_findings in_TableSetter pl_X6_findings (Nat.le_of_ble_eq_true rfl) (Nat.le_of_ble_eq_true rfl) (Nat.le_of_ble_eq_true rfl) ?_
  refine Ev.gi (pair_findings (xs (k + 1)) m hI) (fun r m1 h => ?_)
  refine vJ.aload_n dL_law_1068 rfl rfl ?_
  refine rdS (j := 1) dL_law_1069 dL_law_1070 dL_law_1071 dL_law_1072 dL_law_1073 rfl (by decide) hL hk ?_
  refine vJ.callV (ci := 7) (N := 41) (b := 163) (Yc := mX7_findings) (frc := 1) (loc := 22) (as := [.int (xs (k + 1))]) (st := [.int r]) dL_law_1074 rfl sh_163 (Nat.le_of_ble_eq_true rfl) rfl ml_RL_137 im_yX7_findings se_yX7_findings co_X7_findings in_TableSetterModel pl_X7_findings (Nat.le_of_ble_eq_true rfl) (Nat.le_of_ble_eq_true rfl) (Nat.le_of_ble_eq_true rfl) ?_
  refine Ev.gi h (fun r2 m2 h2 => ?_)
  obtain ⟨rfl, hI2⟩ := h2
  exact vJ.icmp_eq (tgt := 1096) dL_law_1077 (by decide) (fun _ => back m2 hI2) (fun hn => absurd rfl hn)
theorem law_30 {L k : Nat} {xs : Nat → Int32} {m : vM} {P : Option Value → vSh → vM → Prop} (hL : L ≤ 3072) (hk : k + 6 ≤ L) (hI : Inv m) (back : ∀ m1, Inv m1 → JL L xs k 1096 m1 P) : JL L xs k 1082 m P := by
  unfold JL
  refine vJ.aload_n dL_law_1082 rfl rfl ?_
  refine vJ.callV (ci := 6) (N := 8) (b := 0) (Yc := mX6_digest) (frc := 2) (loc := 51) (as := []) (st := []) dL_law_1083 rfl sh_0 (Nat.le_of_ble_eq_true rfl) rfl ml_RL_138 im_yX6_digest se_yX6_digest co_X6_digest in_TableSetter pl_X6_digest (Nat.le_of_ble_eq_true rfl) (Nat.le_of_ble_eq_true rfl) (Nat.le_of_ble_eq_true rfl) ?_
  refine Ev.gl (pair_digest m hI) (fun r m1 h => ?_)
  refine vJ.aload_n dL_law_1086 rfl rfl ?_
  refine vJ.callV (ci := 7) (N := 41) (b := 163) (Yc := mX7_digest) (frc := 2) (loc := 48) (as := []) (st := [.long r]) dL_law_1087 rfl sh_163 (Nat.le_of_ble_eq_true rfl) rfl ml_RL_142 im_yX7_digest se_yX7_digest co_X7_digest in_TableSetterModel pl_X7_digest (Nat.le_of_ble_eq_true rfl) (Nat.le_of_ble_eq_true rfl) (Nat.le_of_ble_eq_true rfl) ?_
  refine Ev.gl h (fun r2 m2 h2 => ?_)
  obtain ⟨rfl, hI2⟩ := h2
  refine vJ.lcmp dL_law_1090 ?_
  refine vJ.if_eq (tgt := 1096) dL_law_1091 (by decide) (fun _ => back m2 hI2) (fun hn => absurd ?_ hn)
  unfold lg_cmp
  simp
