/-! ===== constructors, laid by wip/gen/ctor.py ===== -/
theorem tc_123 : Cond.initialized RX5 ∈ TB := TB_in (List.mem_of_getElem? (i := 123) (by decide +kernel)) rfl
theorem tc_129 : Cond.initialized RX7 ∈ TB := TB_in (List.mem_of_getElem? (i := 129) (by decide +kernel)) rfl
theorem tc_148 : Cond.instanceMethod objectInit ∈ TB := TB_in (List.mem_of_getElem? (i := 148) (by decide +kernel)) rfl
theorem tc_149 : Cond.code objectInit ⟨#[0xb1]⟩ 1 none ∈ TB := TB_in (List.mem_of_getElem? (i := 149) (by decide +kernel)) rfl
theorem tc_155 : Cond.methodLink RX8 3 objectInit ∈ TB := TB_in (List.mem_of_getElem? (i := 155) (by decide +kernel)) rfl
theorem tc_156 : Cond.fieldLink RX8 9 (TX8 0).1 (TX8 0).2.1 (TX8 0).2.2.1 ∈ TB := TB_in (List.mem_of_getElem? (i := 156) (by decide +kernel)) rfl
theorem tc_157 : Cond.fieldLink RX8 15 (TX8 1).1 (TX8 1).2.1 (TX8 1).2.2.1 ∈ TB := TB_in (List.mem_of_getElem? (i := 157) (by decide +kernel)) rfl
theorem tc_158 : Cond.fieldLink RX8 19 (TX8 2).1 (TX8 2).2.1 (TX8 2).2.2.1 ∈ TB := TB_in (List.mem_of_getElem? (i := 158) (by decide +kernel)) rfl
theorem tc_159 : Cond.fieldLink RX8 22 (TX8 3).1 (TX8 3).2.1 (TX8 3).2.2.1 ∈ TB := TB_in (List.mem_of_getElem? (i := 159) (by decide +kernel)) rfl
theorem tc_160 : Cond.fieldLink RX8 25 (TX8 4).1 (TX8 4).2.1 (TX8 4).2.2.1 ∈ TB := TB_in (List.mem_of_getElem? (i := 160) (by decide +kernel)) rfl
theorem tc_161 : Cond.fieldLink RX8 28 (TX8 5).1 (TX8 5).2.1 (TX8 5).2.2.1 ∈ TB := TB_in (List.mem_of_getElem? (i := 161) (by decide +kernel)) rfl
theorem tc_162 : Cond.fieldLink RX8 31 (TX8 6).1 (TX8 6).2.1 (TX8 6).2.2.1 ∈ TB := TB_in (List.mem_of_getElem? (i := 162) (by decide +kernel)) rfl
theorem tc_163 : Cond.fieldLink RX8 35 (TX8 7).1 (TX8 7).2.1 (TX8 7).2.2.1 ∈ TB := TB_in (List.mem_of_getElem? (i := 163) (by decide +kernel)) rfl
theorem tc_164 : Cond.fieldLink RX8 38 (TX8 8).1 (TX8 8).2.1 (TX8 8).2.2.1 ∈ TB := TB_in (List.mem_of_getElem? (i := 164) (by decide +kernel)) rfl
theorem tc_165 : Cond.fieldLink RX8 41 (TX8 9).1 (TX8 9).2.1 (TX8 9).2.2.1 ∈ TB := TB_in (List.mem_of_getElem? (i := 165) (by decide +kernel)) rfl
theorem tc_166 : Cond.fieldLink RX8 44 (TX8 10).1 (TX8 10).2.1 (TX8 10).2.2.1 ∈ TB := TB_in (List.mem_of_getElem? (i := 166) (by decide +kernel)) rfl
theorem tc_190 : Cond.arrayClass .byte ∈ TB := TB_in (List.mem_of_getElem? (i := 190) (by decide +kernel)) rfl
theorem tc_192 : Cond.instantiable RX5 13 ∈ TB := TB_in (List.mem_of_getElem? (i := 192) (by decide +kernel)) rfl
theorem tc_194 : Cond.instanceMethod yX5_init ∈ TB := TB_in (List.mem_of_getElem? (i := 194) (by decide +kernel)) rfl
theorem tc_195 : Cond.code yX5_init cX5_init 1 none ∈ TB := TB_in (List.mem_of_getElem? (i := 195) (by decide +kernel)) rfl
theorem tc_196 : Cond.methodLink RX5 3 objectInit ∈ TB := TB_in (List.mem_of_getElem? (i := 196) (by decide +kernel)) rfl
theorem tc_197 : Cond.fieldLink RX5 9 (TX5 0).1 (TX5 0).2.1 (TX5 0).2.2.1 ∈ TB := TB_in (List.mem_of_getElem? (i := 197) (by decide +kernel)) rfl
theorem tc_198 : Cond.fieldLink RX5 15 (TX5 1).1 (TX5 1).2.1 (TX5 1).2.2.1 ∈ TB := TB_in (List.mem_of_getElem? (i := 198) (by decide +kernel)) rfl
theorem tc_199 : Cond.fieldLink RX5 18 (TX5 2).1 (TX5 2).2.1 (TX5 2).2.2.1 ∈ TB := TB_in (List.mem_of_getElem? (i := 199) (by decide +kernel)) rfl
theorem tc_200 : Cond.fieldLink RX5 21 (TX5 3).1 (TX5 3).2.1 (TX5 3).2.2.1 ∈ TB := TB_in (List.mem_of_getElem? (i := 200) (by decide +kernel)) rfl
theorem tc_201 : Cond.fieldLink RX5 24 (TX5 4).1 (TX5 4).2.1 (TX5 4).2.2.1 ∈ TB := TB_in (List.mem_of_getElem? (i := 201) (by decide +kernel)) rfl
theorem tc_202 : Cond.fieldLink RX5 27 (TX5 5).1 (TX5 5).2.1 (TX5 5).2.2.1 ∈ TB := TB_in (List.mem_of_getElem? (i := 202) (by decide +kernel)) rfl
theorem tc_203 : Cond.fieldLink RX5 30 (TX5 6).1 (TX5 6).2.1 (TX5 6).2.2.1 ∈ TB := TB_in (List.mem_of_getElem? (i := 203) (by decide +kernel)) rfl
theorem tc_204 : Cond.fieldLink RX5 34 (TX5 7).1 (TX5 7).2.1 (TX5 7).2.2.1 ∈ TB := TB_in (List.mem_of_getElem? (i := 204) (by decide +kernel)) rfl
theorem tc_205 : Cond.fieldLink RX5 37 (TX5 8).1 (TX5 8).2.1 (TX5 8).2.2.1 ∈ TB := TB_in (List.mem_of_getElem? (i := 205) (by decide +kernel)) rfl
theorem tc_206 : Cond.fieldLink RX5 40 (TX5 9).1 (TX5 9).2.1 (TX5 9).2.2.1 ∈ TB := TB_in (List.mem_of_getElem? (i := 206) (by decide +kernel)) rfl
theorem tc_207 : Cond.fieldLink RX5 44 (TX5 10).1 (TX5 10).2.1 (TX5 10).2.2.1 ∈ TB := TB_in (List.mem_of_getElem? (i := 207) (by decide +kernel)) rfl
theorem tc_208 : Cond.fieldLink RX5 47 (TX5 11).1 (TX5 11).2.1 (TX5 11).2.2.1 ∈ TB := TB_in (List.mem_of_getElem? (i := 208) (by decide +kernel)) rfl
theorem tc_209 : Cond.fieldLink RX5 50 (TX5 12).1 (TX5 12).2.1 (TX5 12).2.2.1 ∈ TB := TB_in (List.mem_of_getElem? (i := 209) (by decide +kernel)) rfl
theorem tc_237 : Cond.arrayClass .long ∈ TB := TB_in (List.mem_of_getElem? (i := 237) (by decide +kernel)) rfl
theorem tc_238 : Cond.arrayClass .int ∈ TB := TB_in (List.mem_of_getElem? (i := 238) (by decide +kernel)) rfl
theorem tc_244 : Cond.methodLink RX4 3 objectInit ∈ TB := TB_in (List.mem_of_getElem? (i := 244) (by decide +kernel)) rfl
theorem tc_245 : Cond.fieldLink RX4 9 (TX4 0).1 (TX4 0).2.1 (TX4 0).2.2.1 ∈ TB := TB_in (List.mem_of_getElem? (i := 245) (by decide +kernel)) rfl
theorem tc_246 : Cond.fieldLink RX4 15 (TX4 1).1 (TX4 1).2.1 (TX4 1).2.2.1 ∈ TB := TB_in (List.mem_of_getElem? (i := 246) (by decide +kernel)) rfl
theorem tc_287 : Cond.methodLink RX9 3 objectInit ∈ TB := TB_in (List.mem_of_getElem? (i := 287) (by decide +kernel)) rfl
theorem tc_288 : Cond.fieldLink RX9 28 (TX9 0).1 (TX9 0).2.1 (TX9 0).2.2.1 ∈ TB := TB_in (List.mem_of_getElem? (i := 288) (by decide +kernel)) rfl
theorem tc_289 : Cond.fieldLink RX9 32 (TX9 1).1 (TX9 1).2.1 (TX9 1).2.2.1 ∈ TB := TB_in (List.mem_of_getElem? (i := 289) (by decide +kernel)) rfl
theorem tc_290 : Cond.fieldLink RX9 9 (TX9 2).1 (TX9 2).2.1 (TX9 2).2.2.1 ∈ TB := TB_in (List.mem_of_getElem? (i := 290) (by decide +kernel)) rfl
theorem tc_291 : Cond.fieldLink RX9 15 (TX9 3).1 (TX9 3).2.1 (TX9 3).2.2.1 ∈ TB := TB_in (List.mem_of_getElem? (i := 291) (by decide +kernel)) rfl
theorem tc_292 : Cond.fieldLink RX9 18 (TX9 4).1 (TX9 4).2.1 (TX9 4).2.2.1 ∈ TB := TB_in (List.mem_of_getElem? (i := 292) (by decide +kernel)) rfl
theorem tc_293 : Cond.fieldLink RX9 21 (TX9 5).1 (TX9 5).2.1 (TX9 5).2.2.1 ∈ TB := TB_in (List.mem_of_getElem? (i := 293) (by decide +kernel)) rfl
theorem tc_294 : Cond.fieldLink RX9 24 (TX9 6).1 (TX9 6).2.1 (TX9 6).2.2.1 ∈ TB := TB_in (List.mem_of_getElem? (i := 294) (by decide +kernel)) rfl
theorem tc_315 : Cond.methodLink RX6 3 objectInit ∈ TB := TB_in (List.mem_of_getElem? (i := 315) (by decide +kernel)) rfl
theorem tc_316 : Cond.fieldLink RX6 15 (TX6 0).1 (TX6 0).2.1 (TX6 0).2.2.1 ∈ TB := TB_in (List.mem_of_getElem? (i := 316) (by decide +kernel)) rfl
theorem tc_317 : Cond.fieldLink RX6 19 (TX6 1).1 (TX6 1).2.1 (TX6 1).2.2.1 ∈ TB := TB_in (List.mem_of_getElem? (i := 317) (by decide +kernel)) rfl
theorem tc_318 : Cond.fieldLink RX6 23 (TX6 2).1 (TX6 2).2.1 (TX6 2).2.2.1 ∈ TB := TB_in (List.mem_of_getElem? (i := 318) (by decide +kernel)) rfl
theorem tc_319 : Cond.fieldLink RX6 9 (TX6 3).1 (TX6 3).2.1 (TX6 3).2.2.1 ∈ TB := TB_in (List.mem_of_getElem? (i := 319) (by decide +kernel)) rfl
theorem tc_337 : Cond.methodLink RX2 3 objectInit ∈ TB := TB_in (List.mem_of_getElem? (i := 337) (by decide +kernel)) rfl
theorem tc_338 : Cond.fieldLink RX2 28 (TX2 0).1 (TX2 0).2.1 (TX2 0).2.2.1 ∈ TB := TB_in (List.mem_of_getElem? (i := 338) (by decide +kernel)) rfl
theorem tc_339 : Cond.fieldLink RX2 32 (TX2 1).1 (TX2 1).2.1 (TX2 1).2.2.1 ∈ TB := TB_in (List.mem_of_getElem? (i := 339) (by decide +kernel)) rfl
theorem tc_340 : Cond.fieldLink RX2 9 (TX2 2).1 (TX2 2).2.1 (TX2 2).2.2.1 ∈ TB := TB_in (List.mem_of_getElem? (i := 340) (by decide +kernel)) rfl
theorem tc_341 : Cond.fieldLink RX2 15 (TX2 3).1 (TX2 3).2.1 (TX2 3).2.2.1 ∈ TB := TB_in (List.mem_of_getElem? (i := 341) (by decide +kernel)) rfl
theorem tc_342 : Cond.fieldLink RX2 18 (TX2 4).1 (TX2 4).2.1 (TX2 4).2.2.1 ∈ TB := TB_in (List.mem_of_getElem? (i := 342) (by decide +kernel)) rfl
theorem tc_343 : Cond.fieldLink RX2 21 (TX2 5).1 (TX2 5).2.1 (TX2 5).2.2.1 ∈ TB := TB_in (List.mem_of_getElem? (i := 343) (by decide +kernel)) rfl
theorem tc_344 : Cond.fieldLink RX2 25 (TX2 6).1 (TX2 6).2.1 (TX2 6).2.2.1 ∈ TB := TB_in (List.mem_of_getElem? (i := 344) (by decide +kernel)) rfl
theorem tc_361 : Cond.instantiable RX7 5 ∈ TB := TB_in (List.mem_of_getElem? (i := 361) (by decide +kernel)) rfl
theorem tc_363 : Cond.instanceMethod yX7_init ∈ TB := TB_in (List.mem_of_getElem? (i := 363) (by decide +kernel)) rfl
theorem tc_364 : Cond.code yX7_init cX7_init 1 none ∈ TB := TB_in (List.mem_of_getElem? (i := 364) (by decide +kernel)) rfl
theorem tc_365 : Cond.methodLink RX7 3 objectInit ∈ TB := TB_in (List.mem_of_getElem? (i := 365) (by decide +kernel)) rfl
theorem tc_366 : Cond.fieldLink RX7 11 (TX7 0).1 (TX7 0).2.1 (TX7 0).2.2.1 ∈ TB := TB_in (List.mem_of_getElem? (i := 366) (by decide +kernel)) rfl
theorem tc_367 : Cond.fieldLink RX7 15 (TX7 1).1 (TX7 1).2.1 (TX7 1).2.2.1 ∈ TB := TB_in (List.mem_of_getElem? (i := 367) (by decide +kernel)) rfl
theorem tc_368 : Cond.fieldLink RX7 18 (TX7 2).1 (TX7 2).2.1 (TX7 2).2.2.1 ∈ TB := TB_in (List.mem_of_getElem? (i := 368) (by decide +kernel)) rfl
theorem tc_369 : Cond.fieldLink RX7 21 (TX7 3).1 (TX7 3).2.1 (TX7 3).2.2.1 ∈ TB := TB_in (List.mem_of_getElem? (i := 369) (by decide +kernel)) rfl
theorem tc_370 : Cond.fieldLink RX7 25 (TX7 4).1 (TX7 4).2.1 (TX7 4).2.2.1 ∈ TB := TB_in (List.mem_of_getElem? (i := 370) (by decide +kernel)) rfl
theorem tc_387 : Cond.methodLink RX3 3 objectInit ∈ TB := TB_in (List.mem_of_getElem? (i := 387) (by decide +kernel)) rfl
theorem tc_388 : Cond.fieldLink RX3 21 (TX3 0).1 (TX3 0).2.1 (TX3 0).2.2.1 ∈ TB := TB_in (List.mem_of_getElem? (i := 388) (by decide +kernel)) rfl
theorem tc_389 : Cond.fieldLink RX3 25 (TX3 1).1 (TX3 1).2.1 (TX3 1).2.2.1 ∈ TB := TB_in (List.mem_of_getElem? (i := 389) (by decide +kernel)) rfl
theorem tc_390 : Cond.fieldLink RX3 29 (TX3 2).1 (TX3 2).2.1 (TX3 2).2.2.1 ∈ TB := TB_in (List.mem_of_getElem? (i := 390) (by decide +kernel)) rfl
theorem tc_391 : Cond.fieldLink RX3 9 (TX3 3).1 (TX3 3).2.1 (TX3 3).2.2.1 ∈ TB := TB_in (List.mem_of_getElem? (i := 391) (by decide +kernel)) rfl
theorem tc_392 : Cond.fieldLink RX3 15 (TX3 4).1 (TX3 4).2.1 (TX3 4).2.2.1 ∈ TB := TB_in (List.mem_of_getElem? (i := 392) (by decide +kernel)) rfl
theorem tc_393 : Cond.fieldLink RX3 18 (TX3 5).1 (TX3 5).2.1 (TX3 5).2.2.1 ∈ TB := TB_in (List.mem_of_getElem? (i := 393) (by decide +kernel)) rfl
theorem tc_415 : Cond.methodLink RX1 3 objectInit ∈ TB := TB_in (List.mem_of_getElem? (i := 415) (by decide +kernel)) rfl
theorem tc_416 : Cond.classLink RX1 9 RX5 ∈ TB := TB_in (List.mem_of_getElem? (i := 416) (by decide +kernel)) rfl
theorem tc_418 : Cond.classLink RX1 22 RX7 ∈ TB := TB_in (List.mem_of_getElem? (i := 418) (by decide +kernel)) rfl
theorem tc_420 : Cond.fieldLink RX1 12 (TX1 0).1 (TX1 0).2.1 (TX1 0).2.2.1 ∈ TB := TB_in (List.mem_of_getElem? (i := 420) (by decide +kernel)) rfl
theorem tc_421 : Cond.fieldLink RX1 18 (TX1 1).1 (TX1 1).2.1 (TX1 1).2.2.1 ∈ TB := TB_in (List.mem_of_getElem? (i := 421) (by decide +kernel)) rfl
theorem tc_422 : Cond.fieldLink RX1 25 (TX1 2).1 (TX1 2).2.1 (TX1 2).2.2.1 ∈ TB := TB_in (List.mem_of_getElem? (i := 422) (by decide +kernel)) rfl
theorem tc_423 : Cond.fieldLink RX1 29 (TX1 3).1 (TX1 3).2.1 (TX1 3).2.2.1 ∈ TB := TB_in (List.mem_of_getElem? (i := 423) (by decide +kernel)) rfl
theorem dX8_init_0 : decode cX8_init 0 = .ok (.aload_n 0, 1) := by decide +kernel
theorem dX8_init_1 : decode cX8_init 1 = .ok (.invokespecial 3, 3) := by decide +kernel
theorem dX8_init_4 : decode cX8_init 4 = .ok (.aload_n 0, 1) := by decide +kernel
theorem dX8_init_5 : decode cX8_init 5 = .ok (.sipush 940, 3) := by decide +kernel
theorem dX8_init_8 : decode cX8_init 8 = .ok (.newarray .byte, 2) := by decide +kernel
theorem dX8_init_10 : decode cX8_init 10 = .ok (.putfield 9, 3) := by decide +kernel
theorem dX8_init_13 : decode cX8_init 13 = .ok (.aload_n 0, 1) := by decide +kernel
theorem dX8_init_14 : decode cX8_init 14 = .ok (.iconst 0, 1) := by decide +kernel
theorem dX8_init_15 : decode cX8_init 15 = .ok (.putfield 15, 3) := by decide +kernel
theorem dX8_init_18 : decode cX8_init 18 = .ok (.aload_n 0, 1) := by decide +kernel
theorem dX8_init_19 : decode cX8_init 19 = .ok (.iconst 0, 1) := by decide +kernel
theorem dX8_init_20 : decode cX8_init 20 = .ok (.putfield 19, 3) := by decide +kernel
theorem dX8_init_23 : decode cX8_init 23 = .ok (.aload_n 0, 1) := by decide +kernel
theorem dX8_init_24 : decode cX8_init 24 = .ok (.iconst 0, 1) := by decide +kernel
theorem dX8_init_25 : decode cX8_init 25 = .ok (.putfield 22, 3) := by decide +kernel
theorem dX8_init_28 : decode cX8_init 28 = .ok (.aload_n 0, 1) := by decide +kernel
theorem dX8_init_29 : decode cX8_init 29 = .ok (.iconst 0, 1) := by decide +kernel
theorem dX8_init_30 : decode cX8_init 30 = .ok (.putfield 25, 3) := by decide +kernel
theorem dX8_init_33 : decode cX8_init 33 = .ok (.aload_n 0, 1) := by decide +kernel
theorem dX8_init_34 : decode cX8_init 34 = .ok (.iconst 0, 1) := by decide +kernel
theorem dX8_init_35 : decode cX8_init 35 = .ok (.putfield 28, 3) := by decide +kernel
theorem dX8_init_38 : decode cX8_init 38 = .ok (.aload_n 0, 1) := by decide +kernel
theorem dX8_init_39 : decode cX8_init 39 = .ok (.lconst 0, 1) := by decide +kernel
theorem dX8_init_40 : decode cX8_init 40 = .ok (.putfield 31, 3) := by decide +kernel
theorem dX8_init_43 : decode cX8_init 43 = .ok (.aload_n 0, 1) := by decide +kernel
theorem dX8_init_44 : decode cX8_init 44 = .ok (.iconst 0, 1) := by decide +kernel
theorem dX8_init_45 : decode cX8_init 45 = .ok (.putfield 35, 3) := by decide +kernel
theorem dX8_init_48 : decode cX8_init 48 = .ok (.aload_n 0, 1) := by decide +kernel
theorem dX8_init_49 : decode cX8_init 49 = .ok (.iconst 0, 1) := by decide +kernel
theorem dX8_init_50 : decode cX8_init 50 = .ok (.putfield 38, 3) := by decide +kernel
theorem dX8_init_53 : decode cX8_init 53 = .ok (.aload_n 0, 1) := by decide +kernel
theorem dX8_init_54 : decode cX8_init 54 = .ok (.iconst 0, 1) := by decide +kernel
theorem dX8_init_55 : decode cX8_init 55 = .ok (.putfield 41, 3) := by decide +kernel
theorem dX8_init_58 : decode cX8_init 58 = .ok (.aload_n 0, 1) := by decide +kernel
theorem dX8_init_59 : decode cX8_init 59 = .ok (.iconst 0, 1) := by decide +kernel
theorem dX8_init_60 : decode cX8_init 60 = .ok (.putfield 44, 3) := by decide +kernel
theorem dX8_init_63 : decode cX8_init 63 = .ok (.return_, 1) := by decide +kernel
theorem ct_X8 (h0 : Nat) : CtN [] { frames := 1, cells := 1, slots := 940, locals := 40 } yX8_init cX8_init 1 1 940 [.ref h0] [(h0, .inr (8, [.null, .int 0, .int 0, .int 0, .int 0, .int 0, .long 0, .int 0, .int 0, .int 0, .int 0]))] [] (fun w u => ∃ (q0 : Nat) (c0 : ClassId), w = [(h0, .inr (8, [.ref q0, .int 0, .int 0, .int 0, .int 0, .int 0, .long 0, .int 0, .int 0, .int 0, .int 0])), (q0, .inl (c0, 940, .inl (fun _ => 0)))] ∧ u = [(c0, .byte)]) := by
  refine x_enter (own := RX8) (by decide) rfl rfl (Nat.le_of_ble_eq_true rfl) (lv := [(0, .ref h0)]) rfl (fun Γ hG hN => ?_)
  refine x_aload_n hG 0 rfl dX8_init_0 rfl ?_
  refine x_objInit hG tc_155 tc_148 tc_149 (by decide) (by decide) dX8_init_1 ?_
  refine x_aload_n hG 0 rfl dX8_init_4 rfl ?_
  refine x_sipush (v := 940) hG dX8_init_5 (by decide) ?_
  refine x_newa (atype := .byte) (ty := .byte) (N' := 940) (a0 := (940, .inl (fun _ => 0))) hG tc_190 rfl (fun _ => rfl) (by decide) (by decide) (by decide) (by decide) (by decide) dX8_init_8 (fun q0 c0 => ?_)
  refine x_putF (T := TX8) (ty := tyX8 0) hG ok_X8 cl_X8 0 rfl 0 (by decide) tc_156 rfl rfl (tyX8_ok 0 (by decide)) rfl rfl (Nat.le_of_ble_eq_true rfl) dX8_init_10 ?_
  show AC _ _ _ Γ 13 _ [] [(h0, .inr (8, [.ref q0, .int 0, .int 0, .int 0, .int 0, .int 0, .long 0, .int 0, .int 0, .int 0, .int 0])), (q0, .inl (c0, 940, .inl (fun _ => 0)))] [(c0, .byte)] 1 940
  refine x_aload_n hG 0 rfl dX8_init_13 rfl ?_
  refine x_iconst (v := 0) hG dX8_init_14 (by decide) ?_
  refine x_put (T := TX8) (ty := tyX8 1) hG ok_X8 cl_X8 0 rfl 1 (by decide) tc_157 rfl (tyX8_ok 1 (by decide)) rfl rfl (Nat.le_of_ble_eq_true rfl) dX8_init_15 ?_
  show AC _ _ _ Γ 18 _ [] [(h0, .inr (8, [.ref q0, .int 0, .int 0, .int 0, .int 0, .int 0, .long 0, .int 0, .int 0, .int 0, .int 0])), (q0, .inl (c0, 940, .inl (fun _ => 0)))] [(c0, .byte)] 1 940
  refine x_aload_n hG 0 rfl dX8_init_18 rfl ?_
  refine x_iconst (v := 0) hG dX8_init_19 (by decide) ?_
  refine x_put (T := TX8) (ty := tyX8 2) hG ok_X8 cl_X8 0 rfl 2 (by decide) tc_158 rfl (tyX8_ok 2 (by decide)) rfl rfl (Nat.le_of_ble_eq_true rfl) dX8_init_20 ?_
  show AC _ _ _ Γ 23 _ [] [(h0, .inr (8, [.ref q0, .int 0, .int 0, .int 0, .int 0, .int 0, .long 0, .int 0, .int 0, .int 0, .int 0])), (q0, .inl (c0, 940, .inl (fun _ => 0)))] [(c0, .byte)] 1 940
  refine x_aload_n hG 0 rfl dX8_init_23 rfl ?_
  refine x_iconst (v := 0) hG dX8_init_24 (by decide) ?_
  refine x_put (T := TX8) (ty := tyX8 3) hG ok_X8 cl_X8 0 rfl 3 (by decide) tc_159 rfl (tyX8_ok 3 (by decide)) rfl rfl (Nat.le_of_ble_eq_true rfl) dX8_init_25 ?_
  show AC _ _ _ Γ 28 _ [] [(h0, .inr (8, [.ref q0, .int 0, .int 0, .int 0, .int 0, .int 0, .long 0, .int 0, .int 0, .int 0, .int 0])), (q0, .inl (c0, 940, .inl (fun _ => 0)))] [(c0, .byte)] 1 940
  refine x_aload_n hG 0 rfl dX8_init_28 rfl ?_
  refine x_iconst (v := 0) hG dX8_init_29 (by decide) ?_
  refine x_put (T := TX8) (ty := tyX8 4) hG ok_X8 cl_X8 0 rfl 4 (by decide) tc_160 rfl (tyX8_ok 4 (by decide)) rfl rfl (Nat.le_of_ble_eq_true rfl) dX8_init_30 ?_
  show AC _ _ _ Γ 33 _ [] [(h0, .inr (8, [.ref q0, .int 0, .int 0, .int 0, .int 0, .int 0, .long 0, .int 0, .int 0, .int 0, .int 0])), (q0, .inl (c0, 940, .inl (fun _ => 0)))] [(c0, .byte)] 1 940
  refine x_aload_n hG 0 rfl dX8_init_33 rfl ?_
  refine x_iconst (v := 0) hG dX8_init_34 (by decide) ?_
  refine x_put (T := TX8) (ty := tyX8 5) hG ok_X8 cl_X8 0 rfl 5 (by decide) tc_161 rfl (tyX8_ok 5 (by decide)) rfl rfl (Nat.le_of_ble_eq_true rfl) dX8_init_35 ?_
  show AC _ _ _ Γ 38 _ [] [(h0, .inr (8, [.ref q0, .int 0, .int 0, .int 0, .int 0, .int 0, .long 0, .int 0, .int 0, .int 0, .int 0])), (q0, .inl (c0, 940, .inl (fun _ => 0)))] [(c0, .byte)] 1 940
  refine x_aload_n hG 0 rfl dX8_init_38 rfl ?_
  refine x_lconst (v := 0) hG dX8_init_39 (by decide) ?_
  refine x_put (T := TX8) (ty := tyX8 6) hG ok_X8 cl_X8 0 rfl 6 (by decide) tc_162 rfl (tyX8_ok 6 (by decide)) rfl rfl (Nat.le_of_ble_eq_true rfl) dX8_init_40 ?_
  show AC _ _ _ Γ 43 _ [] [(h0, .inr (8, [.ref q0, .int 0, .int 0, .int 0, .int 0, .int 0, .long 0, .int 0, .int 0, .int 0, .int 0])), (q0, .inl (c0, 940, .inl (fun _ => 0)))] [(c0, .byte)] 1 940
  refine x_aload_n hG 0 rfl dX8_init_43 rfl ?_
  refine x_iconst (v := 0) hG dX8_init_44 (by decide) ?_
  refine x_put (T := TX8) (ty := tyX8 7) hG ok_X8 cl_X8 0 rfl 7 (by decide) tc_163 rfl (tyX8_ok 7 (by decide)) rfl rfl (Nat.le_of_ble_eq_true rfl) dX8_init_45 ?_
  show AC _ _ _ Γ 48 _ [] [(h0, .inr (8, [.ref q0, .int 0, .int 0, .int 0, .int 0, .int 0, .long 0, .int 0, .int 0, .int 0, .int 0])), (q0, .inl (c0, 940, .inl (fun _ => 0)))] [(c0, .byte)] 1 940
  refine x_aload_n hG 0 rfl dX8_init_48 rfl ?_
  refine x_iconst (v := 0) hG dX8_init_49 (by decide) ?_
  refine x_put (T := TX8) (ty := tyX8 8) hG ok_X8 cl_X8 0 rfl 8 (by decide) tc_164 rfl (tyX8_ok 8 (by decide)) rfl rfl (Nat.le_of_ble_eq_true rfl) dX8_init_50 ?_
  show AC _ _ _ Γ 53 _ [] [(h0, .inr (8, [.ref q0, .int 0, .int 0, .int 0, .int 0, .int 0, .long 0, .int 0, .int 0, .int 0, .int 0])), (q0, .inl (c0, 940, .inl (fun _ => 0)))] [(c0, .byte)] 1 940
  refine x_aload_n hG 0 rfl dX8_init_53 rfl ?_
  refine x_iconst (v := 0) hG dX8_init_54 (by decide) ?_
  refine x_put (T := TX8) (ty := tyX8 9) hG ok_X8 cl_X8 0 rfl 9 (by decide) tc_165 rfl (tyX8_ok 9 (by decide)) rfl rfl (Nat.le_of_ble_eq_true rfl) dX8_init_55 ?_
  show AC _ _ _ Γ 58 _ [] [(h0, .inr (8, [.ref q0, .int 0, .int 0, .int 0, .int 0, .int 0, .long 0, .int 0, .int 0, .int 0, .int 0])), (q0, .inl (c0, 940, .inl (fun _ => 0)))] [(c0, .byte)] 1 940
  refine x_aload_n hG 0 rfl dX8_init_58 rfl ?_
  refine x_iconst (v := 0) hG dX8_init_59 (by decide) ?_
  refine x_put (T := TX8) (ty := tyX8 10) hG ok_X8 cl_X8 0 rfl 10 (by decide) tc_166 rfl (tyX8_ok 10 (by decide)) rfl rfl (Nat.le_of_ble_eq_true rfl) dX8_init_60 ?_
  show AC _ _ _ Γ 63 _ [] [(h0, .inr (8, [.ref q0, .int 0, .int 0, .int 0, .int 0, .int 0, .long 0, .int 0, .int 0, .int 0, .int 0])), (q0, .inl (c0, 940, .inl (fun _ => 0)))] [(c0, .byte)] 1 940
  exact x_vret hG ⟨q0, c0, rfl, rfl⟩ dX8_init_63
theorem dX5_init_0 : decode cX5_init 0 = .ok (.aload_n 0, 1) := by decide +kernel
theorem dX5_init_1 : decode cX5_init 1 = .ok (.invokespecial 3, 3) := by decide +kernel
theorem dX5_init_4 : decode cX5_init 4 = .ok (.aload_n 0, 1) := by decide +kernel
theorem dX5_init_5 : decode cX5_init 5 = .ok (.iconst 1, 1) := by decide +kernel
theorem dX5_init_6 : decode cX5_init 6 = .ok (.putfield 9, 3) := by decide +kernel
theorem dX5_init_9 : decode cX5_init 9 = .ok (.aload_n 0, 1) := by decide +kernel
theorem dX5_init_10 : decode cX5_init 10 = .ok (.bipush 9, 2) := by decide +kernel
theorem dX5_init_12 : decode cX5_init 12 = .ok (.putfield 15, 3) := by decide +kernel
theorem dX5_init_15 : decode cX5_init 15 = .ok (.aload_n 0, 1) := by decide +kernel
theorem dX5_init_16 : decode cX5_init 16 = .ok (.bipush 50, 2) := by decide +kernel
theorem dX5_init_18 : decode cX5_init 18 = .ok (.putfield 18, 3) := by decide +kernel
theorem dX5_init_21 : decode cX5_init 21 = .ok (.aload_n 0, 1) := by decide +kernel
theorem dX5_init_22 : decode cX5_init 22 = .ok (.iconst 0, 1) := by decide +kernel
theorem dX5_init_23 : decode cX5_init 23 = .ok (.putfield 21, 3) := by decide +kernel
theorem dX5_init_26 : decode cX5_init 26 = .ok (.aload_n 0, 1) := by decide +kernel
theorem dX5_init_27 : decode cX5_init 27 = .ok (.iconst 0, 1) := by decide +kernel
theorem dX5_init_28 : decode cX5_init 28 = .ok (.putfield 24, 3) := by decide +kernel
theorem dX5_init_31 : decode cX5_init 31 = .ok (.aload_n 0, 1) := by decide +kernel
theorem dX5_init_32 : decode cX5_init 32 = .ok (.iconst 0, 1) := by decide +kernel
theorem dX5_init_33 : decode cX5_init 33 = .ok (.putfield 27, 3) := by decide +kernel
theorem dX5_init_36 : decode cX5_init 36 = .ok (.aload_n 0, 1) := by decide +kernel
theorem dX5_init_37 : decode cX5_init 37 = .ok (.bipush 6, 2) := by decide +kernel
theorem dX5_init_39 : decode cX5_init 39 = .ok (.newarray .long, 2) := by decide +kernel
theorem dX5_init_41 : decode cX5_init 41 = .ok (.putfield 30, 3) := by decide +kernel
theorem dX5_init_44 : decode cX5_init 44 = .ok (.aload_n 0, 1) := by decide +kernel
theorem dX5_init_45 : decode cX5_init 45 = .ok (.bipush 6, 2) := by decide +kernel
theorem dX5_init_47 : decode cX5_init 47 = .ok (.newarray .long, 2) := by decide +kernel
theorem dX5_init_49 : decode cX5_init 49 = .ok (.putfield 34, 3) := by decide +kernel
theorem dX5_init_52 : decode cX5_init 52 = .ok (.aload_n 0, 1) := by decide +kernel
theorem dX5_init_53 : decode cX5_init 53 = .ok (.iconst 5, 1) := by decide +kernel
theorem dX5_init_54 : decode cX5_init 54 = .ok (.newarray .long, 2) := by decide +kernel
theorem dX5_init_56 : decode cX5_init 56 = .ok (.putfield 37, 3) := by decide +kernel
theorem dX5_init_59 : decode cX5_init 59 = .ok (.aload_n 0, 1) := by decide +kernel
theorem dX5_init_60 : decode cX5_init 60 = .ok (.bipush 24, 2) := by decide +kernel
theorem dX5_init_62 : decode cX5_init 62 = .ok (.newarray .int, 2) := by decide +kernel
theorem dX5_init_64 : decode cX5_init 64 = .ok (.putfield 40, 3) := by decide +kernel
theorem dX5_init_67 : decode cX5_init 67 = .ok (.aload_n 0, 1) := by decide +kernel
theorem dX5_init_68 : decode cX5_init 68 = .ok (.bipush 12, 2) := by decide +kernel
theorem dX5_init_70 : decode cX5_init 70 = .ok (.newarray .int, 2) := by decide +kernel
theorem dX5_init_72 : decode cX5_init 72 = .ok (.putfield 44, 3) := by decide +kernel
theorem dX5_init_75 : decode cX5_init 75 = .ok (.aload_n 0, 1) := by decide +kernel
theorem dX5_init_76 : decode cX5_init 76 = .ok (.bipush 18, 2) := by decide +kernel
theorem dX5_init_78 : decode cX5_init 78 = .ok (.newarray .int, 2) := by decide +kernel
theorem dX5_init_80 : decode cX5_init 80 = .ok (.putfield 47, 3) := by decide +kernel
theorem dX5_init_83 : decode cX5_init 83 = .ok (.aload_n 0, 1) := by decide +kernel
theorem dX5_init_84 : decode cX5_init 84 = .ok (.iconst 5, 1) := by decide +kernel
theorem dX5_init_85 : decode cX5_init 85 = .ok (.newarray .int, 2) := by decide +kernel
theorem dX5_init_87 : decode cX5_init 87 = .ok (.putfield 50, 3) := by decide +kernel
theorem dX5_init_90 : decode cX5_init 90 = .ok (.return_, 1) := by decide +kernel
theorem ct_X5 (h0 : Nat) : CtN [] { frames := 1, cells := 7, slots := 76, locals := 40 } yX5_init cX5_init 1 7 76 [.ref h0] [(h0, .inr (5, [.int 0, .int 0, .int 0, .int 0, .int 0, .int 0, .null, .null, .null, .null, .null, .null, .null]))] [] (fun w u => ∃ (q0 : Nat) (c0 : ClassId) (q1 : Nat) (c1 : ClassId) (q2 : Nat) (c2 : ClassId) (q3 : Nat) (c3 : ClassId) (q4 : Nat) (c4 : ClassId) (q5 : Nat) (c5 : ClassId) (q6 : Nat) (c6 : ClassId), w = [(h0, .inr (5, [.int 1, .int 9, .int 50, .int 0, .int 0, .int 0, .ref q0, .ref q1, .ref q2, .ref q3, .ref q4, .ref q5, .ref q6])), (q0, .inl (c0, 6, .inr (.inl (fun _ => 0)))), (q1, .inl (c1, 6, .inr (.inl (fun _ => 0)))), (q2, .inl (c2, 5, .inr (.inl (fun _ => 0)))), (q3, .inl (c3, 24, .inl (fun _ => 0))), (q4, .inl (c4, 12, .inl (fun _ => 0))), (q5, .inl (c5, 18, .inl (fun _ => 0))), (q6, .inl (c6, 5, .inl (fun _ => 0)))] ∧ u = [(c0, .long), (c1, .long), (c2, .long), (c3, .int), (c4, .int), (c5, .int), (c6, .int)]) := by
  refine x_enter (own := RX5) (by decide) rfl rfl (Nat.le_of_ble_eq_true rfl) (lv := [(0, .ref h0)]) rfl (fun Γ hG hN => ?_)
  refine x_aload_n hG 0 rfl dX5_init_0 rfl ?_
  refine x_objInit hG tc_196 tc_148 tc_149 (by decide) (by decide) dX5_init_1 ?_
  refine x_aload_n hG 0 rfl dX5_init_4 rfl ?_
  refine x_iconst (v := 1) hG dX5_init_5 (by decide) ?_
  refine x_put (T := TX5) (ty := tyX5 0) hG ok_X5 cl_X5 0 rfl 0 (by decide) tc_197 rfl (tyX5_ok 0 (by decide)) rfl rfl (Nat.le_of_ble_eq_true rfl) dX5_init_6 ?_
  show AC _ _ _ Γ 9 _ [] [(h0, .inr (5, [.int 1, .int 0, .int 0, .int 0, .int 0, .int 0, .null, .null, .null, .null, .null, .null, .null]))] [] 0 0
  refine x_aload_n hG 0 rfl dX5_init_9 rfl ?_
  refine x_bipush (v := 9) hG dX5_init_10 (by decide) ?_
  refine x_put (T := TX5) (ty := tyX5 1) hG ok_X5 cl_X5 0 rfl 1 (by decide) tc_198 rfl (tyX5_ok 1 (by decide)) rfl rfl (Nat.le_of_ble_eq_true rfl) dX5_init_12 ?_
  show AC _ _ _ Γ 15 _ [] [(h0, .inr (5, [.int 1, .int 9, .int 0, .int 0, .int 0, .int 0, .null, .null, .null, .null, .null, .null, .null]))] [] 0 0
  refine x_aload_n hG 0 rfl dX5_init_15 rfl ?_
  refine x_bipush (v := 50) hG dX5_init_16 (by decide) ?_
  refine x_put (T := TX5) (ty := tyX5 2) hG ok_X5 cl_X5 0 rfl 2 (by decide) tc_199 rfl (tyX5_ok 2 (by decide)) rfl rfl (Nat.le_of_ble_eq_true rfl) dX5_init_18 ?_
  show AC _ _ _ Γ 21 _ [] [(h0, .inr (5, [.int 1, .int 9, .int 50, .int 0, .int 0, .int 0, .null, .null, .null, .null, .null, .null, .null]))] [] 0 0
  refine x_aload_n hG 0 rfl dX5_init_21 rfl ?_
  refine x_iconst (v := 0) hG dX5_init_22 (by decide) ?_
  refine x_put (T := TX5) (ty := tyX5 3) hG ok_X5 cl_X5 0 rfl 3 (by decide) tc_200 rfl (tyX5_ok 3 (by decide)) rfl rfl (Nat.le_of_ble_eq_true rfl) dX5_init_23 ?_
  show AC _ _ _ Γ 26 _ [] [(h0, .inr (5, [.int 1, .int 9, .int 50, .int 0, .int 0, .int 0, .null, .null, .null, .null, .null, .null, .null]))] [] 0 0
  refine x_aload_n hG 0 rfl dX5_init_26 rfl ?_
  refine x_iconst (v := 0) hG dX5_init_27 (by decide) ?_
  refine x_put (T := TX5) (ty := tyX5 4) hG ok_X5 cl_X5 0 rfl 4 (by decide) tc_201 rfl (tyX5_ok 4 (by decide)) rfl rfl (Nat.le_of_ble_eq_true rfl) dX5_init_28 ?_
  show AC _ _ _ Γ 31 _ [] [(h0, .inr (5, [.int 1, .int 9, .int 50, .int 0, .int 0, .int 0, .null, .null, .null, .null, .null, .null, .null]))] [] 0 0
  refine x_aload_n hG 0 rfl dX5_init_31 rfl ?_
  refine x_iconst (v := 0) hG dX5_init_32 (by decide) ?_
  refine x_put (T := TX5) (ty := tyX5 5) hG ok_X5 cl_X5 0 rfl 5 (by decide) tc_202 rfl (tyX5_ok 5 (by decide)) rfl rfl (Nat.le_of_ble_eq_true rfl) dX5_init_33 ?_
  show AC _ _ _ Γ 36 _ [] [(h0, .inr (5, [.int 1, .int 9, .int 50, .int 0, .int 0, .int 0, .null, .null, .null, .null, .null, .null, .null]))] [] 0 0
  refine x_aload_n hG 0 rfl dX5_init_36 rfl ?_
  refine x_bipush (v := 6) hG dX5_init_37 (by decide) ?_
  refine x_newa (atype := .long) (ty := .long) (N' := 6) (a0 := (6, .inr (.inl (fun _ => 0)))) hG tc_237 rfl (fun _ => rfl) (by decide) (by decide) (by decide) (by decide) (by decide) dX5_init_39 (fun q0 c0 => ?_)
  refine x_putF (T := TX5) (ty := tyX5 6) hG ok_X5 cl_X5 0 rfl 6 (by decide) tc_203 rfl rfl (tyX5_ok 6 (by decide)) rfl rfl (Nat.le_of_ble_eq_true rfl) dX5_init_41 ?_
  show AC _ _ _ Γ 44 _ [] [(h0, .inr (5, [.int 1, .int 9, .int 50, .int 0, .int 0, .int 0, .ref q0, .null, .null, .null, .null, .null, .null])), (q0, .inl (c0, 6, .inr (.inl (fun _ => 0))))] [(c0, .long)] 1 6
  refine x_aload_n hG 0 rfl dX5_init_44 rfl ?_
  refine x_bipush (v := 6) hG dX5_init_45 (by decide) ?_
  refine x_newa (atype := .long) (ty := .long) (N' := 6) (a0 := (6, .inr (.inl (fun _ => 0)))) hG tc_237 rfl (fun _ => rfl) (by decide) (by decide) (by decide) (by decide) (by decide) dX5_init_47 (fun q1 c1 => ?_)
  refine x_putF (T := TX5) (ty := tyX5 7) hG ok_X5 cl_X5 0 rfl 7 (by decide) tc_204 rfl rfl (tyX5_ok 7 (by decide)) rfl rfl (Nat.le_of_ble_eq_true rfl) dX5_init_49 ?_
  show AC _ _ _ Γ 52 _ [] [(h0, .inr (5, [.int 1, .int 9, .int 50, .int 0, .int 0, .int 0, .ref q0, .ref q1, .null, .null, .null, .null, .null])), (q0, .inl (c0, 6, .inr (.inl (fun _ => 0)))), (q1, .inl (c1, 6, .inr (.inl (fun _ => 0))))] [(c0, .long), (c1, .long)] 2 12
  refine x_aload_n hG 0 rfl dX5_init_52 rfl ?_
  refine x_iconst (v := 5) hG dX5_init_53 (by decide) ?_
  refine x_newa (atype := .long) (ty := .long) (N' := 5) (a0 := (5, .inr (.inl (fun _ => 0)))) hG tc_237 rfl (fun _ => rfl) (by decide) (by decide) (by decide) (by decide) (by decide) dX5_init_54 (fun q2 c2 => ?_)
  refine x_putF (T := TX5) (ty := tyX5 8) hG ok_X5 cl_X5 0 rfl 8 (by decide) tc_205 rfl rfl (tyX5_ok 8 (by decide)) rfl rfl (Nat.le_of_ble_eq_true rfl) dX5_init_56 ?_
  show AC _ _ _ Γ 59 _ [] [(h0, .inr (5, [.int 1, .int 9, .int 50, .int 0, .int 0, .int 0, .ref q0, .ref q1, .ref q2, .null, .null, .null, .null])), (q0, .inl (c0, 6, .inr (.inl (fun _ => 0)))), (q1, .inl (c1, 6, .inr (.inl (fun _ => 0)))), (q2, .inl (c2, 5, .inr (.inl (fun _ => 0))))] [(c0, .long), (c1, .long), (c2, .long)] 3 17
  refine x_aload_n hG 0 rfl dX5_init_59 rfl ?_
  refine x_bipush (v := 24) hG dX5_init_60 (by decide) ?_
  refine x_newa (atype := .int) (ty := .int) (N' := 24) (a0 := (24, .inl (fun _ => 0))) hG tc_238 rfl (fun _ => rfl) (by decide) (by decide) (by decide) (by decide) (by decide) dX5_init_62 (fun q3 c3 => ?_)
  refine x_putF (T := TX5) (ty := tyX5 9) hG ok_X5 cl_X5 0 rfl 9 (by decide) tc_206 rfl rfl (tyX5_ok 9 (by decide)) rfl rfl (Nat.le_of_ble_eq_true rfl) dX5_init_64 ?_
  show AC _ _ _ Γ 67 _ [] [(h0, .inr (5, [.int 1, .int 9, .int 50, .int 0, .int 0, .int 0, .ref q0, .ref q1, .ref q2, .ref q3, .null, .null, .null])), (q0, .inl (c0, 6, .inr (.inl (fun _ => 0)))), (q1, .inl (c1, 6, .inr (.inl (fun _ => 0)))), (q2, .inl (c2, 5, .inr (.inl (fun _ => 0)))), (q3, .inl (c3, 24, .inl (fun _ => 0)))] [(c0, .long), (c1, .long), (c2, .long), (c3, .int)] 4 41
  refine x_aload_n hG 0 rfl dX5_init_67 rfl ?_
  refine x_bipush (v := 12) hG dX5_init_68 (by decide) ?_
  refine x_newa (atype := .int) (ty := .int) (N' := 12) (a0 := (12, .inl (fun _ => 0))) hG tc_238 rfl (fun _ => rfl) (by decide) (by decide) (by decide) (by decide) (by decide) dX5_init_70 (fun q4 c4 => ?_)
  refine x_putF (T := TX5) (ty := tyX5 10) hG ok_X5 cl_X5 0 rfl 10 (by decide) tc_207 rfl rfl (tyX5_ok 10 (by decide)) rfl rfl (Nat.le_of_ble_eq_true rfl) dX5_init_72 ?_
  show AC _ _ _ Γ 75 _ [] [(h0, .inr (5, [.int 1, .int 9, .int 50, .int 0, .int 0, .int 0, .ref q0, .ref q1, .ref q2, .ref q3, .ref q4, .null, .null])), (q0, .inl (c0, 6, .inr (.inl (fun _ => 0)))), (q1, .inl (c1, 6, .inr (.inl (fun _ => 0)))), (q2, .inl (c2, 5, .inr (.inl (fun _ => 0)))), (q3, .inl (c3, 24, .inl (fun _ => 0))), (q4, .inl (c4, 12, .inl (fun _ => 0)))] [(c0, .long), (c1, .long), (c2, .long), (c3, .int), (c4, .int)] 5 53
  refine x_aload_n hG 0 rfl dX5_init_75 rfl ?_
  refine x_bipush (v := 18) hG dX5_init_76 (by decide) ?_
  refine x_newa (atype := .int) (ty := .int) (N' := 18) (a0 := (18, .inl (fun _ => 0))) hG tc_238 rfl (fun _ => rfl) (by decide) (by decide) (by decide) (by decide) (by decide) dX5_init_78 (fun q5 c5 => ?_)
  refine x_putF (T := TX5) (ty := tyX5 11) hG ok_X5 cl_X5 0 rfl 11 (by decide) tc_208 rfl rfl (tyX5_ok 11 (by decide)) rfl rfl (Nat.le_of_ble_eq_true rfl) dX5_init_80 ?_
  show AC _ _ _ Γ 83 _ [] [(h0, .inr (5, [.int 1, .int 9, .int 50, .int 0, .int 0, .int 0, .ref q0, .ref q1, .ref q2, .ref q3, .ref q4, .ref q5, .null])), (q0, .inl (c0, 6, .inr (.inl (fun _ => 0)))), (q1, .inl (c1, 6, .inr (.inl (fun _ => 0)))), (q2, .inl (c2, 5, .inr (.inl (fun _ => 0)))), (q3, .inl (c3, 24, .inl (fun _ => 0))), (q4, .inl (c4, 12, .inl (fun _ => 0))), (q5, .inl (c5, 18, .inl (fun _ => 0)))] [(c0, .long), (c1, .long), (c2, .long), (c3, .int), (c4, .int), (c5, .int)] 6 71
  refine x_aload_n hG 0 rfl dX5_init_83 rfl ?_
  refine x_iconst (v := 5) hG dX5_init_84 (by decide) ?_
  refine x_newa (atype := .int) (ty := .int) (N' := 5) (a0 := (5, .inl (fun _ => 0))) hG tc_238 rfl (fun _ => rfl) (by decide) (by decide) (by decide) (by decide) (by decide) dX5_init_85 (fun q6 c6 => ?_)
  refine x_putF (T := TX5) (ty := tyX5 12) hG ok_X5 cl_X5 0 rfl 12 (by decide) tc_209 rfl rfl (tyX5_ok 12 (by decide)) rfl rfl (Nat.le_of_ble_eq_true rfl) dX5_init_87 ?_
  show AC _ _ _ Γ 90 _ [] [(h0, .inr (5, [.int 1, .int 9, .int 50, .int 0, .int 0, .int 0, .ref q0, .ref q1, .ref q2, .ref q3, .ref q4, .ref q5, .ref q6])), (q0, .inl (c0, 6, .inr (.inl (fun _ => 0)))), (q1, .inl (c1, 6, .inr (.inl (fun _ => 0)))), (q2, .inl (c2, 5, .inr (.inl (fun _ => 0)))), (q3, .inl (c3, 24, .inl (fun _ => 0))), (q4, .inl (c4, 12, .inl (fun _ => 0))), (q5, .inl (c5, 18, .inl (fun _ => 0))), (q6, .inl (c6, 5, .inl (fun _ => 0)))] [(c0, .long), (c1, .long), (c2, .long), (c3, .int), (c4, .int), (c5, .int), (c6, .int)] 7 76
  exact x_vret hG ⟨q0, c0, q1, c1, q2, c2, q3, c3, q4, c4, q5, c5, q6, c6, rfl, rfl⟩ dX5_init_90
theorem dX7_init_0 : decode cX7_init 0 = .ok (.aload_n 0, 1) := by decide +kernel
theorem dX7_init_1 : decode cX7_init 1 = .ok (.invokespecial 3, 3) := by decide +kernel
theorem dX7_init_4 : decode cX7_init 4 = .ok (.aload_n 0, 1) := by decide +kernel
theorem dX7_init_5 : decode cX7_init 5 = .ok (.bipush 40, 2) := by decide +kernel
theorem dX7_init_7 : decode cX7_init 7 = .ok (.newarray .int, 2) := by decide +kernel
theorem dX7_init_9 : decode cX7_init 9 = .ok (.putfield 11, 3) := by decide +kernel
theorem dX7_init_12 : decode cX7_init 12 = .ok (.aload_n 0, 1) := by decide +kernel
theorem dX7_init_13 : decode cX7_init 13 = .ok (.bipush 40, 2) := by decide +kernel
theorem dX7_init_15 : decode cX7_init 15 = .ok (.newarray .int, 2) := by decide +kernel
theorem dX7_init_17 : decode cX7_init 17 = .ok (.putfield 15, 3) := by decide +kernel
theorem dX7_init_20 : decode cX7_init 20 = .ok (.aload_n 0, 1) := by decide +kernel
theorem dX7_init_21 : decode cX7_init 21 = .ok (.bipush 40, 2) := by decide +kernel
theorem dX7_init_23 : decode cX7_init 23 = .ok (.newarray .int, 2) := by decide +kernel
theorem dX7_init_25 : decode cX7_init 25 = .ok (.putfield 18, 3) := by decide +kernel
theorem dX7_init_28 : decode cX7_init 28 = .ok (.aload_n 0, 1) := by decide +kernel
theorem dX7_init_29 : decode cX7_init 29 = .ok (.iconst 0, 1) := by decide +kernel
theorem dX7_init_30 : decode cX7_init 30 = .ok (.putfield 21, 3) := by decide +kernel
theorem dX7_init_33 : decode cX7_init 33 = .ok (.aload_n 0, 1) := by decide +kernel
theorem dX7_init_34 : decode cX7_init 34 = .ok (.iconst 0, 1) := by decide +kernel
theorem dX7_init_35 : decode cX7_init 35 = .ok (.putfield 25, 3) := by decide +kernel
theorem dX7_init_38 : decode cX7_init 38 = .ok (.return_, 1) := by decide +kernel
theorem ct_X7 (h0 : Nat) : CtN [] { frames := 1, cells := 3, slots := 120, locals := 40 } yX7_init cX7_init 1 3 120 [.ref h0] [(h0, .inr (7, [.null, .null, .null, .int 0, .int 0]))] [] (fun w u => ∃ (q0 : Nat) (c0 : ClassId) (q1 : Nat) (c1 : ClassId) (q2 : Nat) (c2 : ClassId), w = [(h0, .inr (7, [.ref q0, .ref q1, .ref q2, .int 0, .int 0])), (q0, .inl (c0, 40, .inl (fun _ => 0))), (q1, .inl (c1, 40, .inl (fun _ => 0))), (q2, .inl (c2, 40, .inl (fun _ => 0)))] ∧ u = [(c0, .int), (c1, .int), (c2, .int)]) := by
  refine x_enter (own := RX7) (by decide) rfl rfl (Nat.le_of_ble_eq_true rfl) (lv := [(0, .ref h0)]) rfl (fun Γ hG hN => ?_)
  refine x_aload_n hG 0 rfl dX7_init_0 rfl ?_
  refine x_objInit hG tc_365 tc_148 tc_149 (by decide) (by decide) dX7_init_1 ?_
  refine x_aload_n hG 0 rfl dX7_init_4 rfl ?_
  refine x_bipush (v := 40) hG dX7_init_5 (by decide) ?_
  refine x_newa (atype := .int) (ty := .int) (N' := 40) (a0 := (40, .inl (fun _ => 0))) hG tc_238 rfl (fun _ => rfl) (by decide) (by decide) (by decide) (by decide) (by decide) dX7_init_7 (fun q0 c0 => ?_)
  refine x_putF (T := TX7) (ty := tyX7 0) hG ok_X7 cl_X7 0 rfl 0 (by decide) tc_366 rfl rfl (tyX7_ok 0 (by decide)) rfl rfl (Nat.le_of_ble_eq_true rfl) dX7_init_9 ?_
  show AC _ _ _ Γ 12 _ [] [(h0, .inr (7, [.ref q0, .null, .null, .int 0, .int 0])), (q0, .inl (c0, 40, .inl (fun _ => 0)))] [(c0, .int)] 1 40
  refine x_aload_n hG 0 rfl dX7_init_12 rfl ?_
  refine x_bipush (v := 40) hG dX7_init_13 (by decide) ?_
  refine x_newa (atype := .int) (ty := .int) (N' := 40) (a0 := (40, .inl (fun _ => 0))) hG tc_238 rfl (fun _ => rfl) (by decide) (by decide) (by decide) (by decide) (by decide) dX7_init_15 (fun q1 c1 => ?_)
  refine x_putF (T := TX7) (ty := tyX7 1) hG ok_X7 cl_X7 0 rfl 1 (by decide) tc_367 rfl rfl (tyX7_ok 1 (by decide)) rfl rfl (Nat.le_of_ble_eq_true rfl) dX7_init_17 ?_
  show AC _ _ _ Γ 20 _ [] [(h0, .inr (7, [.ref q0, .ref q1, .null, .int 0, .int 0])), (q0, .inl (c0, 40, .inl (fun _ => 0))), (q1, .inl (c1, 40, .inl (fun _ => 0)))] [(c0, .int), (c1, .int)] 2 80
  refine x_aload_n hG 0 rfl dX7_init_20 rfl ?_
  refine x_bipush (v := 40) hG dX7_init_21 (by decide) ?_
  refine x_newa (atype := .int) (ty := .int) (N' := 40) (a0 := (40, .inl (fun _ => 0))) hG tc_238 rfl (fun _ => rfl) (by decide) (by decide) (by decide) (by decide) (by decide) dX7_init_23 (fun q2 c2 => ?_)
  refine x_putF (T := TX7) (ty := tyX7 2) hG ok_X7 cl_X7 0 rfl 2 (by decide) tc_368 rfl rfl (tyX7_ok 2 (by decide)) rfl rfl (Nat.le_of_ble_eq_true rfl) dX7_init_25 ?_
  show AC _ _ _ Γ 28 _ [] [(h0, .inr (7, [.ref q0, .ref q1, .ref q2, .int 0, .int 0])), (q0, .inl (c0, 40, .inl (fun _ => 0))), (q1, .inl (c1, 40, .inl (fun _ => 0))), (q2, .inl (c2, 40, .inl (fun _ => 0)))] [(c0, .int), (c1, .int), (c2, .int)] 3 120
  refine x_aload_n hG 0 rfl dX7_init_28 rfl ?_
  refine x_iconst (v := 0) hG dX7_init_29 (by decide) ?_
  refine x_put (T := TX7) (ty := tyX7 3) hG ok_X7 cl_X7 0 rfl 3 (by decide) tc_369 rfl (tyX7_ok 3 (by decide)) rfl rfl (Nat.le_of_ble_eq_true rfl) dX7_init_30 ?_
  show AC _ _ _ Γ 33 _ [] [(h0, .inr (7, [.ref q0, .ref q1, .ref q2, .int 0, .int 0])), (q0, .inl (c0, 40, .inl (fun _ => 0))), (q1, .inl (c1, 40, .inl (fun _ => 0))), (q2, .inl (c2, 40, .inl (fun _ => 0)))] [(c0, .int), (c1, .int), (c2, .int)] 3 120
  refine x_aload_n hG 0 rfl dX7_init_33 rfl ?_
  refine x_iconst (v := 0) hG dX7_init_34 (by decide) ?_
  refine x_put (T := TX7) (ty := tyX7 4) hG ok_X7 cl_X7 0 rfl 4 (by decide) tc_370 rfl (tyX7_ok 4 (by decide)) rfl rfl (Nat.le_of_ble_eq_true rfl) dX7_init_35 ?_
  show AC _ _ _ Γ 38 _ [] [(h0, .inr (7, [.ref q0, .ref q1, .ref q2, .int 0, .int 0])), (q0, .inl (c0, 40, .inl (fun _ => 0))), (q1, .inl (c1, 40, .inl (fun _ => 0))), (q2, .inl (c2, 40, .inl (fun _ => 0)))] [(c0, .int), (c1, .int), (c2, .int)] 3 120
  exact x_vret hG ⟨q0, c0, q1, c1, q2, c2, rfl, rfl⟩ dX7_init_38
theorem dX6_init_0 : decode cX6_init 0 = .ok (.aload_n 0, 1) := by decide +kernel
theorem dX6_init_1 : decode cX6_init 1 = .ok (.invokespecial 3, 3) := by decide +kernel
theorem dX6_init_4 : decode cX6_init 4 = .ok (.aload_n 0, 1) := by decide +kernel
theorem dX6_init_5 : decode cX6_init 5 = .ok (.bipush 91, 2) := by decide +kernel
theorem dX6_init_7 : decode cX6_init 7 = .ok (.newarray .int, 2) := by decide +kernel
theorem dX6_init_9 : decode cX6_init 9 = .ok (.putfield 9, 3) := by decide +kernel
theorem dX6_init_12 : decode cX6_init 12 = .ok (.aload_n 0, 1) := by decide +kernel
theorem dX6_init_13 : decode cX6_init 13 = .ok (.aload_n 1, 1) := by decide +kernel
theorem dX6_init_14 : decode cX6_init 14 = .ok (.putfield 15, 3) := by decide +kernel
theorem dX6_init_17 : decode cX6_init 17 = .ok (.aload_n 0, 1) := by decide +kernel
theorem dX6_init_18 : decode cX6_init 18 = .ok (.aload_n 2, 1) := by decide +kernel
theorem dX6_init_19 : decode cX6_init 19 = .ok (.putfield 19, 3) := by decide +kernel
theorem dX6_init_22 : decode cX6_init 22 = .ok (.aload_n 0, 1) := by decide +kernel
theorem dX6_init_23 : decode cX6_init 23 = .ok (.aload_n 3, 1) := by decide +kernel
theorem dX6_init_24 : decode cX6_init 24 = .ok (.putfield 23, 3) := by decide +kernel
theorem dX6_init_27 : decode cX6_init 27 = .ok (.return_, 1) := by decide +kernel
theorem ct_X6 (h0 a1 a2 a3 : Nat) : CtN [] { frames := 1, cells := 1, slots := 91, locals := 40 } yX6_init cX6_init 4 1 91 [.ref h0, .ref a1, .ref a2, .ref a3] [(h0, .inr (6, [.null, .null, .null, .null, .int 0]))] [] (fun w u => ∃ (q0 : Nat) (c0 : ClassId), w = [(h0, .inr (6, [.ref a1, .ref a2, .ref a3, .ref q0, .int 0])), (q0, .inl (c0, 91, .inl (fun _ => 0)))] ∧ u = [(c0, .int)]) := by
  refine x_enter (own := RX6) (by decide) rfl rfl (Nat.le_of_ble_eq_true rfl) (lv := [(0, .ref h0), (1, .ref a1), (2, .ref a2), (3, .ref a3)]) rfl (fun Γ hG hN => ?_)
  refine x_aload_n hG 0 rfl dX6_init_0 rfl ?_
  refine x_objInit hG tc_315 tc_148 tc_149 (by decide) (by decide) dX6_init_1 ?_
  refine x_aload_n hG 0 rfl dX6_init_4 rfl ?_
  refine x_bipush (v := 91) hG dX6_init_5 (by decide) ?_
  refine x_newa (atype := .int) (ty := .int) (N' := 91) (a0 := (91, .inl (fun _ => 0))) hG tc_238 rfl (fun _ => rfl) (by decide) (by decide) (by decide) (by decide) (by decide) dX6_init_7 (fun q0 c0 => ?_)
  refine x_putF (T := TX6) (ty := tyX6 3) hG ok_X6 cl_X6 0 rfl 3 (by decide) tc_319 rfl rfl (tyX6_ok 3 (by decide)) rfl rfl (Nat.le_of_ble_eq_true rfl) dX6_init_9 ?_
  show AC _ _ _ Γ 12 _ [] [(h0, .inr (6, [.null, .null, .null, .ref q0, .int 0])), (q0, .inl (c0, 91, .inl (fun _ => 0)))] [(c0, .int)] 1 91
  refine x_aload_n hG 0 rfl dX6_init_12 rfl ?_
  refine x_aload_n hG 1 rfl dX6_init_13 rfl ?_
  refine x_putF (T := TX6) (ty := tyX6 0) hG ok_X6 cl_X6 0 rfl 0 (by decide) tc_316 rfl rfl (tyX6_ok 0 (by decide)) rfl rfl (Nat.le_of_ble_eq_true rfl) dX6_init_14 ?_
  show AC _ _ _ Γ 17 _ [] [(h0, .inr (6, [.ref a1, .null, .null, .ref q0, .int 0])), (q0, .inl (c0, 91, .inl (fun _ => 0)))] [(c0, .int)] 1 91
  refine x_aload_n hG 0 rfl dX6_init_17 rfl ?_
  refine x_aload_n hG 2 rfl dX6_init_18 rfl ?_
  refine x_putF (T := TX6) (ty := tyX6 1) hG ok_X6 cl_X6 0 rfl 1 (by decide) tc_317 rfl rfl (tyX6_ok 1 (by decide)) rfl rfl (Nat.le_of_ble_eq_true rfl) dX6_init_19 ?_
  show AC _ _ _ Γ 22 _ [] [(h0, .inr (6, [.ref a1, .ref a2, .null, .ref q0, .int 0])), (q0, .inl (c0, 91, .inl (fun _ => 0)))] [(c0, .int)] 1 91
  refine x_aload_n hG 0 rfl dX6_init_22 rfl ?_
  refine x_aload_n hG 3 rfl dX6_init_23 rfl ?_
  refine x_putF (T := TX6) (ty := tyX6 2) hG ok_X6 cl_X6 0 rfl 2 (by decide) tc_318 rfl rfl (tyX6_ok 2 (by decide)) rfl rfl (Nat.le_of_ble_eq_true rfl) dX6_init_24 ?_
  show AC _ _ _ Γ 27 _ [] [(h0, .inr (6, [.ref a1, .ref a2, .ref a3, .ref q0, .int 0])), (q0, .inl (c0, 91, .inl (fun _ => 0)))] [(c0, .int)] 1 91
  exact x_vret hG ⟨q0, c0, rfl, rfl⟩ dX6_init_27
theorem dX9_init_0 : decode cX9_init 0 = .ok (.aload_n 0, 1) := by decide +kernel
theorem dX9_init_1 : decode cX9_init 1 = .ok (.invokespecial 3, 3) := by decide +kernel
theorem dX9_init_4 : decode cX9_init 4 = .ok (.aload_n 0, 1) := by decide +kernel
theorem dX9_init_5 : decode cX9_init 5 = .ok (.bipush 64, 2) := by decide +kernel
theorem dX9_init_7 : decode cX9_init 7 = .ok (.newarray .int, 2) := by decide +kernel
theorem dX9_init_9 : decode cX9_init 9 = .ok (.putfield 9, 3) := by decide +kernel
theorem dX9_init_12 : decode cX9_init 12 = .ok (.aload_n 0, 1) := by decide +kernel
theorem dX9_init_13 : decode cX9_init 13 = .ok (.bipush 64, 2) := by decide +kernel
theorem dX9_init_15 : decode cX9_init 15 = .ok (.newarray .int, 2) := by decide +kernel
theorem dX9_init_17 : decode cX9_init 17 = .ok (.putfield 15, 3) := by decide +kernel
theorem dX9_init_20 : decode cX9_init 20 = .ok (.aload_n 0, 1) := by decide +kernel
theorem dX9_init_21 : decode cX9_init 21 = .ok (.bipush 64, 2) := by decide +kernel
theorem dX9_init_23 : decode cX9_init 23 = .ok (.newarray .int, 2) := by decide +kernel
theorem dX9_init_25 : decode cX9_init 25 = .ok (.putfield 18, 3) := by decide +kernel
theorem dX9_init_28 : decode cX9_init 28 = .ok (.aload_n 0, 1) := by decide +kernel
theorem dX9_init_29 : decode cX9_init 29 = .ok (.bipush 64, 2) := by decide +kernel
theorem dX9_init_31 : decode cX9_init 31 = .ok (.newarray .int, 2) := by decide +kernel
theorem dX9_init_33 : decode cX9_init 33 = .ok (.putfield 21, 3) := by decide +kernel
theorem dX9_init_36 : decode cX9_init 36 = .ok (.aload_n 0, 1) := by decide +kernel
theorem dX9_init_37 : decode cX9_init 37 = .ok (.iconst 1, 1) := by decide +kernel
theorem dX9_init_38 : decode cX9_init 38 = .ok (.putfield 24, 3) := by decide +kernel
theorem dX9_init_41 : decode cX9_init 41 = .ok (.aload_n 0, 1) := by decide +kernel
theorem dX9_init_42 : decode cX9_init 42 = .ok (.aload_n 1, 1) := by decide +kernel
theorem dX9_init_43 : decode cX9_init 43 = .ok (.putfield 28, 3) := by decide +kernel
theorem dX9_init_46 : decode cX9_init 46 = .ok (.aload_n 0, 1) := by decide +kernel
theorem dX9_init_47 : decode cX9_init 47 = .ok (.aload_n 2, 1) := by decide +kernel
theorem dX9_init_48 : decode cX9_init 48 = .ok (.putfield 32, 3) := by decide +kernel
theorem dX9_init_51 : decode cX9_init 51 = .ok (.return_, 1) := by decide +kernel
theorem ct_X9 (h0 a1 a2 : Nat) : CtN [] { frames := 1, cells := 4, slots := 256, locals := 40 } yX9_init cX9_init 3 4 256 [.ref h0, .ref a1, .ref a2] [(h0, .inr (9, [.null, .null, .null, .null, .null, .null, .int 0]))] [] (fun w u => ∃ (q0 : Nat) (c0 : ClassId) (q1 : Nat) (c1 : ClassId) (q2 : Nat) (c2 : ClassId) (q3 : Nat) (c3 : ClassId), w = [(h0, .inr (9, [.ref a1, .ref a2, .ref q0, .ref q1, .ref q2, .ref q3, .int 1])), (q0, .inl (c0, 64, .inl (fun _ => 0))), (q1, .inl (c1, 64, .inl (fun _ => 0))), (q2, .inl (c2, 64, .inl (fun _ => 0))), (q3, .inl (c3, 64, .inl (fun _ => 0)))] ∧ u = [(c0, .int), (c1, .int), (c2, .int), (c3, .int)]) := by
  refine x_enter (own := RX9) (by decide) rfl rfl (Nat.le_of_ble_eq_true rfl) (lv := [(0, .ref h0), (1, .ref a1), (2, .ref a2)]) rfl (fun Γ hG hN => ?_)
  refine x_aload_n hG 0 rfl dX9_init_0 rfl ?_
  refine x_objInit hG tc_287 tc_148 tc_149 (by decide) (by decide) dX9_init_1 ?_
  refine x_aload_n hG 0 rfl dX9_init_4 rfl ?_
  refine x_bipush (v := 64) hG dX9_init_5 (by decide) ?_
  refine x_newa (atype := .int) (ty := .int) (N' := 64) (a0 := (64, .inl (fun _ => 0))) hG tc_238 rfl (fun _ => rfl) (by decide) (by decide) (by decide) (by decide) (by decide) dX9_init_7 (fun q0 c0 => ?_)
  refine x_putF (T := TX9) (ty := tyX9 2) hG ok_X9 cl_X9 0 rfl 2 (by decide) tc_290 rfl rfl (tyX9_ok 2 (by decide)) rfl rfl (Nat.le_of_ble_eq_true rfl) dX9_init_9 ?_
  show AC _ _ _ Γ 12 _ [] [(h0, .inr (9, [.null, .null, .ref q0, .null, .null, .null, .int 0])), (q0, .inl (c0, 64, .inl (fun _ => 0)))] [(c0, .int)] 1 64
  refine x_aload_n hG 0 rfl dX9_init_12 rfl ?_
  refine x_bipush (v := 64) hG dX9_init_13 (by decide) ?_
  refine x_newa (atype := .int) (ty := .int) (N' := 64) (a0 := (64, .inl (fun _ => 0))) hG tc_238 rfl (fun _ => rfl) (by decide) (by decide) (by decide) (by decide) (by decide) dX9_init_15 (fun q1 c1 => ?_)
  refine x_putF (T := TX9) (ty := tyX9 3) hG ok_X9 cl_X9 0 rfl 3 (by decide) tc_291 rfl rfl (tyX9_ok 3 (by decide)) rfl rfl (Nat.le_of_ble_eq_true rfl) dX9_init_17 ?_
  show AC _ _ _ Γ 20 _ [] [(h0, .inr (9, [.null, .null, .ref q0, .ref q1, .null, .null, .int 0])), (q0, .inl (c0, 64, .inl (fun _ => 0))), (q1, .inl (c1, 64, .inl (fun _ => 0)))] [(c0, .int), (c1, .int)] 2 128
  refine x_aload_n hG 0 rfl dX9_init_20 rfl ?_
  refine x_bipush (v := 64) hG dX9_init_21 (by decide) ?_
  refine x_newa (atype := .int) (ty := .int) (N' := 64) (a0 := (64, .inl (fun _ => 0))) hG tc_238 rfl (fun _ => rfl) (by decide) (by decide) (by decide) (by decide) (by decide) dX9_init_23 (fun q2 c2 => ?_)
  refine x_putF (T := TX9) (ty := tyX9 4) hG ok_X9 cl_X9 0 rfl 4 (by decide) tc_292 rfl rfl (tyX9_ok 4 (by decide)) rfl rfl (Nat.le_of_ble_eq_true rfl) dX9_init_25 ?_
  show AC _ _ _ Γ 28 _ [] [(h0, .inr (9, [.null, .null, .ref q0, .ref q1, .ref q2, .null, .int 0])), (q0, .inl (c0, 64, .inl (fun _ => 0))), (q1, .inl (c1, 64, .inl (fun _ => 0))), (q2, .inl (c2, 64, .inl (fun _ => 0)))] [(c0, .int), (c1, .int), (c2, .int)] 3 192
  refine x_aload_n hG 0 rfl dX9_init_28 rfl ?_
  refine x_bipush (v := 64) hG dX9_init_29 (by decide) ?_
  refine x_newa (atype := .int) (ty := .int) (N' := 64) (a0 := (64, .inl (fun _ => 0))) hG tc_238 rfl (fun _ => rfl) (by decide) (by decide) (by decide) (by decide) (by decide) dX9_init_31 (fun q3 c3 => ?_)
  refine x_putF (T := TX9) (ty := tyX9 5) hG ok_X9 cl_X9 0 rfl 5 (by decide) tc_293 rfl rfl (tyX9_ok 5 (by decide)) rfl rfl (Nat.le_of_ble_eq_true rfl) dX9_init_33 ?_
  show AC _ _ _ Γ 36 _ [] [(h0, .inr (9, [.null, .null, .ref q0, .ref q1, .ref q2, .ref q3, .int 0])), (q0, .inl (c0, 64, .inl (fun _ => 0))), (q1, .inl (c1, 64, .inl (fun _ => 0))), (q2, .inl (c2, 64, .inl (fun _ => 0))), (q3, .inl (c3, 64, .inl (fun _ => 0)))] [(c0, .int), (c1, .int), (c2, .int), (c3, .int)] 4 256
  refine x_aload_n hG 0 rfl dX9_init_36 rfl ?_
  refine x_iconst (v := 1) hG dX9_init_37 (by decide) ?_
  refine x_put (T := TX9) (ty := tyX9 6) hG ok_X9 cl_X9 0 rfl 6 (by decide) tc_294 rfl (tyX9_ok 6 (by decide)) rfl rfl (Nat.le_of_ble_eq_true rfl) dX9_init_38 ?_
  show AC _ _ _ Γ 41 _ [] [(h0, .inr (9, [.null, .null, .ref q0, .ref q1, .ref q2, .ref q3, .int 1])), (q0, .inl (c0, 64, .inl (fun _ => 0))), (q1, .inl (c1, 64, .inl (fun _ => 0))), (q2, .inl (c2, 64, .inl (fun _ => 0))), (q3, .inl (c3, 64, .inl (fun _ => 0)))] [(c0, .int), (c1, .int), (c2, .int), (c3, .int)] 4 256
  refine x_aload_n hG 0 rfl dX9_init_41 rfl ?_
  refine x_aload_n hG 1 rfl dX9_init_42 rfl ?_
  refine x_putF (T := TX9) (ty := tyX9 0) hG ok_X9 cl_X9 0 rfl 0 (by decide) tc_288 rfl rfl (tyX9_ok 0 (by decide)) rfl rfl (Nat.le_of_ble_eq_true rfl) dX9_init_43 ?_
  show AC _ _ _ Γ 46 _ [] [(h0, .inr (9, [.ref a1, .null, .ref q0, .ref q1, .ref q2, .ref q3, .int 1])), (q0, .inl (c0, 64, .inl (fun _ => 0))), (q1, .inl (c1, 64, .inl (fun _ => 0))), (q2, .inl (c2, 64, .inl (fun _ => 0))), (q3, .inl (c3, 64, .inl (fun _ => 0)))] [(c0, .int), (c1, .int), (c2, .int), (c3, .int)] 4 256
  refine x_aload_n hG 0 rfl dX9_init_46 rfl ?_
  refine x_aload_n hG 2 rfl dX9_init_47 rfl ?_
  refine x_putF (T := TX9) (ty := tyX9 1) hG ok_X9 cl_X9 0 rfl 1 (by decide) tc_289 rfl rfl (tyX9_ok 1 (by decide)) rfl rfl (Nat.le_of_ble_eq_true rfl) dX9_init_48 ?_
  show AC _ _ _ Γ 51 _ [] [(h0, .inr (9, [.ref a1, .ref a2, .ref q0, .ref q1, .ref q2, .ref q3, .int 1])), (q0, .inl (c0, 64, .inl (fun _ => 0))), (q1, .inl (c1, 64, .inl (fun _ => 0))), (q2, .inl (c2, 64, .inl (fun _ => 0))), (q3, .inl (c3, 64, .inl (fun _ => 0)))] [(c0, .int), (c1, .int), (c2, .int), (c3, .int)] 4 256
  exact x_vret hG ⟨q0, c0, q1, c1, q2, c2, q3, c3, rfl, rfl⟩ dX9_init_51
theorem dX2_init_0 : decode cX2_init 0 = .ok (.aload_n 0, 1) := by decide +kernel
theorem dX2_init_1 : decode cX2_init 1 = .ok (.invokespecial 3, 3) := by decide +kernel
theorem dX2_init_4 : decode cX2_init 4 = .ok (.aload_n 0, 1) := by decide +kernel
theorem dX2_init_5 : decode cX2_init 5 = .ok (.bipush 40, 2) := by decide +kernel
theorem dX2_init_7 : decode cX2_init 7 = .ok (.newarray .int, 2) := by decide +kernel
theorem dX2_init_9 : decode cX2_init 9 = .ok (.putfield 9, 3) := by decide +kernel
theorem dX2_init_12 : decode cX2_init 12 = .ok (.aload_n 0, 1) := by decide +kernel
theorem dX2_init_13 : decode cX2_init 13 = .ok (.bipush 40, 2) := by decide +kernel
theorem dX2_init_15 : decode cX2_init 15 = .ok (.newarray .int, 2) := by decide +kernel
theorem dX2_init_17 : decode cX2_init 17 = .ok (.putfield 15, 3) := by decide +kernel
theorem dX2_init_20 : decode cX2_init 20 = .ok (.aload_n 0, 1) := by decide +kernel
theorem dX2_init_21 : decode cX2_init 21 = .ok (.bipush 40, 2) := by decide +kernel
theorem dX2_init_23 : decode cX2_init 23 = .ok (.newarray .int, 2) := by decide +kernel
theorem dX2_init_25 : decode cX2_init 25 = .ok (.putfield 18, 3) := by decide +kernel
theorem dX2_init_28 : decode cX2_init 28 = .ok (.aload_n 0, 1) := by decide +kernel
theorem dX2_init_29 : decode cX2_init 29 = .ok (.iconst 0, 1) := by decide +kernel
theorem dX2_init_30 : decode cX2_init 30 = .ok (.putfield 21, 3) := by decide +kernel
theorem dX2_init_33 : decode cX2_init 33 = .ok (.aload_n 0, 1) := by decide +kernel
theorem dX2_init_34 : decode cX2_init 34 = .ok (.iconst 0, 1) := by decide +kernel
theorem dX2_init_35 : decode cX2_init 35 = .ok (.putfield 25, 3) := by decide +kernel
theorem dX2_init_38 : decode cX2_init 38 = .ok (.aload_n 0, 1) := by decide +kernel
theorem dX2_init_39 : decode cX2_init 39 = .ok (.aload_n 1, 1) := by decide +kernel
theorem dX2_init_40 : decode cX2_init 40 = .ok (.putfield 28, 3) := by decide +kernel
theorem dX2_init_43 : decode cX2_init 43 = .ok (.aload_n 0, 1) := by decide +kernel
theorem dX2_init_44 : decode cX2_init 44 = .ok (.aload_n 2, 1) := by decide +kernel
theorem dX2_init_45 : decode cX2_init 45 = .ok (.putfield 32, 3) := by decide +kernel
theorem dX2_init_48 : decode cX2_init 48 = .ok (.return_, 1) := by decide +kernel
theorem ct_X2 (h0 a1 a2 : Nat) : CtN [] { frames := 1, cells := 3, slots := 120, locals := 40 } yX2_init cX2_init 3 3 120 [.ref h0, .ref a1, .ref a2] [(h0, .inr (2, [.null, .null, .null, .null, .null, .int 0, .int 0]))] [] (fun w u => ∃ (q0 : Nat) (c0 : ClassId) (q1 : Nat) (c1 : ClassId) (q2 : Nat) (c2 : ClassId), w = [(h0, .inr (2, [.ref a1, .ref a2, .ref q0, .ref q1, .ref q2, .int 0, .int 0])), (q0, .inl (c0, 40, .inl (fun _ => 0))), (q1, .inl (c1, 40, .inl (fun _ => 0))), (q2, .inl (c2, 40, .inl (fun _ => 0)))] ∧ u = [(c0, .int), (c1, .int), (c2, .int)]) := by
  refine x_enter (own := RX2) (by decide) rfl rfl (Nat.le_of_ble_eq_true rfl) (lv := [(0, .ref h0), (1, .ref a1), (2, .ref a2)]) rfl (fun Γ hG hN => ?_)
  refine x_aload_n hG 0 rfl dX2_init_0 rfl ?_
  refine x_objInit hG tc_337 tc_148 tc_149 (by decide) (by decide) dX2_init_1 ?_
  refine x_aload_n hG 0 rfl dX2_init_4 rfl ?_
  refine x_bipush (v := 40) hG dX2_init_5 (by decide) ?_
  refine x_newa (atype := .int) (ty := .int) (N' := 40) (a0 := (40, .inl (fun _ => 0))) hG tc_238 rfl (fun _ => rfl) (by decide) (by decide) (by decide) (by decide) (by decide) dX2_init_7 (fun q0 c0 => ?_)
  refine x_putF (T := TX2) (ty := tyX2 2) hG ok_X2 cl_X2 0 rfl 2 (by decide) tc_340 rfl rfl (tyX2_ok 2 (by decide)) rfl rfl (Nat.le_of_ble_eq_true rfl) dX2_init_9 ?_
  show AC _ _ _ Γ 12 _ [] [(h0, .inr (2, [.null, .null, .ref q0, .null, .null, .int 0, .int 0])), (q0, .inl (c0, 40, .inl (fun _ => 0)))] [(c0, .int)] 1 40
  refine x_aload_n hG 0 rfl dX2_init_12 rfl ?_
  refine x_bipush (v := 40) hG dX2_init_13 (by decide) ?_
  refine x_newa (atype := .int) (ty := .int) (N' := 40) (a0 := (40, .inl (fun _ => 0))) hG tc_238 rfl (fun _ => rfl) (by decide) (by decide) (by decide) (by decide) (by decide) dX2_init_15 (fun q1 c1 => ?_)
  refine x_putF (T := TX2) (ty := tyX2 3) hG ok_X2 cl_X2 0 rfl 3 (by decide) tc_341 rfl rfl (tyX2_ok 3 (by decide)) rfl rfl (Nat.le_of_ble_eq_true rfl) dX2_init_17 ?_
  show AC _ _ _ Γ 20 _ [] [(h0, .inr (2, [.null, .null, .ref q0, .ref q1, .null, .int 0, .int 0])), (q0, .inl (c0, 40, .inl (fun _ => 0))), (q1, .inl (c1, 40, .inl (fun _ => 0)))] [(c0, .int), (c1, .int)] 2 80
  refine x_aload_n hG 0 rfl dX2_init_20 rfl ?_
  refine x_bipush (v := 40) hG dX2_init_21 (by decide) ?_
  refine x_newa (atype := .int) (ty := .int) (N' := 40) (a0 := (40, .inl (fun _ => 0))) hG tc_238 rfl (fun _ => rfl) (by decide) (by decide) (by decide) (by decide) (by decide) dX2_init_23 (fun q2 c2 => ?_)
  refine x_putF (T := TX2) (ty := tyX2 4) hG ok_X2 cl_X2 0 rfl 4 (by decide) tc_342 rfl rfl (tyX2_ok 4 (by decide)) rfl rfl (Nat.le_of_ble_eq_true rfl) dX2_init_25 ?_
  show AC _ _ _ Γ 28 _ [] [(h0, .inr (2, [.null, .null, .ref q0, .ref q1, .ref q2, .int 0, .int 0])), (q0, .inl (c0, 40, .inl (fun _ => 0))), (q1, .inl (c1, 40, .inl (fun _ => 0))), (q2, .inl (c2, 40, .inl (fun _ => 0)))] [(c0, .int), (c1, .int), (c2, .int)] 3 120
  refine x_aload_n hG 0 rfl dX2_init_28 rfl ?_
  refine x_iconst (v := 0) hG dX2_init_29 (by decide) ?_
  refine x_put (T := TX2) (ty := tyX2 5) hG ok_X2 cl_X2 0 rfl 5 (by decide) tc_343 rfl (tyX2_ok 5 (by decide)) rfl rfl (Nat.le_of_ble_eq_true rfl) dX2_init_30 ?_
  show AC _ _ _ Γ 33 _ [] [(h0, .inr (2, [.null, .null, .ref q0, .ref q1, .ref q2, .int 0, .int 0])), (q0, .inl (c0, 40, .inl (fun _ => 0))), (q1, .inl (c1, 40, .inl (fun _ => 0))), (q2, .inl (c2, 40, .inl (fun _ => 0)))] [(c0, .int), (c1, .int), (c2, .int)] 3 120
  refine x_aload_n hG 0 rfl dX2_init_33 rfl ?_
  refine x_iconst (v := 0) hG dX2_init_34 (by decide) ?_
  refine x_put (T := TX2) (ty := tyX2 6) hG ok_X2 cl_X2 0 rfl 6 (by decide) tc_344 rfl (tyX2_ok 6 (by decide)) rfl rfl (Nat.le_of_ble_eq_true rfl) dX2_init_35 ?_
  show AC _ _ _ Γ 38 _ [] [(h0, .inr (2, [.null, .null, .ref q0, .ref q1, .ref q2, .int 0, .int 0])), (q0, .inl (c0, 40, .inl (fun _ => 0))), (q1, .inl (c1, 40, .inl (fun _ => 0))), (q2, .inl (c2, 40, .inl (fun _ => 0)))] [(c0, .int), (c1, .int), (c2, .int)] 3 120
  refine x_aload_n hG 0 rfl dX2_init_38 rfl ?_
  refine x_aload_n hG 1 rfl dX2_init_39 rfl ?_
  refine x_putF (T := TX2) (ty := tyX2 0) hG ok_X2 cl_X2 0 rfl 0 (by decide) tc_338 rfl rfl (tyX2_ok 0 (by decide)) rfl rfl (Nat.le_of_ble_eq_true rfl) dX2_init_40 ?_
  show AC _ _ _ Γ 43 _ [] [(h0, .inr (2, [.ref a1, .null, .ref q0, .ref q1, .ref q2, .int 0, .int 0])), (q0, .inl (c0, 40, .inl (fun _ => 0))), (q1, .inl (c1, 40, .inl (fun _ => 0))), (q2, .inl (c2, 40, .inl (fun _ => 0)))] [(c0, .int), (c1, .int), (c2, .int)] 3 120
  refine x_aload_n hG 0 rfl dX2_init_43 rfl ?_
  refine x_aload_n hG 2 rfl dX2_init_44 rfl ?_
  refine x_putF (T := TX2) (ty := tyX2 1) hG ok_X2 cl_X2 0 rfl 1 (by decide) tc_339 rfl rfl (tyX2_ok 1 (by decide)) rfl rfl (Nat.le_of_ble_eq_true rfl) dX2_init_45 ?_
  show AC _ _ _ Γ 48 _ [] [(h0, .inr (2, [.ref a1, .ref a2, .ref q0, .ref q1, .ref q2, .int 0, .int 0])), (q0, .inl (c0, 40, .inl (fun _ => 0))), (q1, .inl (c1, 40, .inl (fun _ => 0))), (q2, .inl (c2, 40, .inl (fun _ => 0)))] [(c0, .int), (c1, .int), (c2, .int)] 3 120
  exact x_vret hG ⟨q0, c0, q1, c1, q2, c2, rfl, rfl⟩ dX2_init_48
theorem dX4_init_0 : decode cX4_init 0 = .ok (.aload_n 0, 1) := by decide +kernel
theorem dX4_init_1 : decode cX4_init 1 = .ok (.invokespecial 3, 3) := by decide +kernel
theorem dX4_init_4 : decode cX4_init 4 = .ok (.aload_n 0, 1) := by decide +kernel
theorem dX4_init_5 : decode cX4_init 5 = .ok (.aload_n 1, 1) := by decide +kernel
theorem dX4_init_6 : decode cX4_init 6 = .ok (.putfield 9, 3) := by decide +kernel
theorem dX4_init_9 : decode cX4_init 9 = .ok (.aload_n 0, 1) := by decide +kernel
theorem dX4_init_10 : decode cX4_init 10 = .ok (.aload_n 2, 1) := by decide +kernel
theorem dX4_init_11 : decode cX4_init 11 = .ok (.putfield 15, 3) := by decide +kernel
theorem dX4_init_14 : decode cX4_init 14 = .ok (.return_, 1) := by decide +kernel
theorem ct_X4 (h0 a1 a2 : Nat) : CtN [] { frames := 1, cells := 0, slots := 0, locals := 40 } yX4_init cX4_init 3 0 0 [.ref h0, .ref a1, .ref a2] [(h0, .inr (4, [.null, .null, .int 0, .int 0]))] [] (fun w u => w = [(h0, .inr (4, [.ref a1, .ref a2, .int 0, .int 0]))] ∧ u = []) := by
  refine x_enter (own := RX4) (by decide) rfl rfl (Nat.le_of_ble_eq_true rfl) (lv := [(0, .ref h0), (1, .ref a1), (2, .ref a2)]) rfl (fun Γ hG hN => ?_)
  refine x_aload_n hG 0 rfl dX4_init_0 rfl ?_
  refine x_objInit hG tc_244 tc_148 tc_149 (by decide) (by decide) dX4_init_1 ?_
  refine x_aload_n hG 0 rfl dX4_init_4 rfl ?_
  refine x_aload_n hG 1 rfl dX4_init_5 rfl ?_
  refine x_putF (T := TX4) (ty := tyX4 0) hG ok_X4 cl_X4 0 rfl 0 (by decide) tc_245 rfl rfl (tyX4_ok 0 (by decide)) rfl rfl (Nat.le_of_ble_eq_true rfl) dX4_init_6 ?_
  show AC _ _ _ Γ 9 _ [] [(h0, .inr (4, [.ref a1, .null, .int 0, .int 0]))] [] 0 0
  refine x_aload_n hG 0 rfl dX4_init_9 rfl ?_
  refine x_aload_n hG 2 rfl dX4_init_10 rfl ?_
  refine x_putF (T := TX4) (ty := tyX4 1) hG ok_X4 cl_X4 0 rfl 1 (by decide) tc_246 rfl rfl (tyX4_ok 1 (by decide)) rfl rfl (Nat.le_of_ble_eq_true rfl) dX4_init_11 ?_
  show AC _ _ _ Γ 14 _ [] [(h0, .inr (4, [.ref a1, .ref a2, .int 0, .int 0]))] [] 0 0
  exact x_vret hG ⟨rfl, rfl⟩ dX4_init_14
theorem dX3_init_0 : decode cX3_init 0 = .ok (.aload_n 0, 1) := by decide +kernel
theorem dX3_init_1 : decode cX3_init 1 = .ok (.invokespecial 3, 3) := by decide +kernel
theorem dX3_init_4 : decode cX3_init 4 = .ok (.aload_n 0, 1) := by decide +kernel
theorem dX3_init_5 : decode cX3_init 5 = .ok (.bipush 30, 2) := by decide +kernel
theorem dX3_init_7 : decode cX3_init 7 = .ok (.newarray .int, 2) := by decide +kernel
theorem dX3_init_9 : decode cX3_init 9 = .ok (.putfield 9, 3) := by decide +kernel
theorem dX3_init_12 : decode cX3_init 12 = .ok (.aload_n 0, 1) := by decide +kernel
theorem dX3_init_13 : decode cX3_init 13 = .ok (.iconst 5, 1) := by decide +kernel
theorem dX3_init_14 : decode cX3_init 14 = .ok (.newarray .int, 2) := by decide +kernel
theorem dX3_init_16 : decode cX3_init 16 = .ok (.putfield 15, 3) := by decide +kernel
theorem dX3_init_19 : decode cX3_init 19 = .ok (.aload_n 0, 1) := by decide +kernel
theorem dX3_init_20 : decode cX3_init 20 = .ok (.iconst 5, 1) := by decide +kernel
theorem dX3_init_21 : decode cX3_init 21 = .ok (.newarray .int, 2) := by decide +kernel
theorem dX3_init_23 : decode cX3_init 23 = .ok (.dup, 1) := by decide +kernel
theorem dX3_init_24 : decode cX3_init 24 = .ok (.iconst 0, 1) := by decide +kernel
theorem dX3_init_25 : decode cX3_init 25 = .ok (.iconst (-1), 1) := by decide +kernel
theorem dX3_init_26 : decode cX3_init 26 = .ok (.iastore, 1) := by decide +kernel
theorem dX3_init_27 : decode cX3_init 27 = .ok (.dup, 1) := by decide +kernel
theorem dX3_init_28 : decode cX3_init 28 = .ok (.iconst 1, 1) := by decide +kernel
theorem dX3_init_29 : decode cX3_init 29 = .ok (.iconst (-1), 1) := by decide +kernel
theorem dX3_init_30 : decode cX3_init 30 = .ok (.iastore, 1) := by decide +kernel
theorem dX3_init_31 : decode cX3_init 31 = .ok (.dup, 1) := by decide +kernel
theorem dX3_init_32 : decode cX3_init 32 = .ok (.iconst 2, 1) := by decide +kernel
theorem dX3_init_33 : decode cX3_init 33 = .ok (.iconst (-1), 1) := by decide +kernel
theorem dX3_init_34 : decode cX3_init 34 = .ok (.iastore, 1) := by decide +kernel
theorem dX3_init_35 : decode cX3_init 35 = .ok (.dup, 1) := by decide +kernel
theorem dX3_init_36 : decode cX3_init 36 = .ok (.iconst 3, 1) := by decide +kernel
theorem dX3_init_37 : decode cX3_init 37 = .ok (.iconst (-1), 1) := by decide +kernel
theorem dX3_init_38 : decode cX3_init 38 = .ok (.iastore, 1) := by decide +kernel
theorem dX3_init_39 : decode cX3_init 39 = .ok (.dup, 1) := by decide +kernel
theorem dX3_init_40 : decode cX3_init 40 = .ok (.iconst 4, 1) := by decide +kernel
theorem dX3_init_41 : decode cX3_init 41 = .ok (.iconst (-1), 1) := by decide +kernel
theorem dX3_init_42 : decode cX3_init 42 = .ok (.iastore, 1) := by decide +kernel
theorem dX3_init_43 : decode cX3_init 43 = .ok (.putfield 18, 3) := by decide +kernel
theorem dX3_init_46 : decode cX3_init 46 = .ok (.aload_n 0, 1) := by decide +kernel
theorem dX3_init_47 : decode cX3_init 47 = .ok (.aload_n 1, 1) := by decide +kernel
theorem dX3_init_48 : decode cX3_init 48 = .ok (.putfield 21, 3) := by decide +kernel
theorem dX3_init_51 : decode cX3_init 51 = .ok (.aload_n 0, 1) := by decide +kernel
theorem dX3_init_52 : decode cX3_init 52 = .ok (.aload_n 2, 1) := by decide +kernel
theorem dX3_init_53 : decode cX3_init 53 = .ok (.putfield 25, 3) := by decide +kernel
theorem dX3_init_56 : decode cX3_init 56 = .ok (.aload_n 0, 1) := by decide +kernel
theorem dX3_init_57 : decode cX3_init 57 = .ok (.aload_n 3, 1) := by decide +kernel
theorem dX3_init_58 : decode cX3_init 58 = .ok (.putfield 29, 3) := by decide +kernel
theorem dX3_init_61 : decode cX3_init 61 = .ok (.return_, 1) := by decide +kernel
theorem ct_X3 (h0 a1 a2 a3 : Nat) : CtN [] { frames := 1, cells := 3, slots := 40, locals := 40 } yX3_init cX3_init 4 3 40 [.ref h0, .ref a1, .ref a2, .ref a3] [(h0, .inr (3, [.null, .null, .null, .null, .null, .null, .int 0]))] [] (fun w u => ∃ (q0 : Nat) (c0 : ClassId) (q1 : Nat) (c1 : ClassId) (q2 : Nat) (c2 : ClassId), w = [(h0, .inr (3, [.ref a1, .ref a2, .ref a3, .ref q0, .ref q1, .ref q2, .int 0])), (q0, .inl (c0, 30, .inl (fun _ => 0))), (q1, .inl (c1, 5, .inl (fun _ => 0))), (q2, .inl (c2, 5, .inl (upd (upd (upd (upd (upd (fun _ => 0) 0 (-1)) 1 (-1)) 2 (-1)) 3 (-1)) 4 (-1))))] ∧ u = [(c0, .int), (c1, .int), (c2, .int)]) := by
  refine x_enter (own := RX3) (by decide) rfl rfl (Nat.le_of_ble_eq_true rfl) (lv := [(0, .ref h0), (1, .ref a1), (2, .ref a2), (3, .ref a3)]) rfl (fun Γ hG hN => ?_)
  refine x_aload_n hG 0 rfl dX3_init_0 rfl ?_
  refine x_objInit hG tc_387 tc_148 tc_149 (by decide) (by decide) dX3_init_1 ?_
  refine x_aload_n hG 0 rfl dX3_init_4 rfl ?_
  refine x_bipush (v := 30) hG dX3_init_5 (by decide) ?_
  refine x_newa (atype := .int) (ty := .int) (N' := 30) (a0 := (30, .inl (fun _ => 0))) hG tc_238 rfl (fun _ => rfl) (by decide) (by decide) (by decide) (by decide) (by decide) dX3_init_7 (fun q0 c0 => ?_)
  refine x_putF (T := TX3) (ty := tyX3 3) hG ok_X3 cl_X3 0 rfl 3 (by decide) tc_391 rfl rfl (tyX3_ok 3 (by decide)) rfl rfl (Nat.le_of_ble_eq_true rfl) dX3_init_9 ?_
  show AC _ _ _ Γ 12 _ [] [(h0, .inr (3, [.null, .null, .null, .ref q0, .null, .null, .int 0])), (q0, .inl (c0, 30, .inl (fun _ => 0)))] [(c0, .int)] 1 30
  refine x_aload_n hG 0 rfl dX3_init_12 rfl ?_
  refine x_iconst (v := 5) hG dX3_init_13 (by decide) ?_
  refine x_newa (atype := .int) (ty := .int) (N' := 5) (a0 := (5, .inl (fun _ => 0))) hG tc_238 rfl (fun _ => rfl) (by decide) (by decide) (by decide) (by decide) (by decide) dX3_init_14 (fun q1 c1 => ?_)
  refine x_putF (T := TX3) (ty := tyX3 4) hG ok_X3 cl_X3 0 rfl 4 (by decide) tc_392 rfl rfl (tyX3_ok 4 (by decide)) rfl rfl (Nat.le_of_ble_eq_true rfl) dX3_init_16 ?_
  show AC _ _ _ Γ 19 _ [] [(h0, .inr (3, [.null, .null, .null, .ref q0, .ref q1, .null, .int 0])), (q0, .inl (c0, 30, .inl (fun _ => 0))), (q1, .inl (c1, 5, .inl (fun _ => 0)))] [(c0, .int), (c1, .int)] 2 35
  refine x_aload_n hG 0 rfl dX3_init_19 rfl ?_
  refine x_iconst (v := 5) hG dX3_init_20 (by decide) ?_
  refine x_newa (atype := .int) (ty := .int) (N' := 5) (a0 := (5, .inl (fun _ => 0))) hG tc_238 rfl (fun _ => rfl) (by decide) (by decide) (by decide) (by decide) (by decide) dX3_init_21 (fun q2 c2 => ?_)
  refine x_dup hG dX3_init_23 rfl ?_
  refine x_iconst (v := 0) hG dX3_init_24 (by decide) ?_
  refine x_iconst (v := (-1)) hG dX3_init_25 (by decide) ?_
  refine x_iast hG 3 2 rfl rfl (j := 0) (by decide) (inb_in (by decide)) dX3_init_26 ?_
  refine x_dup hG dX3_init_27 rfl ?_
  refine x_iconst (v := 1) hG dX3_init_28 (by decide) ?_
  refine x_iconst (v := (-1)) hG dX3_init_29 (by decide) ?_
  refine x_iast hG 3 2 rfl rfl (j := 1) (by decide) (inb_in (by decide)) dX3_init_30 ?_
  refine x_dup hG dX3_init_31 rfl ?_
  refine x_iconst (v := 2) hG dX3_init_32 (by decide) ?_
  refine x_iconst (v := (-1)) hG dX3_init_33 (by decide) ?_
  refine x_iast hG 3 2 rfl rfl (j := 2) (by decide) (inb_in (by decide)) dX3_init_34 ?_
  refine x_dup hG dX3_init_35 rfl ?_
  refine x_iconst (v := 3) hG dX3_init_36 (by decide) ?_
  refine x_iconst (v := (-1)) hG dX3_init_37 (by decide) ?_
  refine x_iast hG 3 2 rfl rfl (j := 3) (by decide) (inb_in (by decide)) dX3_init_38 ?_
  refine x_dup hG dX3_init_39 rfl ?_
  refine x_iconst (v := 4) hG dX3_init_40 (by decide) ?_
  refine x_iconst (v := (-1)) hG dX3_init_41 (by decide) ?_
  refine x_iast hG 3 2 rfl rfl (j := 4) (by decide) (inb_in (by decide)) dX3_init_42 ?_
  refine x_putF (T := TX3) (ty := tyX3 5) hG ok_X3 cl_X3 0 rfl 5 (by decide) tc_393 rfl rfl (tyX3_ok 5 (by decide)) rfl rfl (Nat.le_of_ble_eq_true rfl) dX3_init_43 ?_
  show AC _ _ _ Γ 46 _ [] [(h0, .inr (3, [.null, .null, .null, .ref q0, .ref q1, .ref q2, .int 0])), (q0, .inl (c0, 30, .inl (fun _ => 0))), (q1, .inl (c1, 5, .inl (fun _ => 0))), (q2, .inl (c2, 5, .inl (upd (upd (upd (upd (upd (fun _ => 0) 0 (-1)) 1 (-1)) 2 (-1)) 3 (-1)) 4 (-1))))] [(c0, .int), (c1, .int), (c2, .int)] 3 40
  refine x_aload_n hG 0 rfl dX3_init_46 rfl ?_
  refine x_aload_n hG 1 rfl dX3_init_47 rfl ?_
  refine x_putF (T := TX3) (ty := tyX3 0) hG ok_X3 cl_X3 0 rfl 0 (by decide) tc_388 rfl rfl (tyX3_ok 0 (by decide)) rfl rfl (Nat.le_of_ble_eq_true rfl) dX3_init_48 ?_
  show AC _ _ _ Γ 51 _ [] [(h0, .inr (3, [.ref a1, .null, .null, .ref q0, .ref q1, .ref q2, .int 0])), (q0, .inl (c0, 30, .inl (fun _ => 0))), (q1, .inl (c1, 5, .inl (fun _ => 0))), (q2, .inl (c2, 5, .inl (upd (upd (upd (upd (upd (fun _ => 0) 0 (-1)) 1 (-1)) 2 (-1)) 3 (-1)) 4 (-1))))] [(c0, .int), (c1, .int), (c2, .int)] 3 40
  refine x_aload_n hG 0 rfl dX3_init_51 rfl ?_
  refine x_aload_n hG 2 rfl dX3_init_52 rfl ?_
  refine x_putF (T := TX3) (ty := tyX3 1) hG ok_X3 cl_X3 0 rfl 1 (by decide) tc_389 rfl rfl (tyX3_ok 1 (by decide)) rfl rfl (Nat.le_of_ble_eq_true rfl) dX3_init_53 ?_
  show AC _ _ _ Γ 56 _ [] [(h0, .inr (3, [.ref a1, .ref a2, .null, .ref q0, .ref q1, .ref q2, .int 0])), (q0, .inl (c0, 30, .inl (fun _ => 0))), (q1, .inl (c1, 5, .inl (fun _ => 0))), (q2, .inl (c2, 5, .inl (upd (upd (upd (upd (upd (fun _ => 0) 0 (-1)) 1 (-1)) 2 (-1)) 3 (-1)) 4 (-1))))] [(c0, .int), (c1, .int), (c2, .int)] 3 40
  refine x_aload_n hG 0 rfl dX3_init_56 rfl ?_
  refine x_aload_n hG 3 rfl dX3_init_57 rfl ?_
  refine x_putF (T := TX3) (ty := tyX3 2) hG ok_X3 cl_X3 0 rfl 2 (by decide) tc_390 rfl rfl (tyX3_ok 2 (by decide)) rfl rfl (Nat.le_of_ble_eq_true rfl) dX3_init_58 ?_
  show AC _ _ _ Γ 61 _ [] [(h0, .inr (3, [.ref a1, .ref a2, .ref a3, .ref q0, .ref q1, .ref q2, .int 0])), (q0, .inl (c0, 30, .inl (fun _ => 0))), (q1, .inl (c1, 5, .inl (fun _ => 0))), (q2, .inl (c2, 5, .inl (upd (upd (upd (upd (upd (fun _ => 0) 0 (-1)) 1 (-1)) 2 (-1)) 3 (-1)) 4 (-1))))] [(c0, .int), (c1, .int), (c2, .int)] 3 40
  exact x_vret hG ⟨q0, c0, q1, c1, q2, c2, rfl, rfl⟩ dX3_init_61
theorem dX1_init_0 : decode cX1_init 0 = .ok (.aload_n 0, 1) := by decide +kernel
theorem dX1_init_1 : decode cX1_init 1 = .ok (.invokespecial 3, 3) := by decide +kernel
theorem dX1_init_4 : decode cX1_init 4 = .ok (.aload_n 0, 1) := by decide +kernel
theorem dX1_init_5 : decode cX1_init 5 = .ok (.new 9, 3) := by decide +kernel
theorem dX1_init_8 : decode cX1_init 8 = .ok (.dup, 1) := by decide +kernel
theorem dX1_init_9 : decode cX1_init 9 = .ok (.invokespecial 11, 3) := by decide +kernel
theorem dX1_init_12 : decode cX1_init 12 = .ok (.putfield 12, 3) := by decide +kernel
theorem dX1_init_15 : decode cX1_init 15 = .ok (.aload_n 0, 1) := by decide +kernel
theorem dX1_init_16 : decode cX1_init 16 = .ok (.bipush 91, 2) := by decide +kernel
theorem dX1_init_18 : decode cX1_init 18 = .ok (.newarray .int, 2) := by decide +kernel
theorem dX1_init_20 : decode cX1_init 20 = .ok (.putfield 18, 3) := by decide +kernel
theorem dX1_init_23 : decode cX1_init 23 = .ok (.aload_n 0, 1) := by decide +kernel
theorem dX1_init_24 : decode cX1_init 24 = .ok (.new 22, 3) := by decide +kernel
theorem dX1_init_27 : decode cX1_init 27 = .ok (.dup, 1) := by decide +kernel
theorem dX1_init_28 : decode cX1_init 28 = .ok (.invokespecial 24, 3) := by decide +kernel
theorem dX1_init_31 : decode cX1_init 31 = .ok (.putfield 25, 3) := by decide +kernel
theorem dX1_init_34 : decode cX1_init 34 = .ok (.aload_n 0, 1) := by decide +kernel
theorem dX1_init_35 : decode cX1_init 35 = .ok (.iconst 0, 1) := by decide +kernel
theorem dX1_init_36 : decode cX1_init 36 = .ok (.putfield 29, 3) := by decide +kernel
theorem dX1_init_39 : decode cX1_init 39 = .ok (.return_, 1) := by decide +kernel
theorem ct_X1 (h0 : Nat) : CtN [Cond.methodLinkNest RX1 11 yX5_init "LostCauses", Cond.methodLinkNest RX1 24 yX7_init "LostCauses"] { frames := 2, cells := 13, slots := 305, locals := 60 } yX1_init cX1_init 1 13 305 [.ref h0] [(h0, .inr (1, [.null, .null, .null, .int 0]))] [] (fun w u => ∃ (n0 : Nat) (q1 : Nat) (q3 : Nat) (q5 : Nat) (q7 : Nat) (q9 : Nat) (q11 : Nat) (q13 : Nat) (c2 : ClassId) (c4 : ClassId) (c6 : ClassId) (c8 : ClassId) (c10 : ClassId) (c12 : ClassId) (c14 : ClassId) (q15 : Nat) (c15 : ClassId) (n16 : Nat) (q17 : Nat) (q19 : Nat) (q21 : Nat) (c18 : ClassId) (c20 : ClassId) (c22 : ClassId), w = [(h0, .inr (1, [.ref n0, .ref q15, .ref n16, .int 0])), (n0, .inr (5, [.int 1, .int 9, .int 50, .int 0, .int 0, .int 0, .ref q1, .ref q3, .ref q5, .ref q7, .ref q9, .ref q11, .ref q13])), (q1, .inl (c2, 6, .inr (.inl (fun _ => 0)))), (q3, .inl (c4, 6, .inr (.inl (fun _ => 0)))), (q5, .inl (c6, 5, .inr (.inl (fun _ => 0)))), (q7, .inl (c8, 24, .inl (fun _ => 0))), (q9, .inl (c10, 12, .inl (fun _ => 0))), (q11, .inl (c12, 18, .inl (fun _ => 0))), (q13, .inl (c14, 5, .inl (fun _ => 0))), (q15, .inl (c15, 91, .inl (fun _ => 0))), (n16, .inr (7, [.ref q17, .ref q19, .ref q21, .int 0, .int 0])), (q17, .inl (c18, 40, .inl (fun _ => 0))), (q19, .inl (c20, 40, .inl (fun _ => 0))), (q21, .inl (c22, 40, .inl (fun _ => 0)))] ∧ u = [(c2, .long), (c4, .long), (c6, .long), (c8, .int), (c10, .int), (c12, .int), (c14, .int), (c15, .int), (c18, .int), (c20, .int), (c22, .int)]) := by
  refine x_enter (own := RX1) (by decide) rfl rfl (Nat.le_of_ble_eq_true rfl) (lv := [(0, .ref h0)]) rfl (fun Γ hG hN => ?_)
  refine x_aload_n hG 0 rfl dX1_init_0 rfl ?_
  refine x_objInit hG tc_415 tc_148 tc_149 (by decide) (by decide) dX1_init_1 ?_
  refine x_aload_n hG 0 rfl dX1_init_4 rfl ?_
  refine x_new (C := RX5) (T := TX5) (N := 13) (ci := 5) (fs := [.int 0, .int 0, .int 0, .int 0, .int 0, .int 0, .null, .null, .null, .null, .null, .null, .null]) hG ok_X5 cl_X5 tc_416 tc_192 tc_123 tyX5 tyX5_ok (fun j hj => by rcases (show j = 0 ∨ j = 1 ∨ j = 2 ∨ j = 3 ∨ j = 4 ∨ j = 5 ∨ j = 6 ∨ j = 7 ∨ j = 8 ∨ j = 9 ∨ j = 10 ∨ j = 11 ∨ j = 12 by omega) with rfl | rfl | rfl | rfl | rfl | rfl | rfl | rfl | rfl | rfl | rfl | rfl | rfl <;> rfl) (by decide) (by decide) dX1_init_5 (fun n0 => ?_)
  refine x_dup hG dX1_init_8 rfl ?_
  refine x_callN (host := "LostCauses") (As := []) (rest := [.ref n0, .ref h0]) (wr := [(h0, .inr (1, [.null, .null, .null, .int 0]))]) hG (ct_X5 n0) (fun w hw => absurd hw List.not_mem_nil) (fun w hw => absurd hw List.not_mem_nil) tc_195 tc_123 (hN _ (List.mem_of_getElem? (i := 0) rfl)) tc_194 rfl ⟨by decide +kernel, by decide +kernel, by decide +kernel⟩ rfl rfl ⟨by decide, by decide⟩ rfl (Nat.le_of_ble_eq_true rfl) ⟨by decide, by decide⟩ dX1_init_9 [1] [0] [] rfl (by decide) rfl rfl (by decide) (by decide) rfl (fun w1 t1 hp => ?_)
  obtain ⟨q1, c2, q3, c4, q5, c6, q7, c8, q9, c10, q11, c12, q13, c14, rfl, rfl⟩ := hp
  show AC _ _ _ Γ 12 _ [.ref n0, .ref h0] [(h0, .inr (1, [.null, .null, .null, .int 0])), (n0, .inr (5, [.int 1, .int 9, .int 50, .int 0, .int 0, .int 0, .ref q1, .ref q3, .ref q5, .ref q7, .ref q9, .ref q11, .ref q13])), (q1, .inl (c2, 6, .inr (.inl (fun _ => 0)))), (q3, .inl (c4, 6, .inr (.inl (fun _ => 0)))), (q5, .inl (c6, 5, .inr (.inl (fun _ => 0)))), (q7, .inl (c8, 24, .inl (fun _ => 0))), (q9, .inl (c10, 12, .inl (fun _ => 0))), (q11, .inl (c12, 18, .inl (fun _ => 0))), (q13, .inl (c14, 5, .inl (fun _ => 0)))] [(c2, .long), (c4, .long), (c6, .long), (c8, .int), (c10, .int), (c12, .int), (c14, .int)] 8 89
  refine x_putF (T := TX1) (ty := tyX1 0) hG ok_X1 cl_X1 0 rfl 0 (by decide) tc_420 rfl rfl (tyX1_ok 0 (by decide)) rfl rfl (Nat.le_of_ble_eq_true rfl) dX1_init_12 ?_
  show AC _ _ _ Γ 15 _ [] [(h0, .inr (1, [.ref n0, .null, .null, .int 0])), (n0, .inr (5, [.int 1, .int 9, .int 50, .int 0, .int 0, .int 0, .ref q1, .ref q3, .ref q5, .ref q7, .ref q9, .ref q11, .ref q13])), (q1, .inl (c2, 6, .inr (.inl (fun _ => 0)))), (q3, .inl (c4, 6, .inr (.inl (fun _ => 0)))), (q5, .inl (c6, 5, .inr (.inl (fun _ => 0)))), (q7, .inl (c8, 24, .inl (fun _ => 0))), (q9, .inl (c10, 12, .inl (fun _ => 0))), (q11, .inl (c12, 18, .inl (fun _ => 0))), (q13, .inl (c14, 5, .inl (fun _ => 0)))] [(c2, .long), (c4, .long), (c6, .long), (c8, .int), (c10, .int), (c12, .int), (c14, .int)] 8 89
  refine x_aload_n hG 0 rfl dX1_init_15 rfl ?_
  refine x_bipush (v := 91) hG dX1_init_16 (by decide) ?_
  refine x_newa (atype := .int) (ty := .int) (N' := 91) (a0 := (91, .inl (fun _ => 0))) hG tc_238 rfl (fun _ => rfl) (by decide) (by decide) (by decide) (by decide) (by decide) dX1_init_18 (fun q15 c15 => ?_)
  refine x_putF (T := TX1) (ty := tyX1 1) hG ok_X1 cl_X1 0 rfl 1 (by decide) tc_421 rfl rfl (tyX1_ok 1 (by decide)) rfl rfl (Nat.le_of_ble_eq_true rfl) dX1_init_20 ?_
  show AC _ _ _ Γ 23 _ [] [(h0, .inr (1, [.ref n0, .ref q15, .null, .int 0])), (n0, .inr (5, [.int 1, .int 9, .int 50, .int 0, .int 0, .int 0, .ref q1, .ref q3, .ref q5, .ref q7, .ref q9, .ref q11, .ref q13])), (q1, .inl (c2, 6, .inr (.inl (fun _ => 0)))), (q3, .inl (c4, 6, .inr (.inl (fun _ => 0)))), (q5, .inl (c6, 5, .inr (.inl (fun _ => 0)))), (q7, .inl (c8, 24, .inl (fun _ => 0))), (q9, .inl (c10, 12, .inl (fun _ => 0))), (q11, .inl (c12, 18, .inl (fun _ => 0))), (q13, .inl (c14, 5, .inl (fun _ => 0))), (q15, .inl (c15, 91, .inl (fun _ => 0)))] [(c2, .long), (c4, .long), (c6, .long), (c8, .int), (c10, .int), (c12, .int), (c14, .int), (c15, .int)] 9 180
  refine x_aload_n hG 0 rfl dX1_init_23 rfl ?_
  refine x_new (C := RX7) (T := TX7) (N := 5) (ci := 7) (fs := [.null, .null, .null, .int 0, .int 0]) hG ok_X7 cl_X7 tc_418 tc_361 tc_129 tyX7 tyX7_ok (fun j hj => by rcases (show j = 0 ∨ j = 1 ∨ j = 2 ∨ j = 3 ∨ j = 4 by omega) with rfl | rfl | rfl | rfl | rfl <;> rfl) (by decide) (by decide) dX1_init_24 (fun n16 => ?_)
  refine x_dup hG dX1_init_27 rfl ?_
  refine x_callN (host := "LostCauses") (As := []) (rest := [.ref n16, .ref h0]) (wr := [(h0, .inr (1, [.ref n0, .ref q15, .null, .int 0])), (n0, .inr (5, [.int 1, .int 9, .int 50, .int 0, .int 0, .int 0, .ref q1, .ref q3, .ref q5, .ref q7, .ref q9, .ref q11, .ref q13])), (q1, .inl (c2, 6, .inr (.inl (fun _ => 0)))), (q3, .inl (c4, 6, .inr (.inl (fun _ => 0)))), (q5, .inl (c6, 5, .inr (.inl (fun _ => 0)))), (q7, .inl (c8, 24, .inl (fun _ => 0))), (q9, .inl (c10, 12, .inl (fun _ => 0))), (q11, .inl (c12, 18, .inl (fun _ => 0))), (q13, .inl (c14, 5, .inl (fun _ => 0))), (q15, .inl (c15, 91, .inl (fun _ => 0)))]) hG (ct_X7 n16) (fun w hw => absurd hw List.not_mem_nil) (fun w hw => absurd hw List.not_mem_nil) tc_364 tc_129 (hN _ (List.mem_of_getElem? (i := 1) rfl)) tc_363 rfl ⟨by decide +kernel, by decide +kernel, by decide +kernel⟩ rfl rfl ⟨by decide, by decide⟩ rfl (Nat.le_of_ble_eq_true rfl) ⟨by decide, by decide⟩ dX1_init_28 [10] [0, 1, 2, 3, 4, 5, 6, 7, 8, 9] [] rfl (by decide) rfl rfl (by decide) (by decide) rfl (fun w1 t1 hp => ?_)
  obtain ⟨q17, c18, q19, c20, q21, c22, rfl, rfl⟩ := hp
  show AC _ _ _ Γ 31 _ [.ref n16, .ref h0] [(h0, .inr (1, [.ref n0, .ref q15, .null, .int 0])), (n0, .inr (5, [.int 1, .int 9, .int 50, .int 0, .int 0, .int 0, .ref q1, .ref q3, .ref q5, .ref q7, .ref q9, .ref q11, .ref q13])), (q1, .inl (c2, 6, .inr (.inl (fun _ => 0)))), (q3, .inl (c4, 6, .inr (.inl (fun _ => 0)))), (q5, .inl (c6, 5, .inr (.inl (fun _ => 0)))), (q7, .inl (c8, 24, .inl (fun _ => 0))), (q9, .inl (c10, 12, .inl (fun _ => 0))), (q11, .inl (c12, 18, .inl (fun _ => 0))), (q13, .inl (c14, 5, .inl (fun _ => 0))), (q15, .inl (c15, 91, .inl (fun _ => 0))), (n16, .inr (7, [.ref q17, .ref q19, .ref q21, .int 0, .int 0])), (q17, .inl (c18, 40, .inl (fun _ => 0))), (q19, .inl (c20, 40, .inl (fun _ => 0))), (q21, .inl (c22, 40, .inl (fun _ => 0)))] [(c2, .long), (c4, .long), (c6, .long), (c8, .int), (c10, .int), (c12, .int), (c14, .int), (c15, .int), (c18, .int), (c20, .int), (c22, .int)] 13 305
  refine x_putF (T := TX1) (ty := tyX1 2) hG ok_X1 cl_X1 0 rfl 2 (by decide) tc_422 rfl rfl (tyX1_ok 2 (by decide)) rfl rfl (Nat.le_of_ble_eq_true rfl) dX1_init_31 ?_
  show AC _ _ _ Γ 34 _ [] [(h0, .inr (1, [.ref n0, .ref q15, .ref n16, .int 0])), (n0, .inr (5, [.int 1, .int 9, .int 50, .int 0, .int 0, .int 0, .ref q1, .ref q3, .ref q5, .ref q7, .ref q9, .ref q11, .ref q13])), (q1, .inl (c2, 6, .inr (.inl (fun _ => 0)))), (q3, .inl (c4, 6, .inr (.inl (fun _ => 0)))), (q5, .inl (c6, 5, .inr (.inl (fun _ => 0)))), (q7, .inl (c8, 24, .inl (fun _ => 0))), (q9, .inl (c10, 12, .inl (fun _ => 0))), (q11, .inl (c12, 18, .inl (fun _ => 0))), (q13, .inl (c14, 5, .inl (fun _ => 0))), (q15, .inl (c15, 91, .inl (fun _ => 0))), (n16, .inr (7, [.ref q17, .ref q19, .ref q21, .int 0, .int 0])), (q17, .inl (c18, 40, .inl (fun _ => 0))), (q19, .inl (c20, 40, .inl (fun _ => 0))), (q21, .inl (c22, 40, .inl (fun _ => 0)))] [(c2, .long), (c4, .long), (c6, .long), (c8, .int), (c10, .int), (c12, .int), (c14, .int), (c15, .int), (c18, .int), (c20, .int), (c22, .int)] 13 305
  refine x_aload_n hG 0 rfl dX1_init_34 rfl ?_
  refine x_iconst (v := 0) hG dX1_init_35 (by decide) ?_
  refine x_put (T := TX1) (ty := tyX1 3) hG ok_X1 cl_X1 0 rfl 3 (by decide) tc_423 rfl (tyX1_ok 3 (by decide)) rfl rfl (Nat.le_of_ble_eq_true rfl) dX1_init_36 ?_
  show AC _ _ _ Γ 39 _ [] [(h0, .inr (1, [.ref n0, .ref q15, .ref n16, .int 0])), (n0, .inr (5, [.int 1, .int 9, .int 50, .int 0, .int 0, .int 0, .ref q1, .ref q3, .ref q5, .ref q7, .ref q9, .ref q11, .ref q13])), (q1, .inl (c2, 6, .inr (.inl (fun _ => 0)))), (q3, .inl (c4, 6, .inr (.inl (fun _ => 0)))), (q5, .inl (c6, 5, .inr (.inl (fun _ => 0)))), (q7, .inl (c8, 24, .inl (fun _ => 0))), (q9, .inl (c10, 12, .inl (fun _ => 0))), (q11, .inl (c12, 18, .inl (fun _ => 0))), (q13, .inl (c14, 5, .inl (fun _ => 0))), (q15, .inl (c15, 91, .inl (fun _ => 0))), (n16, .inr (7, [.ref q17, .ref q19, .ref q21, .int 0, .int 0])), (q17, .inl (c18, 40, .inl (fun _ => 0))), (q19, .inl (c20, 40, .inl (fun _ => 0))), (q21, .inl (c22, 40, .inl (fun _ => 0)))] [(c2, .long), (c4, .long), (c6, .long), (c8, .int), (c10, .int), (c12, .int), (c14, .int), (c15, .int), (c18, .int), (c20, .int), (c22, .int)] 13 305
  exact x_vret hG ⟨n0, q1, q3, q5, q7, q9, q11, q13, c2, c4, c6, c8, c10, c12, c14, q15, c15, n16, q17, q19, q21, c18, c20, c22, rfl, rfl⟩ dX1_init_39
