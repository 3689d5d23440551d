/-! ===== constructors, laid by wip/gen/ctor.py ===== -/
theorem tc_148 : Cond.instanceMethod objectInit ∈ TB := TB_in (List.mem_of_getElem? (i := 148) (by decide +kernel)) rfl
theorem tc_149 : Cond.code objectInit ⟨#[0xb1]⟩ 1 none ∈ TB := TB_in (List.mem_of_getElem? (i := 149) (by decide +kernel)) rfl
theorem tc_155 : Cond.methodLink RX8 3 objectInit ∈ TB := TB_in (List.mem_of_getElem? (i := 155) (by decide +kernel)) rfl
theorem tc_156 : Cond.fieldLink RX8 9 (TX8 0).1 (TX8 0).2.1 (TX8 0).2.2.1 ∈ TB := TB_in (List.mem_of_getElem? (i := 156) (by decide +kernel)) rfl
theorem tc_157 : Cond.fieldLink RX8 15 (TX8 1).1 (TX8 1).2.1 (TX8 1).2.2.1 ∈ TB := TB_in (List.mem_of_getElem? (i := 157) (by decide +kernel)) rfl
theorem tc_158 : Cond.fieldLink RX8 19 (TX8 2).1 (TX8 2).2.1 (TX8 2).2.2.1 ∈ TB := TB_in (List.mem_of_getElem? (i := 158) (by decide +kernel)) rfl
theorem tc_159 : Cond.fieldLink RX8 22 (TX8 3).1 (TX8 3).2.1 (TX8 3).2.2.1 ∈ TB := TB_in (List.mem_of_getElem? (i := 159) (by decide +kernel)) rfl
theorem tc_160 : Cond.fieldLink RX8 25 (TX8 4).1 (TX8 4).2.1 (TX8 4).2.2.1 ∈ TB := TB_in (List.mem_of_getElem? (i := 160) (by decide +kernel)) rfl
theorem tc_161 : Cond.fieldLink RX8 28 (TX8 5).1 (TX8 5).2.1 (TX8 5).2.2.1 ∈ TB := TB_in (List.mem_of_getElem? (i := 161) (by decide +kernel)) rfl
theorem tc_162 : Cond.fieldLink RX8 31 (TX8 6).1 (TX8 6).2.1 (TX8 6).2.2.1 ∈ TB := TB_in (List.mem_of_getElem? (i := 162) (by decide +kernel)) rfl
theorem tc_163 : Cond.fieldLink RX8 35 (TX8 7).1 (TX8 7).2.1 (TX8 7).2.2.1 ∈ TB := TB_in (List.mem_of_getElem? (i := 163) (by decide +kernel)) rfl
theorem tc_164 : Cond.fieldLink RX8 38 (TX8 8).1 (TX8 8).2.1 (TX8 8).2.2.1 ∈ TB := TB_in (List.mem_of_getElem? (i := 164) (by decide +kernel)) rfl
theorem tc_165 : Cond.fieldLink RX8 41 (TX8 9).1 (TX8 9).2.1 (TX8 9).2.2.1 ∈ TB := TB_in (List.mem_of_getElem? (i := 165) (by decide +kernel)) rfl
theorem tc_166 : Cond.fieldLink RX8 44 (TX8 10).1 (TX8 10).2.1 (TX8 10).2.2.1 ∈ TB := TB_in (List.mem_of_getElem? (i := 166) (by decide +kernel)) rfl
theorem tc_190 : Cond.arrayClass .byte ∈ TB := TB_in (List.mem_of_getElem? (i := 190) (by decide +kernel)) rfl
theorem dX8_init_0 : decode cX8_init 0 = .ok (.aload_n 0, 1) := by decide +kernel
theorem dX8_init_1 : decode cX8_init 1 = .ok (.invokespecial 3, 3) := by decide +kernel
theorem dX8_init_4 : decode cX8_init 4 = .ok (.aload_n 0, 1) := by decide +kernel
theorem dX8_init_5 : decode cX8_init 5 = .ok (.sipush 940, 3) := by decide +kernel
theorem dX8_init_8 : decode cX8_init 8 = .ok (.newarray .byte, 2) := by decide +kernel
theorem dX8_init_10 : decode cX8_init 10 = .ok (.putfield 9, 3) := by decide +kernel
theorem dX8_init_13 : decode cX8_init 13 = .ok (.aload_n 0, 1) := by decide +kernel
theorem dX8_init_14 : decode cX8_init 14 = .ok (.iconst 0, 1) := by decide +kernel
theorem dX8_init_15 : decode cX8_init 15 = .ok (.putfield 15, 3) := by decide +kernel
theorem dX8_init_18 : decode cX8_init 18 = .ok (.aload_n 0, 1) := by decide +kernel
theorem dX8_init_19 : decode cX8_init 19 = .ok (.iconst 0, 1) := by decide +kernel
theorem dX8_init_20 : decode cX8_init 20 = .ok (.putfield 19, 3) := by decide +kernel
theorem dX8_init_23 : decode cX8_init 23 = .ok (.aload_n 0, 1) := by decide +kernel
theorem dX8_init_24 : decode cX8_init 24 = .ok (.iconst 0, 1) := by decide +kernel
theorem dX8_init_25 : decode cX8_init 25 = .ok (.putfield 22, 3) := by decide +kernel
theorem dX8_init_28 : decode cX8_init 28 = .ok (.aload_n 0, 1) := by decide +kernel
theorem dX8_init_29 : decode cX8_init 29 = .ok (.iconst 0, 1) := by decide +kernel
theorem dX8_init_30 : decode cX8_init 30 = .ok (.putfield 25, 3) := by decide +kernel
theorem dX8_init_33 : decode cX8_init 33 = .ok (.aload_n 0, 1) := by decide +kernel
theorem dX8_init_34 : decode cX8_init 34 = .ok (.iconst 0, 1) := by decide +kernel
theorem dX8_init_35 : decode cX8_init 35 = .ok (.putfield 28, 3) := by decide +kernel
theorem dX8_init_38 : decode cX8_init 38 = .ok (.aload_n 0, 1) := by decide +kernel
theorem dX8_init_39 : decode cX8_init 39 = .ok (.lconst 0, 1) := by decide +kernel
theorem dX8_init_40 : decode cX8_init 40 = .ok (.putfield 31, 3) := by decide +kernel
theorem dX8_init_43 : decode cX8_init 43 = .ok (.aload_n 0, 1) := by decide +kernel
theorem dX8_init_44 : decode cX8_init 44 = .ok (.iconst 0, 1) := by decide +kernel
theorem dX8_init_45 : decode cX8_init 45 = .ok (.putfield 35, 3) := by decide +kernel
theorem dX8_init_48 : decode cX8_init 48 = .ok (.aload_n 0, 1) := by decide +kernel
theorem dX8_init_49 : decode cX8_init 49 = .ok (.iconst 0, 1) := by decide +kernel
theorem dX8_init_50 : decode cX8_init 50 = .ok (.putfield 38, 3) := by decide +kernel
theorem dX8_init_53 : decode cX8_init 53 = .ok (.aload_n 0, 1) := by decide +kernel
theorem dX8_init_54 : decode cX8_init 54 = .ok (.iconst 0, 1) := by decide +kernel
theorem dX8_init_55 : decode cX8_init 55 = .ok (.putfield 41, 3) := by decide +kernel
theorem dX8_init_58 : decode cX8_init 58 = .ok (.aload_n 0, 1) := by decide +kernel
theorem dX8_init_59 : decode cX8_init 59 = .ok (.iconst 0, 1) := by decide +kernel
theorem dX8_init_60 : decode cX8_init 60 = .ok (.putfield 44, 3) := by decide +kernel
theorem dX8_init_63 : decode cX8_init 63 = .ok (.return_, 1) := by decide +kernel
theorem ct_X8 (h0 : Nat) : CtN [] { frames := 1, cells := 1, slots := 940, locals := 40 } yX8_init cX8_init 1 1 940 [.ref h0] [(h0, .inr (8, [.null, .int 0, .int 0, .int 0, .int 0, .int 0, .long 0, .int 0, .int 0, .int 0, .int 0]))] [] (fun w u => ∃ (q0 : Nat) (c0 : ClassId), w = [(h0, .inr (8, [.ref q0, .int 0, .int 0, .int 0, .int 0, .int 0, .long 0, .int 0, .int 0, .int 0, .int 0])), (q0, .inl (c0, 940, .inl (fun _ => 0)))] ∧ u = [(c0, .byte)]) := by
  refine x_enter (own := RX8) (by decide) rfl rfl (Nat.le_of_ble_eq_true rfl) (lv := [(0, .ref h0)]) rfl (fun Γ hG _ => ?_)
  refine x_aload_n hG 0 rfl dX8_init_0 rfl ?_
  refine x_objInit hG tc_155 tc_148 tc_149 (by decide) (by decide) dX8_init_1 ?_
  refine x_aload_n hG 0 rfl dX8_init_4 rfl ?_
  refine x_sipush (v := 940) hG dX8_init_5 (by decide) ?_
  refine x_newa (atype := .byte) (ty := .byte) (N' := 940) (a0 := (940, .inl (fun _ => 0))) hG tc_190 rfl (fun _ => rfl) (by decide) (by decide) (by decide) (by decide) (by decide) dX8_init_8 (fun q0 c0 => ?_)
  refine x_putF (T := TX8) (ty := tyX8 0) hG ok_X8 cl_X8 0 rfl 0 (by decide) tc_156 rfl rfl (tyX8_ok 0 (by decide)) rfl rfl (Nat.le_of_ble_eq_true rfl) dX8_init_10 ?_
  show AC _ _ _ Γ 13 _ _ [(h0, .inr (8, [.ref q0, .int 0, .int 0, .int 0, .int 0, .int 0, .long 0, .int 0, .int 0, .int 0, .int 0])), (q0, .inl (c0, 940, .inl (fun _ => 0)))] [(c0, .byte)] 1 940
  refine x_aload_n hG 0 rfl dX8_init_13 rfl ?_
  refine x_iconst (v := 0) hG dX8_init_14 (by decide) ?_
  refine x_put (T := TX8) (ty := tyX8 1) hG ok_X8 cl_X8 0 rfl 1 (by decide) tc_157 rfl (tyX8_ok 1 (by decide)) rfl rfl (Nat.le_of_ble_eq_true rfl) dX8_init_15 ?_
  show AC _ _ _ Γ 18 _ _ [(h0, .inr (8, [.ref q0, .int 0, .int 0, .int 0, .int 0, .int 0, .long 0, .int 0, .int 0, .int 0, .int 0])), (q0, .inl (c0, 940, .inl (fun _ => 0)))] [(c0, .byte)] 1 940
  refine x_aload_n hG 0 rfl dX8_init_18 rfl ?_
  refine x_iconst (v := 0) hG dX8_init_19 (by decide) ?_
  refine x_put (T := TX8) (ty := tyX8 2) hG ok_X8 cl_X8 0 rfl 2 (by decide) tc_158 rfl (tyX8_ok 2 (by decide)) rfl rfl (Nat.le_of_ble_eq_true rfl) dX8_init_20 ?_
  show AC _ _ _ Γ 23 _ _ [(h0, .inr (8, [.ref q0, .int 0, .int 0, .int 0, .int 0, .int 0, .long 0, .int 0, .int 0, .int 0, .int 0])), (q0, .inl (c0, 940, .inl (fun _ => 0)))] [(c0, .byte)] 1 940
  refine x_aload_n hG 0 rfl dX8_init_23 rfl ?_
  refine x_iconst (v := 0) hG dX8_init_24 (by decide) ?_
  refine x_put (T := TX8) (ty := tyX8 3) hG ok_X8 cl_X8 0 rfl 3 (by decide) tc_159 rfl (tyX8_ok 3 (by decide)) rfl rfl (Nat.le_of_ble_eq_true rfl) dX8_init_25 ?_
  show AC _ _ _ Γ 28 _ _ [(h0, .inr (8, [.ref q0, .int 0, .int 0, .int 0, .int 0, .int 0, .long 0, .int 0, .int 0, .int 0, .int 0])), (q0, .inl (c0, 940, .inl (fun _ => 0)))] [(c0, .byte)] 1 940
  refine x_aload_n hG 0 rfl dX8_init_28 rfl ?_
  refine x_iconst (v := 0) hG dX8_init_29 (by decide) ?_
  refine x_put (T := TX8) (ty := tyX8 4) hG ok_X8 cl_X8 0 rfl 4 (by decide) tc_160 rfl (tyX8_ok 4 (by decide)) rfl rfl (Nat.le_of_ble_eq_true rfl) dX8_init_30 ?_
  show AC _ _ _ Γ 33 _ _ [(h0, .inr (8, [.ref q0, .int 0, .int 0, .int 0, .int 0, .int 0, .long 0, .int 0, .int 0, .int 0, .int 0])), (q0, .inl (c0, 940, .inl (fun _ => 0)))] [(c0, .byte)] 1 940
  refine x_aload_n hG 0 rfl dX8_init_33 rfl ?_
  refine x_iconst (v := 0) hG dX8_init_34 (by decide) ?_
  refine x_put (T := TX8) (ty := tyX8 5) hG ok_X8 cl_X8 0 rfl 5 (by decide) tc_161 rfl (tyX8_ok 5 (by decide)) rfl rfl (Nat.le_of_ble_eq_true rfl) dX8_init_35 ?_
  show AC _ _ _ Γ 38 _ _ [(h0, .inr (8, [.ref q0, .int 0, .int 0, .int 0, .int 0, .int 0, .long 0, .int 0, .int 0, .int 0, .int 0])), (q0, .inl (c0, 940, .inl (fun _ => 0)))] [(c0, .byte)] 1 940
  refine x_aload_n hG 0 rfl dX8_init_38 rfl ?_
  refine x_lconst (v := 0) hG dX8_init_39 (by decide) ?_
  refine x_put (T := TX8) (ty := tyX8 6) hG ok_X8 cl_X8 0 rfl 6 (by decide) tc_162 rfl (tyX8_ok 6 (by decide)) rfl rfl (Nat.le_of_ble_eq_true rfl) dX8_init_40 ?_
  show AC _ _ _ Γ 43 _ _ [(h0, .inr (8, [.ref q0, .int 0, .int 0, .int 0, .int 0, .int 0, .long 0, .int 0, .int 0, .int 0, .int 0])), (q0, .inl (c0, 940, .inl (fun _ => 0)))] [(c0, .byte)] 1 940
  refine x_aload_n hG 0 rfl dX8_init_43 rfl ?_
  refine x_iconst (v := 0) hG dX8_init_44 (by decide) ?_
  refine x_put (T := TX8) (ty := tyX8 7) hG ok_X8 cl_X8 0 rfl 7 (by decide) tc_163 rfl (tyX8_ok 7 (by decide)) rfl rfl (Nat.le_of_ble_eq_true rfl) dX8_init_45 ?_
  show AC _ _ _ Γ 48 _ _ [(h0, .inr (8, [.ref q0, .int 0, .int 0, .int 0, .int 0, .int 0, .long 0, .int 0, .int 0, .int 0, .int 0])), (q0, .inl (c0, 940, .inl (fun _ => 0)))] [(c0, .byte)] 1 940
  refine x_aload_n hG 0 rfl dX8_init_48 rfl ?_
  refine x_iconst (v := 0) hG dX8_init_49 (by decide) ?_
  refine x_put (T := TX8) (ty := tyX8 8) hG ok_X8 cl_X8 0 rfl 8 (by decide) tc_164 rfl (tyX8_ok 8 (by decide)) rfl rfl (Nat.le_of_ble_eq_true rfl) dX8_init_50 ?_
  show AC _ _ _ Γ 53 _ _ [(h0, .inr (8, [.ref q0, .int 0, .int 0, .int 0, .int 0, .int 0, .long 0, .int 0, .int 0, .int 0, .int 0])), (q0, .inl (c0, 940, .inl (fun _ => 0)))] [(c0, .byte)] 1 940
  refine x_aload_n hG 0 rfl dX8_init_53 rfl ?_
  refine x_iconst (v := 0) hG dX8_init_54 (by decide) ?_
  refine x_put (T := TX8) (ty := tyX8 9) hG ok_X8 cl_X8 0 rfl 9 (by decide) tc_165 rfl (tyX8_ok 9 (by decide)) rfl rfl (Nat.le_of_ble_eq_true rfl) dX8_init_55 ?_
  show AC _ _ _ Γ 58 _ _ [(h0, .inr (8, [.ref q0, .int 0, .int 0, .int 0, .int 0, .int 0, .long 0, .int 0, .int 0, .int 0, .int 0])), (q0, .inl (c0, 940, .inl (fun _ => 0)))] [(c0, .byte)] 1 940
  refine x_aload_n hG 0 rfl dX8_init_58 rfl ?_
  refine x_iconst (v := 0) hG dX8_init_59 (by decide) ?_
  refine x_put (T := TX8) (ty := tyX8 10) hG ok_X8 cl_X8 0 rfl 10 (by decide) tc_166 rfl (tyX8_ok 10 (by decide)) rfl rfl (Nat.le_of_ble_eq_true rfl) dX8_init_60 ?_
  show AC _ _ _ Γ 63 _ _ [(h0, .inr (8, [.ref q0, .int 0, .int 0, .int 0, .int 0, .int 0, .long 0, .int 0, .int 0, .int 0, .int 0])), (q0, .inl (c0, 940, .inl (fun _ => 0)))] [(c0, .byte)] 1 940
  exact x_vret hG ⟨q0, c0, rfl, rfl⟩ dX8_init_63
