theorem dX7_read_0 : decode cX7_read 0 = .ok (.aload_n 0, 1) := by decide +kernel
theorem dX7_read_1 : decode cX7_read 1 = .ok (.iconst 0, 1) := by decide +kernel
theorem dX7_read_2 : decode cX7_read 2 = .ok (.putfield 21, 3) := by decide +kernel
theorem dX7_read_5 : decode cX7_read 5 = .ok (.aload_n 0, 1) := by decide +kernel
theorem dX7_read_6 : decode cX7_read 6 = .ok (.iconst 0, 1) := by decide +kernel
theorem dX7_read_7 : decode cX7_read 7 = .ok (.putfield 25, 3) := by decide +kernel
theorem dX7_read_10 : decode cX7_read 10 = .ok (.aload_n 1, 1) := by decide +kernel
theorem dX7_read_11 : decode cX7_read 11 = .ok (.sipush 200, 3) := by decide +kernel
theorem dX7_read_14 : decode cX7_read 14 = .ok (.invokevirtual 34, 3) := by decide +kernel
theorem dX7_read_17 : decode cX7_read 17 = .ok (.aload_n 0, 1) := by decide +kernel
theorem dX7_read_18 : decode cX7_read 18 = .ok (.aload_n 1, 1) := by decide +kernel
theorem dX7_read_19 : decode cX7_read 19 = .ok (.aload_n 2, 1) := by decide +kernel
theorem dX7_read_20 : decode cX7_read 20 = .ok (.iconst 1, 1) := by decide +kernel
theorem dX7_read_21 : decode cX7_read 21 = .ok (.invokevirtual 40, 3) := by decide +kernel
theorem dX7_read_24 : decode cX7_read 24 = .ok (.ifCond .ne 5, 3) := by decide +kernel
theorem dX7_read_27 : decode cX7_read 27 = .ok (.iconst (-1), 1) := by decide +kernel
theorem dX7_read_28 : decode cX7_read 28 = .ok (.ireturn, 1) := by decide +kernel
theorem dX7_read_29 : decode cX7_read 29 = .ok (.aload_n 1, 1) := by decide +kernel
theorem dX7_read_30 : decode cX7_read 30 = .ok (.invokevirtual 44, 3) := by decide +kernel
theorem dX7_read_33 : decode cX7_read 33 = .ok (.ifCond .ne 11, 3) := by decide +kernel
theorem dX7_read_36 : decode cX7_read 36 = .ok (.aload_n 1, 1) := by decide +kernel
theorem dX7_read_37 : decode cX7_read 37 = .ok (.iconst 1, 1) := by decide +kernel
theorem dX7_read_38 : decode cX7_read 38 = .ok (.invokevirtual 48, 3) := by decide +kernel
theorem dX7_read_41 : decode cX7_read 41 = .ok (.pop, 1) := by decide +kernel
theorem dX7_read_42 : decode cX7_read 42 = .ok (.iconst (-1), 1) := by decide +kernel
theorem dX7_read_43 : decode cX7_read 43 = .ok (.ireturn, 1) := by decide +kernel
theorem dX7_read_44 : decode cX7_read 44 = .ok (.aload_n 0, 1) := by decide +kernel
theorem dX7_read_45 : decode cX7_read 45 = .ok (.getfield 25, 3) := by decide +kernel
theorem dX7_read_48 : decode cX7_read 48 = .ok (.ireturn, 1) := by decide +kernel
set_option maxHeartbeats 4000000 in
theorem c_Sent_read_46 {ad wad : Nat → Nat} (F : Nat)  (h : HS)  (q : Int32 × HS) (hd : f_Sent_read_46 F  h = some q) : Ctr SHc ad wad yX7_read cX7_read 3 (some .int) 30 [.ref (ad 46), .ref (ad 1), .ref (ad 3)] h (some (.int q.1), q.2) := by
  refine enter (own := RX7) (lv := [(0, .ref (ad 46)), (1, .ref (ad 1)), (2, .ref (ad 3))]) (by decide +kernel) rfl (Nat.le_of_ble_eq_true rfl) rfl (fun Γ hG => ?_)
  unfold f_Sent_read_46 at hd
  refine a_aload_n (pc := 0) hG 0 rfl dX7_read_0 rfl ?_
  refine a_iconst (pc := 1) hG dX7_read_1 (v := (nI 0)) rfl ?_
  refine a_putI (pc := 2) hG sc_46 cl_X7 ok_X7 3 (by decide) rfl t_369 rfl (ty := .int) rfl rfl rfl hd dX7_read_2 (fun h1 hd => ?_)
  refine a_aload_n (pc := 5) hG 0 rfl dX7_read_5 rfl ?_
  refine a_iconst (pc := 6) hG dX7_read_6 (v := (nI 0)) rfl ?_
  refine a_putI (pc := 7) hG sc_46 cl_X7 ok_X7 4 (by decide) rfl t_370 rfl (ty := .int) rfl rfl rfl hd dX7_read_7 (fun h2 hd => ?_)
  refine a_aload_n (pc := 10) hG 1 rfl dX7_read_10 rfl ?_
  refine a_sipush (pc := 11) hG dX7_read_11 (v := (nI 200)) rfl ?_
  refine a_cvN (pc := 14) hG (As := [.int (nI 200)]) (st := []) sc_1 cl_X8 mk_X8_begin t_1311 (by omega) (fun z hz => c_Tape_begin F (nI 200) _  z hz) rfl (Nat.le_of_ble_eq_true rfl) hd dX7_read_14 (fun _ h3 hd => ?_)
  refine a_aload_n (pc := 17) hG 0 rfl dX7_read_17 rfl ?_
  refine a_aload_n (pc := 18) hG 1 rfl dX7_read_18 rfl ?_
  refine a_aload_n (pc := 19) hG 2 rfl dX7_read_19 rfl ?_
  refine a_iconst (pc := 20) hG dX7_read_20 (v := (nI 1)) rfl ?_
  refine a_cvI (pc := 21) hG (As := [.ref (ad 1), .ref (ad 3), .int (nI 1)]) (st := []) sc_46 cl_X7 mk_X7_readCond t_1312 (by omega) (fun z hz => c_Sent_readCond_46 F 24 (nI 1) _  z hz) rfl (Nat.le_of_ble_eq_true rfl) hd dX7_read_21 (fun r5 h4 hd => ?_)
  refine a_if_ne (pc := 24) hG (tgt := 29) hd dX7_read_24 (by decide) (fun hd => ?_) (fun hd => ?_)
  · refine a_aload_n (pc := 29) hG 1 rfl dX7_read_29 rfl ?_
    refine a_cvI (pc := 30) hG (As := []) (st := []) sc_1 cl_X8 mk_X8_isAtEnd t_1378 (by omega) (fun z hz => c_Tape_isAtEnd  _  z hz) rfl (Nat.le_of_ble_eq_true rfl) hd dX7_read_30 (fun r7 h6 hd => ?_)
    refine a_if_ne (pc := 33) hG (tgt := 44) hd dX7_read_33 (by decide) (fun hd => ?_) (fun hd => ?_)
    · refine a_aload_n (pc := 44) hG 0 rfl dX7_read_44 rfl ?_
      refine a_getI (pc := 45) hG sc_46 cl_X7 ok_X7 4 (by decide) rfl t_370 dX7_read_45 ?_
      exact a_iret (pc := 48) hG hd dX7_read_48
    refine a_aload_n (pc := 36) hG 1 rfl dX7_read_36 rfl ?_
    refine a_iconst (pc := 37) hG dX7_read_37 (v := (nI 1)) rfl ?_
    refine a_cvI (pc := 38) hG (As := [.int (nI 1)]) (st := []) sc_1 cl_X8 mk_X8_fail t_1353 (by omega) (fun z hz => c_Tape_fail (nI 1) _  z hz) rfl (Nat.le_of_ble_eq_true rfl) hd dX7_read_38 (fun r9 h8 hd => ?_)
    refine a_pop (pc := 41) hG dX7_read_41 rfl ?_
    refine a_iconst (pc := 42) hG dX7_read_42 (v := (-1 : Int32)) rfl ?_
    exact a_iret (pc := 43) hG hd dX7_read_43
  refine a_iconst (pc := 27) hG dX7_read_27 (v := (-1 : Int32)) rfl ?_
  exact a_iret (pc := 28) hG hd dX7_read_28
theorem dX7_copyFrom_0 : decode cX7_copyFrom 0 = .ok (.aload_n 0, 1) := by decide +kernel
theorem dX7_copyFrom_1 : decode cX7_copyFrom 1 = .ok (.aload_n 1, 1) := by decide +kernel
theorem dX7_copyFrom_2 : decode cX7_copyFrom 2 = .ok (.getfield 21, 3) := by decide +kernel
theorem dX7_copyFrom_5 : decode cX7_copyFrom 5 = .ok (.putfield 21, 3) := by decide +kernel
theorem dX7_copyFrom_8 : decode cX7_copyFrom 8 = .ok (.aload_n 1, 1) := by decide +kernel
theorem dX7_copyFrom_9 : decode cX7_copyFrom 9 = .ok (.getfield 11, 3) := by decide +kernel
theorem dX7_copyFrom_12 : decode cX7_copyFrom 12 = .ok (.iconst 0, 1) := by decide +kernel
theorem dX7_copyFrom_13 : decode cX7_copyFrom 13 = .ok (.aload_n 0, 1) := by decide +kernel
theorem dX7_copyFrom_14 : decode cX7_copyFrom 14 = .ok (.getfield 11, 3) := by decide +kernel
theorem dX7_copyFrom_17 : decode cX7_copyFrom 17 = .ok (.iconst 0, 1) := by decide +kernel
theorem dX7_copyFrom_18 : decode cX7_copyFrom 18 = .ok (.bipush 40, 2) := by decide +kernel
theorem dX7_copyFrom_20 : decode cX7_copyFrom 20 = .ok (.invokestatic 28, 3) := by decide +kernel
theorem dX7_copyFrom_23 : decode cX7_copyFrom 23 = .ok (.aload_n 1, 1) := by decide +kernel
theorem dX7_copyFrom_24 : decode cX7_copyFrom 24 = .ok (.getfield 15, 3) := by decide +kernel
theorem dX7_copyFrom_27 : decode cX7_copyFrom 27 = .ok (.iconst 0, 1) := by decide +kernel
theorem dX7_copyFrom_28 : decode cX7_copyFrom 28 = .ok (.aload_n 0, 1) := by decide +kernel
theorem dX7_copyFrom_29 : decode cX7_copyFrom 29 = .ok (.getfield 15, 3) := by decide +kernel
theorem dX7_copyFrom_32 : decode cX7_copyFrom 32 = .ok (.iconst 0, 1) := by decide +kernel
theorem dX7_copyFrom_33 : decode cX7_copyFrom 33 = .ok (.bipush 40, 2) := by decide +kernel
theorem dX7_copyFrom_35 : decode cX7_copyFrom 35 = .ok (.invokestatic 28, 3) := by decide +kernel
theorem dX7_copyFrom_38 : decode cX7_copyFrom 38 = .ok (.aload_n 1, 1) := by decide +kernel
theorem dX7_copyFrom_39 : decode cX7_copyFrom 39 = .ok (.getfield 18, 3) := by decide +kernel
theorem dX7_copyFrom_42 : decode cX7_copyFrom 42 = .ok (.iconst 0, 1) := by decide +kernel
theorem dX7_copyFrom_43 : decode cX7_copyFrom 43 = .ok (.aload_n 0, 1) := by decide +kernel
theorem dX7_copyFrom_44 : decode cX7_copyFrom 44 = .ok (.getfield 18, 3) := by decide +kernel
theorem dX7_copyFrom_47 : decode cX7_copyFrom 47 = .ok (.iconst 0, 1) := by decide +kernel
theorem dX7_copyFrom_48 : decode cX7_copyFrom 48 = .ok (.bipush 40, 2) := by decide +kernel
theorem dX7_copyFrom_50 : decode cX7_copyFrom 50 = .ok (.invokestatic 28, 3) := by decide +kernel
theorem dX7_copyFrom_53 : decode cX7_copyFrom 53 = .ok (.return_, 1) := by decide +kernel
set_option maxHeartbeats 4000000 in
theorem c_Sent_copyFrom_42_46 {ad wad : Nat → Nat}  (h : HS)  (q : Unit × HS) (hd : f_Sent_copyFrom_42_46  h = some q) : Ctr SHc ad wad yX7_copyFrom cX7_copyFrom 2 none 2 [.ref (ad 42), .ref (ad 46)] h (none, q.2) := by
  refine enter (own := RX7) (lv := [(0, .ref (ad 42)), (1, .ref (ad 46))]) (by decide +kernel) rfl (Nat.le_of_ble_eq_true rfl) rfl (fun Γ hG => ?_)
  unfold f_Sent_copyFrom_42_46 at hd
  refine a_aload_n (pc := 0) hG 0 rfl dX7_copyFrom_0 rfl ?_
  refine a_aload_n (pc := 1) hG 1 rfl dX7_copyFrom_1 rfl ?_
  refine a_getI (pc := 2) hG sc_46 cl_X7 ok_X7 3 (by decide) rfl t_369 dX7_copyFrom_2 ?_
  refine a_putI (pc := 5) hG sc_42 cl_X7 ok_X7 3 (by decide) rfl t_369 rfl (ty := .int) rfl rfl rfl hd dX7_copyFrom_5 (fun h1 hd => ?_)
  refine a_aload_n (pc := 8) hG 1 rfl dX7_copyFrom_8 rfl ?_
  refine a_getR (pc := 9) hG sc_46 cl_X7 ok_X7 0 (by decide) rfl t_366 dX7_copyFrom_9 ?_
  refine a_iconst (pc := 12) hG dX7_copyFrom_12 (v := (nI 0)) rfl ?_
  refine a_aload_n (pc := 13) hG 0 rfl dX7_copyFrom_13 rfl ?_
  refine a_getR (pc := 14) hG sc_42 cl_X7 ok_X7 0 (by decide) rfl t_366 dX7_copyFrom_14 ?_
  refine a_iconst (pc := 17) hG dX7_copyFrom_17 (v := (nI 0)) rfl ?_
  refine a_bipush (pc := 18) hG dX7_copyFrom_18 (v := (nI 40)) rfl ?_
  refine a_cpI (pc := 20) hG 40 sc_47 sc_43 rfl (by decide) (by decide) (by decide) t_1383 t_764 t_763 t_136 (by omega) (Nat.le_of_ble_eq_true rfl) hd dX7_copyFrom_20 (fun h2 hd => ?_)
  refine a_aload_n (pc := 23) hG 1 rfl dX7_copyFrom_23 rfl ?_
  refine a_getR (pc := 24) hG sc_46 cl_X7 ok_X7 1 (by decide) rfl t_367 dX7_copyFrom_24 ?_
  refine a_iconst (pc := 27) hG dX7_copyFrom_27 (v := (nI 0)) rfl ?_
  refine a_aload_n (pc := 28) hG 0 rfl dX7_copyFrom_28 rfl ?_
  refine a_getR (pc := 29) hG sc_42 cl_X7 ok_X7 1 (by decide) rfl t_367 dX7_copyFrom_29 ?_
  refine a_iconst (pc := 32) hG dX7_copyFrom_32 (v := (nI 0)) rfl ?_
  refine a_bipush (pc := 33) hG dX7_copyFrom_33 (v := (nI 40)) rfl ?_
  refine a_cpI (pc := 35) hG 40 sc_48 sc_44 rfl (by decide) (by decide) (by decide) t_1383 t_764 t_763 t_136 (by omega) (Nat.le_of_ble_eq_true rfl) hd dX7_copyFrom_35 (fun h3 hd => ?_)
  refine a_aload_n (pc := 38) hG 1 rfl dX7_copyFrom_38 rfl ?_
  refine a_getR (pc := 39) hG sc_46 cl_X7 ok_X7 2 (by decide) rfl t_368 dX7_copyFrom_39 ?_
  refine a_iconst (pc := 42) hG dX7_copyFrom_42 (v := (nI 0)) rfl ?_
  refine a_aload_n (pc := 43) hG 0 rfl dX7_copyFrom_43 rfl ?_
  refine a_getR (pc := 44) hG sc_42 cl_X7 ok_X7 2 (by decide) rfl t_368 dX7_copyFrom_44 ?_
  refine a_iconst (pc := 47) hG dX7_copyFrom_47 (v := (nI 0)) rfl ?_
  refine a_bipush (pc := 48) hG dX7_copyFrom_48 (v := (nI 40)) rfl ?_
  refine a_cpI (pc := 50) hG 40 sc_49 sc_45 rfl (by decide) (by decide) (by decide) t_1383 t_764 t_763 t_136 (by omega) (Nat.le_of_ble_eq_true rfl) hd dX7_copyFrom_50 (fun h4 hd => ?_)
  exact a_vret (pc := 53) hG hd dX7_copyFrom_53
theorem dX11_sentence_0 : decode cX11_sentence 0 = .ok (.aload_n 0, 1) := by decide +kernel
theorem dX11_sentence_1 : decode cX11_sentence 1 = .ok (.getfield 76, 3) := by decide +kernel
theorem dX11_sentence_4 : decode cX11_sentence 4 = .ok (.aload_n 0, 1) := by decide +kernel
theorem dX11_sentence_5 : decode cX11_sentence 5 = .ok (.getfield 12, 3) := by decide +kernel
theorem dX11_sentence_8 : decode cX11_sentence 8 = .ok (.aload_n 0, 1) := by decide +kernel
theorem dX11_sentence_9 : decode cX11_sentence 9 = .ok (.getfield 19, 3) := by decide +kernel
theorem dX11_sentence_12 : decode cX11_sentence 12 = .ok (.invokevirtual 314, 3) := by decide +kernel
theorem dX11_sentence_15 : decode cX11_sentence 15 = .ok (.istore_n 1, 1) := by decide +kernel
theorem dX11_sentence_16 : decode cX11_sentence 16 = .ok (.aload_n 0, 1) := by decide +kernel
theorem dX11_sentence_17 : decode cX11_sentence 17 = .ok (.getfield 12, 3) := by decide +kernel
theorem dX11_sentence_20 : decode cX11_sentence 20 = .ok (.invokevirtual 131, 3) := by decide +kernel
theorem dX11_sentence_23 : decode cX11_sentence 23 = .ok (.aload_n 0, 1) := by decide +kernel
theorem dX11_sentence_24 : decode cX11_sentence 24 = .ok (.aload_n 0, 1) := by decide +kernel
theorem dX11_sentence_25 : decode cX11_sentence 25 = .ok (.getfield 12, 3) := by decide +kernel
theorem dX11_sentence_28 : decode cX11_sentence 28 = .ok (.invokevirtual 134, 3) := by decide +kernel
theorem dX11_sentence_31 : decode cX11_sentence 31 = .ok (.putfield 103, 3) := by decide +kernel
theorem dX11_sentence_34 : decode cX11_sentence 34 = .ok (.iload_n 1, 1) := by decide +kernel
theorem dX11_sentence_35 : decode cX11_sentence 35 = .ok (.iconst (-1), 1) := by decide +kernel
theorem dX11_sentence_36 : decode cX11_sentence 36 = .ok (.if_icmp .ne 13, 3) := by decide +kernel
theorem dX11_sentence_39 : decode cX11_sentence 39 = .ok (.iconst (-1), 1) := by decide +kernel
theorem dX11_sentence_40 : decode cX11_sentence 40 = .ok (.aload_n 0, 1) := by decide +kernel
theorem dX11_sentence_41 : decode cX11_sentence 41 = .ok (.getfield 12, 3) := by decide +kernel
theorem dX11_sentence_44 : decode cX11_sentence 44 = .ok (.invokevirtual 137, 3) := by decide +kernel
theorem dX11_sentence_47 : decode cX11_sentence 47 = .ok (.isub, 1) := by decide +kernel
theorem dX11_sentence_48 : decode cX11_sentence 48 = .ok (.ireturn, 1) := by decide +kernel
theorem dX11_sentence_49 : decode cX11_sentence 49 = .ok (.aload_n 0, 1) := by decide +kernel
theorem dX11_sentence_50 : decode cX11_sentence 50 = .ok (.getfield 72, 3) := by decide +kernel
theorem dX11_sentence_53 : decode cX11_sentence 53 = .ok (.aload_n 0, 1) := by decide +kernel
theorem dX11_sentence_54 : decode cX11_sentence 54 = .ok (.getfield 76, 3) := by decide +kernel
theorem dX11_sentence_57 : decode cX11_sentence 57 = .ok (.invokevirtual 317, 3) := by decide +kernel
theorem dX11_sentence_60 : decode cX11_sentence 60 = .ok (.iload_n 1, 1) := by decide +kernel
theorem dX11_sentence_61 : decode cX11_sentence 61 = .ok (.ireturn, 1) := by decide +kernel
set_option maxHeartbeats 4000000 in
theorem c_LC_sentence {ad wad : Nat → Nat} (F : Nat)  (h : HS)  (q : Int32 × HS) (hd : f_LC_sentence F  h = some q) : Ctr SHc ad wad yX11_sentence cX11_sentence 2 (some .int) 31 [.ref (ad 0)] h (some (.int q.1), q.2) := by
  refine enter (own := RX11) (lv := [(0, .ref (ad 0))]) (by decide +kernel) rfl (Nat.le_of_ble_eq_true rfl) rfl (fun Γ hG => ?_)
  unfold f_LC_sentence at hd
  refine a_aload_n (pc := 0) hG 0 rfl dX11_sentence_0 rfl ?_
  refine a_getR (pc := 1) hG sc_0 cl_X11 ok_X11 9 (by decide) rfl t_490 dX11_sentence_1 ?_
  refine a_aload_n (pc := 4) hG 0 rfl dX11_sentence_4 rfl ?_
  refine a_getR (pc := 5) hG sc_0 cl_X11 ok_X11 0 (by decide) rfl t_481 dX11_sentence_5 ?_
  refine a_aload_n (pc := 8) hG 0 rfl dX11_sentence_8 rfl ?_
  refine a_getR (pc := 9) hG sc_0 cl_X11 ok_X11 1 (by decide) rfl t_482 dX11_sentence_9 ?_
  refine a_cvI (pc := 12) hG (As := [.ref (ad 1), .ref (ad 3)]) (st := []) sc_46 cl_X7 mk_X7_read t_1307 (by omega) (fun z hz => c_Sent_read_46 F  _  z hz) rfl (Nat.le_of_ble_eq_true rfl) hd dX11_sentence_12 (fun r2 h1 hd => ?_)
  refine a_istore_nN (pc := 15) hG hd dX11_sentence_15 rfl (by decide) (lf := fun x => [(1, .int x), (0, .ref (ad 0))]) (fun _ => rfl) (fun v3 hd => ?_)
  refine a_aload_n (pc := 16) hG 1 rfl dX11_sentence_16 rfl ?_
  refine a_getR (pc := 17) hG sc_0 cl_X11 ok_X11 0 (by decide) rfl t_481 dX11_sentence_17 ?_
  refine a_cvN (pc := 20) hG (As := []) (st := []) sc_1 cl_X8 mk_X8_empty t_746 (by omega) (fun z hz => c_Tape_empty  _  z hz) rfl (Nat.le_of_ble_eq_true rfl) hd dX11_sentence_20 (fun _ h4 hd => ?_)
  refine a_aload_n (pc := 23) hG 1 rfl dX11_sentence_23 rfl ?_
  refine a_aload_n (pc := 24) hG 1 rfl dX11_sentence_24 rfl ?_
  refine a_getR (pc := 25) hG sc_0 cl_X11 ok_X11 0 (by decide) rfl t_481 dX11_sentence_25 ?_
  refine a_cvI (pc := 28) hG (As := []) (st := [.ref (ad 0)]) sc_1 cl_X8 mk_X8_faultKind t_750 (by omega) (fun z hz => c_Tape_faultKind  _  z hz) rfl (Nat.le_of_ble_eq_true rfl) hd dX11_sentence_28 (fun r6 h5 hd => ?_)
  refine a_putI (pc := 31) hG sc_0 cl_X11 ok_X11 15 (by decide) rfl t_496 rfl (ty := .int) rfl rfl rfl hd dX11_sentence_31 (fun h7 hd => ?_)
  refine a_iload_n (pc := 34) hG 0 rfl dX11_sentence_34 rfl ?_
  refine a_iconst (pc := 35) hG dX11_sentence_35 (v := (-1 : Int32)) rfl ?_
  refine a_ic_ne (pc := 36) hG (tgt := 49) hd dX11_sentence_36 (by decide) (fun hd => ?_) (fun hd => ?_)
  · refine a_aload_n (pc := 49) hG 1 rfl dX11_sentence_49 rfl ?_
    refine a_getR (pc := 50) hG sc_0 cl_X11 ok_X11 8 (by decide) rfl t_489 dX11_sentence_50 ?_
    refine a_aload_n (pc := 53) hG 1 rfl dX11_sentence_53 rfl ?_
    refine a_getR (pc := 54) hG sc_0 cl_X11 ok_X11 9 (by decide) rfl t_490 dX11_sentence_54 ?_
    refine a_cvN (pc := 57) hG (As := [.ref (ad 46)]) (st := []) sc_42 cl_X7 mk_X7_copyFrom t_1379 (by omega) (fun z hz => c_Sent_copyFrom_42_46  _  z hz) rfl (Nat.le_of_ble_eq_true rfl) hd dX11_sentence_57 (fun _ h8 hd => ?_)
    refine a_iload_n (pc := 60) hG 0 rfl dX11_sentence_60 rfl ?_
    exact a_iret (pc := 61) hG hd dX11_sentence_61
  refine a_iconst (pc := 39) hG dX11_sentence_39 (v := (-1 : Int32)) rfl ?_
  refine a_aload_n (pc := 40) hG 1 rfl dX11_sentence_40 rfl ?_
  refine a_getR (pc := 41) hG sc_0 cl_X11 ok_X11 0 (by decide) rfl t_481 dX11_sentence_41 ?_
  refine a_cvI (pc := 44) hG (As := []) (st := [.int (-1 : Int32)]) sc_1 cl_X8 mk_X8_faultPlace t_754 (by omega) (fun z hz => c_Tape_faultPlace  _  z hz) rfl (Nat.le_of_ble_eq_true rfl) hd dX11_sentence_44 (fun r10 h9 hd => ?_)
  refine a_isub (pc := 47) hG dX11_sentence_47 ?_
  exact a_iret (pc := 48) hG hd dX11_sentence_48
theorem dX7_isEmpty_0 : decode cX7_isEmpty 0 = .ok (.aload_n 0, 1) := by decide +kernel
theorem dX7_isEmpty_1 : decode cX7_isEmpty 1 = .ok (.getfield 21, 3) := by decide +kernel
theorem dX7_isEmpty_4 : decode cX7_isEmpty 4 = .ok (.ifCond .ne 7, 3) := by decide +kernel
theorem dX7_isEmpty_7 : decode cX7_isEmpty 7 = .ok (.iconst 1, 1) := by decide +kernel
theorem dX7_isEmpty_8 : decode cX7_isEmpty 8 = .ok (.goto 4, 3) := by decide +kernel
theorem dX7_isEmpty_11 : decode cX7_isEmpty 11 = .ok (.iconst 0, 1) := by decide +kernel
theorem dX7_isEmpty_12 : decode cX7_isEmpty 12 = .ok (.ireturn, 1) := by decide +kernel
set_option maxHeartbeats 4000000 in
theorem c_Sent_isEmpty_42 {ad wad : Nat → Nat}  (h : HS)  (q : Int32 × HS) (hd : f_Sent_isEmpty_42  h = some q) : Ctr SHc ad wad yX7_isEmpty cX7_isEmpty 1 (some .boolean) 1 [.ref (ad 42)] h (some (.int q.1), q.2) := by
  refine enter (own := RX7) (lv := [(0, .ref (ad 42))]) (by decide +kernel) rfl (Nat.le_of_ble_eq_true rfl) rfl (fun Γ hG => ?_)
  unfold f_Sent_isEmpty_42 at hd
  refine a_aload_n (pc := 0) hG 0 rfl dX7_isEmpty_0 rfl ?_
  refine a_getI (pc := 1) hG sc_42 cl_X7 ok_X7 3 (by decide) rfl t_369 dX7_isEmpty_1 ?_
  refine a_if_ne (pc := 4) hG (tgt := 11) hd dX7_isEmpty_4 (by decide) (fun hd => ?_) (fun hd => ?_)
  · refine a_iconst (pc := 11) hG dX7_isEmpty_11 (v := (nI 0)) rfl ?_
    exact a_zret (pc := 12) hG hd dX7_isEmpty_12
  refine a_iconst (pc := 7) hG dX7_isEmpty_7 (v := (nI 1)) rfl ?_
  refine a_goto (pc := 8) hG (tgt := 12) dX7_isEmpty_8 (by decide) ?_
  exact a_zret (pc := 12) hG hd dX7_isEmpty_12
theorem dX7_isSo_0 : decode cX7_isSo 0 = .ok (.aload_n 0, 1) := by decide +kernel
theorem dX7_isSo_1 : decode cX7_isSo 1 = .ok (.getfield 15, 3) := by decide +kernel
theorem dX7_isSo_4 : decode cX7_isSo 4 = .ok (.iload_n 2, 1) := by decide +kernel
theorem dX7_isSo_5 : decode cX7_isSo 5 = .ok (.iaload, 1) := by decide +kernel
theorem dX7_isSo_6 : decode cX7_isSo 6 = .ok (.bipush 60, 2) := by decide +kernel
theorem dX7_isSo_8 : decode cX7_isSo 8 = .ok (.if_icmp .ne 19, 3) := by decide +kernel
theorem dX7_isSo_11 : decode cX7_isSo 11 = .ok (.iload_n 1, 1) := by decide +kernel
theorem dX7_isSo_12 : decode cX7_isSo 12 = .ok (.aload_n 0, 1) := by decide +kernel
theorem dX7_isSo_13 : decode cX7_isSo 13 = .ok (.getfield 18, 3) := by decide +kernel
theorem dX7_isSo_16 : decode cX7_isSo 16 = .ok (.iload_n 2, 1) := by decide +kernel
theorem dX7_isSo_17 : decode cX7_isSo 17 = .ok (.iaload, 1) := by decide +kernel
theorem dX7_isSo_18 : decode cX7_isSo 18 = .ok (.if_icmp .ge 7, 3) := by decide +kernel
theorem dX7_isSo_21 : decode cX7_isSo 21 = .ok (.iconst 1, 1) := by decide +kernel
theorem dX7_isSo_22 : decode cX7_isSo 22 = .ok (.goto 4, 3) := by decide +kernel
theorem dX7_isSo_25 : decode cX7_isSo 25 = .ok (.iconst 0, 1) := by decide +kernel
theorem dX7_isSo_26 : decode cX7_isSo 26 = .ok (.ireturn, 1) := by decide +kernel
theorem dX7_isSo_27 : decode cX7_isSo 27 = .ok (.aload_n 0, 1) := by decide +kernel
theorem dX7_isSo_28 : decode cX7_isSo 28 = .ok (.getfield 15, 3) := by decide +kernel
theorem dX7_isSo_31 : decode cX7_isSo 31 = .ok (.iload_n 2, 1) := by decide +kernel
theorem dX7_isSo_32 : decode cX7_isSo 32 = .ok (.iaload, 1) := by decide +kernel
theorem dX7_isSo_33 : decode cX7_isSo 33 = .ok (.bipush 62, 2) := by decide +kernel
theorem dX7_isSo_35 : decode cX7_isSo 35 = .ok (.if_icmp .ne 21, 3) := by decide +kernel
theorem dX7_isSo_38 : decode cX7_isSo 38 = .ok (.iload_n 1, 1) := by decide +kernel
theorem dX7_isSo_39 : decode cX7_isSo 39 = .ok (.aload_n 0, 1) := by decide +kernel
theorem dX7_isSo_40 : decode cX7_isSo 40 = .ok (.getfield 18, 3) := by decide +kernel
theorem dX7_isSo_43 : decode cX7_isSo 43 = .ok (.iload_n 2, 1) := by decide +kernel
theorem dX7_isSo_44 : decode cX7_isSo 44 = .ok (.iaload, 1) := by decide +kernel
theorem dX7_isSo_45 : decode cX7_isSo 45 = .ok (.if_icmp .le 7, 3) := by decide +kernel
theorem dX7_isSo_48 : decode cX7_isSo 48 = .ok (.iconst 1, 1) := by decide +kernel
theorem dX7_isSo_49 : decode cX7_isSo 49 = .ok (.goto 22, 3) := by decide +kernel
theorem dX7_isSo_52 : decode cX7_isSo 52 = .ok (.iconst 0, 1) := by decide +kernel
theorem dX7_isSo_53 : decode cX7_isSo 53 = .ok (.goto 18, 3) := by decide +kernel
theorem dX7_isSo_56 : decode cX7_isSo 56 = .ok (.iload_n 1, 1) := by decide +kernel
theorem dX7_isSo_57 : decode cX7_isSo 57 = .ok (.aload_n 0, 1) := by decide +kernel
theorem dX7_isSo_58 : decode cX7_isSo 58 = .ok (.getfield 18, 3) := by decide +kernel
theorem dX7_isSo_61 : decode cX7_isSo 61 = .ok (.iload_n 2, 1) := by decide +kernel
theorem dX7_isSo_62 : decode cX7_isSo 62 = .ok (.iaload, 1) := by decide +kernel
theorem dX7_isSo_63 : decode cX7_isSo 63 = .ok (.if_icmp .ne 7, 3) := by decide +kernel
theorem dX7_isSo_66 : decode cX7_isSo 66 = .ok (.iconst 1, 1) := by decide +kernel
theorem dX7_isSo_67 : decode cX7_isSo 67 = .ok (.goto 4, 3) := by decide +kernel
theorem dX7_isSo_70 : decode cX7_isSo 70 = .ok (.iconst 0, 1) := by decide +kernel
theorem dX7_isSo_71 : decode cX7_isSo 71 = .ok (.ireturn, 1) := by decide +kernel
set_option maxHeartbeats 4000000 in
theorem c_Sent_isSo_42 {ad wad : Nat → Nat} (a0 : Int32) (a1 : Int32) (h : HS)  (q : Int32 × HS) (hd : f_Sent_isSo_42 a0 a1 h = some q) : Ctr SHc ad wad yX7_isSo cX7_isSo 3 (some .boolean) 1 [.ref (ad 42), .int a0, .int a1] h (some (.int q.1), q.2) := by
  refine enter (own := RX7) (lv := [(0, .ref (ad 42)), (1, .int a0), (2, .int a1)]) (by decide +kernel) rfl (Nat.le_of_ble_eq_true rfl) rfl (fun Γ hG => ?_)
  unfold f_Sent_isSo_42 at hd
  refine a_aload_n (pc := 0) hG 0 rfl dX7_isSo_0 rfl ?_
  refine a_getR (pc := 1) hG sc_42 cl_X7 ok_X7 1 (by decide) rfl t_367 dX7_isSo_1 ?_
  refine a_iload_n (pc := 4) hG 2 rfl dX7_isSo_4 rfl ?_
  refine a_iald (pc := 5) hG sc_44 hd dX7_isSo_5 (fun hd => ?_)
  refine a_bipush (pc := 6) hG dX7_isSo_6 (v := (nI 60)) rfl ?_
  refine a_ic_ne (pc := 8) hG (tgt := 27) hd dX7_isSo_8 (by decide) (fun hd => ?_) (fun hd => ?_)
  · refine a_aload_n (pc := 27) hG 0 rfl dX7_isSo_27 rfl ?_
    refine a_getR (pc := 28) hG sc_42 cl_X7 ok_X7 1 (by decide) rfl t_367 dX7_isSo_28 ?_
    refine a_iload_n (pc := 31) hG 2 rfl dX7_isSo_31 rfl ?_
    refine a_iald (pc := 32) hG sc_44 hd dX7_isSo_32 (fun hd => ?_)
    refine a_bipush (pc := 33) hG dX7_isSo_33 (v := (nI 62)) rfl ?_
    refine a_ic_ne (pc := 35) hG (tgt := 56) hd dX7_isSo_35 (by decide) (fun hd => ?_) (fun hd => ?_)
    · refine a_iload_n (pc := 56) hG 1 rfl dX7_isSo_56 rfl ?_
      refine a_aload_n (pc := 57) hG 0 rfl dX7_isSo_57 rfl ?_
      refine a_getR (pc := 58) hG sc_42 cl_X7 ok_X7 2 (by decide) rfl t_368 dX7_isSo_58 ?_
      refine a_iload_n (pc := 61) hG 2 rfl dX7_isSo_61 rfl ?_
      refine a_iald (pc := 62) hG sc_45 hd dX7_isSo_62 (fun hd => ?_)
      refine a_ic_ne (pc := 63) hG (tgt := 70) hd dX7_isSo_63 (by decide) (fun hd => ?_) (fun hd => ?_)
      · refine a_iconst (pc := 70) hG dX7_isSo_70 (v := (nI 0)) rfl ?_
        exact a_zret (pc := 71) hG hd dX7_isSo_71
      refine a_iconst (pc := 66) hG dX7_isSo_66 (v := (nI 1)) rfl ?_
      refine a_goto (pc := 67) hG (tgt := 71) dX7_isSo_67 (by decide) ?_
      exact a_zret (pc := 71) hG hd dX7_isSo_71
    refine a_iload_n (pc := 38) hG 1 rfl dX7_isSo_38 rfl ?_
    refine a_aload_n (pc := 39) hG 0 rfl dX7_isSo_39 rfl ?_
    refine a_getR (pc := 40) hG sc_42 cl_X7 ok_X7 2 (by decide) rfl t_368 dX7_isSo_40 ?_
    refine a_iload_n (pc := 43) hG 2 rfl dX7_isSo_43 rfl ?_
    refine a_iald (pc := 44) hG sc_45 hd dX7_isSo_44 (fun hd => ?_)
    refine a_ic_le (pc := 45) hG (tgt := 52) hd dX7_isSo_45 (by decide) (fun hd => ?_) (fun hd => ?_)
    · refine a_iconst (pc := 52) hG dX7_isSo_52 (v := (nI 0)) rfl ?_
      refine a_goto (pc := 53) hG (tgt := 71) dX7_isSo_53 (by decide) ?_
      exact a_zret (pc := 71) hG hd dX7_isSo_71
    refine a_iconst (pc := 48) hG dX7_isSo_48 (v := (nI 1)) rfl ?_
    refine a_goto (pc := 49) hG (tgt := 71) dX7_isSo_49 (by decide) ?_
    exact a_zret (pc := 71) hG hd dX7_isSo_71
  refine a_iload_n (pc := 11) hG 1 rfl dX7_isSo_11 rfl ?_
  refine a_aload_n (pc := 12) hG 0 rfl dX7_isSo_12 rfl ?_
  refine a_getR (pc := 13) hG sc_42 cl_X7 ok_X7 2 (by decide) rfl t_368 dX7_isSo_13 ?_
  refine a_iload_n (pc := 16) hG 2 rfl dX7_isSo_16 rfl ?_
  refine a_iald (pc := 17) hG sc_45 hd dX7_isSo_17 (fun hd => ?_)
  refine a_ic_ge (pc := 18) hG (tgt := 25) hd dX7_isSo_18 (by decide) (fun hd => ?_) (fun hd => ?_)
  · refine a_iconst (pc := 25) hG dX7_isSo_25 (v := (nI 0)) rfl ?_
    exact a_zret (pc := 26) hG hd dX7_isSo_26
  refine a_iconst (pc := 21) hG dX7_isSo_21 (v := (nI 1)) rfl ?_
  refine a_goto (pc := 22) hG (tgt := 26) dX7_isSo_22 (by decide) ?_
  exact a_zret (pc := 26) hG hd dX7_isSo_26
theorem dX7_isTrue_0 : decode cX7_isTrue 0 = .ok (.aload_n 0, 1) := by decide +kernel
theorem dX7_isTrue_1 : decode cX7_isTrue 1 = .ok (.getfield 11, 3) := by decide +kernel
theorem dX7_isTrue_4 : decode cX7_isTrue 4 = .ok (.iload_n 1, 1) := by decide +kernel
theorem dX7_isTrue_5 : decode cX7_isTrue 5 = .ok (.iaload, 1) := by decide +kernel
theorem dX7_isTrue_6 : decode cX7_isTrue 6 = .ok (.tableswitch 115 3 7 #[34, 55, 80, 91, 103], 34) := by decide +kernel
theorem dX7_isTrue_40 : decode cX7_isTrue 40 = .ok (.aload_n 2, 1) := by decide +kernel
theorem dX7_isTrue_41 : decode cX7_isTrue 41 = .ok (.iload_n 3, 1) := by decide +kernel
theorem dX7_isTrue_42 : decode cX7_isTrue 42 = .ok (.iconst 4, 1) := by decide +kernel
theorem dX7_isTrue_43 : decode cX7_isTrue 43 = .ok (.invokevirtual 56, 3) := by decide +kernel
theorem dX7_isTrue_46 : decode cX7_isTrue 46 = .ok (.aload_n 0, 1) := by decide +kernel
theorem dX7_isTrue_47 : decode cX7_isTrue 47 = .ok (.getfield 15, 3) := by decide +kernel
theorem dX7_isTrue_50 : decode cX7_isTrue 50 = .ok (.iload_n 1, 1) := by decide +kernel
theorem dX7_isTrue_51 : decode cX7_isTrue 51 = .ok (.iaload, 1) := by decide +kernel
theorem dX7_isTrue_52 : decode cX7_isTrue 52 = .ok (.if_icmp .ne 7, 3) := by decide +kernel
theorem dX7_isTrue_55 : decode cX7_isTrue 55 = .ok (.iconst 1, 1) := by decide +kernel
theorem dX7_isTrue_56 : decode cX7_isTrue 56 = .ok (.goto 4, 3) := by decide +kernel
theorem dX7_isTrue_59 : decode cX7_isTrue 59 = .ok (.iconst 0, 1) := by decide +kernel
theorem dX7_isTrue_60 : decode cX7_isTrue 60 = .ok (.ireturn, 1) := by decide +kernel
theorem dX7_isTrue_61 : decode cX7_isTrue 61 = .ok (.aload_n 2, 1) := by decide +kernel
theorem dX7_isTrue_62 : decode cX7_isTrue 62 = .ok (.iload_n 3, 1) := by decide +kernel
theorem dX7_isTrue_63 : decode cX7_isTrue 63 = .ok (.bipush 6, 2) := by decide +kernel
theorem dX7_isTrue_65 : decode cX7_isTrue 65 = .ok (.invokevirtual 56, 3) := by decide +kernel
theorem dX7_isTrue_68 : decode cX7_isTrue 68 = .ok (.aload_n 0, 1) := by decide +kernel
theorem dX7_isTrue_69 : decode cX7_isTrue 69 = .ok (.getfield 15, 3) := by decide +kernel
theorem dX7_isTrue_72 : decode cX7_isTrue 72 = .ok (.iload_n 1, 1) := by decide +kernel
theorem dX7_isTrue_73 : decode cX7_isTrue 73 = .ok (.iaload, 1) := by decide +kernel
theorem dX7_isTrue_74 : decode cX7_isTrue 74 = .ok (.ishr, 1) := by decide +kernel
theorem dX7_isTrue_75 : decode cX7_isTrue 75 = .ok (.iconst 1, 1) := by decide +kernel
theorem dX7_isTrue_76 : decode cX7_isTrue 76 = .ok (.iand, 1) := by decide +kernel
theorem dX7_isTrue_77 : decode cX7_isTrue 77 = .ok (.ifCond .eq 7, 3) := by decide +kernel
theorem dX7_isTrue_80 : decode cX7_isTrue 80 = .ok (.iconst 1, 1) := by decide +kernel
theorem dX7_isTrue_81 : decode cX7_isTrue 81 = .ok (.goto 4, 3) := by decide +kernel
theorem dX7_isTrue_84 : decode cX7_isTrue 84 = .ok (.iconst 0, 1) := by decide +kernel
theorem dX7_isTrue_85 : decode cX7_isTrue 85 = .ok (.ireturn, 1) := by decide +kernel
theorem dX7_isTrue_86 : decode cX7_isTrue 86 = .ok (.aload_n 0, 1) := by decide +kernel
theorem dX7_isTrue_87 : decode cX7_isTrue 87 = .ok (.aload_n 2, 1) := by decide +kernel
theorem dX7_isTrue_88 : decode cX7_isTrue 88 = .ok (.iload_n 3, 1) := by decide +kernel
theorem dX7_isTrue_89 : decode cX7_isTrue 89 = .ok (.invokevirtual 62, 3) := by decide +kernel
theorem dX7_isTrue_92 : decode cX7_isTrue 92 = .ok (.iload_n 1, 1) := by decide +kernel
theorem dX7_isTrue_93 : decode cX7_isTrue 93 = .ok (.invokevirtual 66, 3) := by decide +kernel
theorem dX7_isTrue_96 : decode cX7_isTrue 96 = .ok (.ireturn, 1) := by decide +kernel
theorem dX7_isTrue_97 : decode cX7_isTrue 97 = .ok (.aload_n 0, 1) := by decide +kernel
theorem dX7_isTrue_98 : decode cX7_isTrue 98 = .ok (.aload_n 2, 1) := by decide +kernel
theorem dX7_isTrue_99 : decode cX7_isTrue 99 = .ok (.iload_n 3, 1) := by decide +kernel
theorem dX7_isTrue_100 : decode cX7_isTrue 100 = .ok (.iconst 2, 1) := by decide +kernel
theorem dX7_isTrue_101 : decode cX7_isTrue 101 = .ok (.invokevirtual 56, 3) := by decide +kernel
theorem dX7_isTrue_104 : decode cX7_isTrue 104 = .ok (.iload_n 1, 1) := by decide +kernel
theorem dX7_isTrue_105 : decode cX7_isTrue 105 = .ok (.invokevirtual 66, 3) := by decide +kernel
theorem dX7_isTrue_108 : decode cX7_isTrue 108 = .ok (.ireturn, 1) := by decide +kernel
theorem dX7_isTrue_109 : decode cX7_isTrue 109 = .ok (.aload_n 0, 1) := by decide +kernel
theorem dX7_isTrue_110 : decode cX7_isTrue 110 = .ok (.aload_n 2, 1) := by decide +kernel
theorem dX7_isTrue_111 : decode cX7_isTrue 111 = .ok (.iload_n 3, 1) := by decide +kernel
theorem dX7_isTrue_112 : decode cX7_isTrue 112 = .ok (.iconst 3, 1) := by decide +kernel
theorem dX7_isTrue_113 : decode cX7_isTrue 113 = .ok (.invokevirtual 56, 3) := by decide +kernel
theorem dX7_isTrue_116 : decode cX7_isTrue 116 = .ok (.iload_n 1, 1) := by decide +kernel
theorem dX7_isTrue_117 : decode cX7_isTrue 117 = .ok (.invokevirtual 66, 3) := by decide +kernel
theorem dX7_isTrue_120 : decode cX7_isTrue 120 = .ok (.ireturn, 1) := by decide +kernel
theorem dX7_isTrue_121 : decode cX7_isTrue 121 = .ok (.aload_n 0, 1) := by decide +kernel
theorem dX7_isTrue_122 : decode cX7_isTrue 122 = .ok (.iload_n 3, 1) := by decide +kernel
theorem dX7_isTrue_123 : decode cX7_isTrue 123 = .ok (.iload_n 1, 1) := by decide +kernel
theorem dX7_isTrue_124 : decode cX7_isTrue 124 = .ok (.invokevirtual 66, 3) := by decide +kernel
theorem dX7_isTrue_127 : decode cX7_isTrue 127 = .ok (.ireturn, 1) := by decide +kernel
set_option maxHeartbeats 4000000 in
theorem c_Sent_isTrue_42 {ad wad : Nat → Nat} (a0 : Int32) (a2 : Int32) (h : HS)  (q : Int32 × HS) (hd : f_Sent_isTrue_42 a0 a2 h = some q) : Ctr SHc ad wad yX7_isTrue cX7_isTrue 4 (some .boolean) 3 [.ref (ad 42), .int a0, .ref (ad 20), .int a2] h (some (.int q.1), q.2) := by
  refine enter (own := RX7) (lv := [(0, .ref (ad 42)), (1, .int a0), (2, .ref (ad 20)), (3, .int a2)]) (by decide +kernel) rfl (Nat.le_of_ble_eq_true rfl) rfl (fun Γ hG => ?_)
  unfold f_Sent_isTrue_42 at hd
  refine a_aload_n (pc := 0) hG 0 rfl dX7_isTrue_0 rfl ?_
  refine a_getR (pc := 1) hG sc_42 cl_X7 ok_X7 0 (by decide) rfl t_366 dX7_isTrue_1 ?_
  refine a_iload_n (pc := 4) hG 1 rfl dX7_isTrue_4 rfl ?_
  refine a_iald (pc := 5) hG sc_43 hd dX7_isTrue_5 (fun hd => ?_)
  refine a_tcase (pc := 6) hG ((nI 3)) (tgt := 40) hd dX7_isTrue_6 (by decide) (by decide) rfl (by decide) (fun hd => ?_) (fun n3 hd => ?_)
  · refine a_aload_n (pc := 40) hG 2 rfl dX7_isTrue_40 rfl ?_
    refine a_iload_n (pc := 41) hG 3 rfl dX7_isTrue_41 rfl ?_
    refine a_iconst (pc := 42) hG dX7_isTrue_42 (v := (nI 4)) rfl ?_
    refine a_cvI (pc := 43) hG (As := [.int a2, .int (nI 4)]) (st := []) sc_20 cl_X0 mk_X0_ofCause t_1400 (by omega) (fun z hz => c_Desk_ofCause a2 (nI 4) _  z hz) rfl (Nat.le_of_ble_eq_true rfl) hd dX7_isTrue_43 (fun r2 h1 hd => ?_)
    refine a_aload_n (pc := 46) hG 0 rfl dX7_isTrue_46 rfl ?_
    refine a_getR (pc := 47) hG sc_42 cl_X7 ok_X7 1 (by decide) rfl t_367 dX7_isTrue_47 ?_
    refine a_iload_n (pc := 50) hG 1 rfl dX7_isTrue_50 rfl ?_
    refine a_iald (pc := 51) hG sc_44 hd dX7_isTrue_51 (fun hd => ?_)
    refine a_ic_ne (pc := 52) hG (tgt := 59) hd dX7_isTrue_52 (by decide) (fun hd => ?_) (fun hd => ?_)
    · refine a_iconst (pc := 59) hG dX7_isTrue_59 (v := (nI 0)) rfl ?_
      exact a_zret (pc := 60) hG hd dX7_isTrue_60
    refine a_iconst (pc := 55) hG dX7_isTrue_55 (v := (nI 1)) rfl ?_
    refine a_goto (pc := 56) hG (tgt := 60) dX7_isTrue_56 (by decide) ?_
    exact a_zret (pc := 60) hG hd dX7_isTrue_60
  refine a_tcase (pc := 6) hG ((nI 4)) (tgt := 61) hd dX7_isTrue_6 (by decide) (by decide) rfl (by decide) (fun hd => ?_) (fun n4 hd => ?_)
  · refine a_aload_n (pc := 61) hG 2 rfl dX7_isTrue_61 rfl ?_
    refine a_iload_n (pc := 62) hG 3 rfl dX7_isTrue_62 rfl ?_
    refine a_bipush (pc := 63) hG dX7_isTrue_63 (v := (nI 6)) rfl ?_
    refine a_cvI (pc := 65) hG (As := [.int a2, .int (nI 6)]) (st := []) sc_20 cl_X0 mk_X0_ofCause t_1400 (by omega) (fun z hz => c_Desk_ofCause a2 (nI 6) _  z hz) rfl (Nat.le_of_ble_eq_true rfl) hd dX7_isTrue_65 (fun r4 h3 hd => ?_)
    refine a_aload_n (pc := 68) hG 0 rfl dX7_isTrue_68 rfl ?_
    refine a_getR (pc := 69) hG sc_42 cl_X7 ok_X7 1 (by decide) rfl t_367 dX7_isTrue_69 ?_
    refine a_iload_n (pc := 72) hG 1 rfl dX7_isTrue_72 rfl ?_
    refine a_iald (pc := 73) hG sc_44 hd dX7_isTrue_73 (fun hd => ?_)
    refine a_ishr (pc := 74) hG dX7_isTrue_74 ?_
    refine a_iconst (pc := 75) hG dX7_isTrue_75 (v := (nI 1)) rfl ?_
    refine a_iand (pc := 76) hG dX7_isTrue_76 ?_
    refine a_if_eq (pc := 77) hG (tgt := 84) hd dX7_isTrue_77 (by decide) (fun hd => ?_) (fun hd => ?_)
    · refine a_iconst (pc := 84) hG dX7_isTrue_84 (v := (nI 0)) rfl ?_
      exact a_zret (pc := 85) hG hd dX7_isTrue_85
    refine a_iconst (pc := 80) hG dX7_isTrue_80 (v := (nI 1)) rfl ?_
    refine a_goto (pc := 81) hG (tgt := 85) dX7_isTrue_81 (by decide) ?_
    exact a_zret (pc := 85) hG hd dX7_isTrue_85
  refine a_tcase (pc := 6) hG ((nI 5)) (tgt := 86) hd dX7_isTrue_6 (by decide) (by decide) rfl (by decide) (fun hd => ?_) (fun n5 hd => ?_)
  · refine a_aload_n (pc := 86) hG 0 rfl dX7_isTrue_86 rfl ?_
    refine a_aload_n (pc := 87) hG 2 rfl dX7_isTrue_87 rfl ?_
    refine a_iload_n (pc := 88) hG 3 rfl dX7_isTrue_88 rfl ?_
    refine a_cvI (pc := 89) hG (As := [.int a2]) (st := [.ref (ad 42)]) sc_20 cl_X0 mk_X0_nearness t_1401 (by omega) (fun z hz => c_Desk_nearness a2 _  z hz) rfl (Nat.le_of_ble_eq_true rfl) hd dX7_isTrue_89 (fun r6 h5 hd => ?_)
    refine a_iload_n (pc := 92) hG 1 rfl dX7_isTrue_92 rfl ?_
    refine a_cvI (pc := 93) hG (As := [.int r6, .int a0]) (st := []) sc_42 cl_X7 mk_X7_isSo t_1402 (by omega) (fun z hz => c_Sent_isSo_42 r6 a0 _  z hz) rfl (Nat.le_of_ble_eq_true rfl) hd dX7_isTrue_93 (fun r8 h7 hd => ?_)
    exact a_zret (pc := 96) hG hd dX7_isTrue_96
  refine a_tcase (pc := 6) hG ((nI 6)) (tgt := 97) hd dX7_isTrue_6 (by decide) (by decide) rfl (by decide) (fun hd => ?_) (fun n6 hd => ?_)
  · refine a_aload_n (pc := 97) hG 0 rfl dX7_isTrue_97 rfl ?_
    refine a_aload_n (pc := 98) hG 2 rfl dX7_isTrue_98 rfl ?_
    refine a_iload_n (pc := 99) hG 3 rfl dX7_isTrue_99 rfl ?_
    refine a_iconst (pc := 100) hG dX7_isTrue_100 (v := (nI 2)) rfl ?_
    refine a_cvI (pc := 101) hG (As := [.int a2, .int (nI 2)]) (st := [.ref (ad 42)]) sc_20 cl_X0 mk_X0_ofCause t_1400 (by omega) (fun z hz => c_Desk_ofCause a2 (nI 2) _  z hz) rfl (Nat.le_of_ble_eq_true rfl) hd dX7_isTrue_101 (fun r10 h9 hd => ?_)
    refine a_iload_n (pc := 104) hG 1 rfl dX7_isTrue_104 rfl ?_
    refine a_cvI (pc := 105) hG (As := [.int r10, .int a0]) (st := []) sc_42 cl_X7 mk_X7_isSo t_1402 (by omega) (fun z hz => c_Sent_isSo_42 r10 a0 _  z hz) rfl (Nat.le_of_ble_eq_true rfl) hd dX7_isTrue_105 (fun r12 h11 hd => ?_)
    exact a_zret (pc := 108) hG hd dX7_isTrue_108
  refine a_tcase (pc := 6) hG ((nI 7)) (tgt := 109) hd dX7_isTrue_6 (by decide) (by decide) rfl (by decide) (fun hd => ?_) (fun n7 hd => ?_)
  · refine a_aload_n (pc := 109) hG 0 rfl dX7_isTrue_109 rfl ?_
    refine a_aload_n (pc := 110) hG 2 rfl dX7_isTrue_110 rfl ?_
    refine a_iload_n (pc := 111) hG 3 rfl dX7_isTrue_111 rfl ?_
    refine a_iconst (pc := 112) hG dX7_isTrue_112 (v := (nI 3)) rfl ?_
    refine a_cvI (pc := 113) hG (As := [.int a2, .int (nI 3)]) (st := [.ref (ad 42)]) sc_20 cl_X0 mk_X0_ofCause t_1400 (by omega) (fun z hz => c_Desk_ofCause a2 (nI 3) _  z hz) rfl (Nat.le_of_ble_eq_true rfl) hd dX7_isTrue_113 (fun r14 h13 hd => ?_)
    refine a_iload_n (pc := 116) hG 1 rfl dX7_isTrue_116 rfl ?_
    refine a_cvI (pc := 117) hG (As := [.int r14, .int a0]) (st := []) sc_42 cl_X7 mk_X7_isSo t_1402 (by omega) (fun z hz => c_Sent_isSo_42 r14 a0 _  z hz) rfl (Nat.le_of_ble_eq_true rfl) hd dX7_isTrue_117 (fun r16 h15 hd => ?_)
    exact a_zret (pc := 120) hG hd dX7_isTrue_120
  refine a_tdef (pc := 6) hG (tgt := 121) dX7_isTrue_6 (by have en3 := sw_ne (z := 3) rfl n3; have en4 := sw_ne (z := 4) rfl n4; have en5 := sw_ne (z := 5) rfl n5; have en6 := sw_ne (z := 6) rfl n6; have en7 := sw_ne (z := 7) rfl n7; omega) (by decide) ?_
  refine a_aload_n (pc := 121) hG 0 rfl dX7_isTrue_121 rfl ?_
  refine a_iload_n (pc := 122) hG 3 rfl dX7_isTrue_122 rfl ?_
  refine a_iload_n (pc := 123) hG 1 rfl dX7_isTrue_123 rfl ?_
  refine a_cvI (pc := 124) hG (As := [.int a2, .int a0]) (st := []) sc_42 cl_X7 mk_X7_isSo t_1402 (by omega) (fun z hz => c_Sent_isSo_42 a2 a0 _  z hz) rfl (Nat.le_of_ble_eq_true rfl) hd dX7_isTrue_124 (fun r18 h17 hd => ?_)
  exact a_zret (pc := 127) hG hd dX7_isTrue_127
theorem dX7_holdsOf_0 : decode cX7_holdsOf 0 = .ok (.iconst 0, 1) := by decide +kernel
theorem dX7_holdsOf_1 : decode cX7_holdsOf 1 = .ok (.istore_n 3, 1) := by decide +kernel
theorem dX7_holdsOf_2 : decode cX7_holdsOf 2 = .ok (.iconst 0, 1) := by decide +kernel
theorem dX7_holdsOf_3 : decode cX7_holdsOf 3 = .ok (.istore 4, 2) := by decide +kernel
theorem dX7_holdsOf_5 : decode cX7_holdsOf 5 = .ok (.iload 4, 2) := by decide +kernel
theorem dX7_holdsOf_7 : decode cX7_holdsOf 7 = .ok (.aload_n 0, 1) := by decide +kernel
theorem dX7_holdsOf_8 : decode cX7_holdsOf 8 = .ok (.getfield 21, 3) := by decide +kernel
theorem dX7_holdsOf_11 : decode cX7_holdsOf 11 = .ok (.if_icmp .ge 91, 3) := by decide +kernel
theorem dX7_holdsOf_14 : decode cX7_holdsOf 14 = .ok (.aload_n 0, 1) := by decide +kernel
theorem dX7_holdsOf_15 : decode cX7_holdsOf 15 = .ok (.getfield 11, 3) := by decide +kernel
theorem dX7_holdsOf_18 : decode cX7_holdsOf 18 = .ok (.iload 4, 2) := by decide +kernel
theorem dX7_holdsOf_20 : decode cX7_holdsOf 20 = .ok (.iaload, 1) := by decide +kernel
theorem dX7_holdsOf_21 : decode cX7_holdsOf 21 = .ok (.istore 5, 2) := by decide +kernel
theorem dX7_holdsOf_23 : decode cX7_holdsOf 23 = .ok (.iload_n 3, 1) := by decide +kernel
theorem dX7_holdsOf_24 : decode cX7_holdsOf 24 = .ok (.iconst 1, 1) := by decide +kernel
theorem dX7_holdsOf_25 : decode cX7_holdsOf 25 = .ok (.iand, 1) := by decide +kernel
theorem dX7_holdsOf_26 : decode cX7_holdsOf 26 = .ok (.istore 6, 2) := by decide +kernel
theorem dX7_holdsOf_28 : decode cX7_holdsOf 28 = .ok (.iload 5, 2) := by decide +kernel
theorem dX7_holdsOf_30 : decode cX7_holdsOf 30 = .ok (.ifCond .ne 10, 3) := by decide +kernel
theorem dX7_holdsOf_33 : decode cX7_holdsOf 33 = .ok (.iload_n 3, 1) := by decide +kernel
theorem dX7_holdsOf_34 : decode cX7_holdsOf 34 = .ok (.iconst 1, 1) := by decide +kernel
theorem dX7_holdsOf_35 : decode cX7_holdsOf 35 = .ok (.ixor, 1) := by decide +kernel
theorem dX7_holdsOf_36 : decode cX7_holdsOf 36 = .ok (.istore_n 3, 1) := by decide +kernel
theorem dX7_holdsOf_37 : decode cX7_holdsOf 37 = .ok (.goto 59, 3) := by decide +kernel
theorem dX7_holdsOf_40 : decode cX7_holdsOf 40 = .ok (.iload 5, 2) := by decide +kernel
theorem dX7_holdsOf_42 : decode cX7_holdsOf 42 = .ok (.iconst 1, 1) := by decide +kernel
theorem dX7_holdsOf_43 : decode cX7_holdsOf 43 = .ok (.if_icmp .ne 16, 3) := by decide +kernel
theorem dX7_holdsOf_46 : decode cX7_holdsOf 46 = .ok (.iload_n 3, 1) := by decide +kernel
theorem dX7_holdsOf_47 : decode cX7_holdsOf 47 = .ok (.iconst 1, 1) := by decide +kernel
theorem dX7_holdsOf_48 : decode cX7_holdsOf 48 = .ok (.ishr, 1) := by decide +kernel
theorem dX7_holdsOf_49 : decode cX7_holdsOf 49 = .ok (.iload 6, 2) := by decide +kernel
theorem dX7_holdsOf_51 : decode cX7_holdsOf 51 = .ok (.bipush (-2), 2) := by decide +kernel
theorem dX7_holdsOf_53 : decode cX7_holdsOf 53 = .ok (.ior, 1) := by decide +kernel
theorem dX7_holdsOf_54 : decode cX7_holdsOf 54 = .ok (.iand, 1) := by decide +kernel
theorem dX7_holdsOf_55 : decode cX7_holdsOf 55 = .ok (.istore_n 3, 1) := by decide +kernel
theorem dX7_holdsOf_56 : decode cX7_holdsOf 56 = .ok (.goto 40, 3) := by decide +kernel
theorem dX7_holdsOf_59 : decode cX7_holdsOf 59 = .ok (.iload 5, 2) := by decide +kernel
theorem dX7_holdsOf_61 : decode cX7_holdsOf 61 = .ok (.iconst 2, 1) := by decide +kernel
theorem dX7_holdsOf_62 : decode cX7_holdsOf 62 = .ok (.if_icmp .ne 13, 3) := by decide +kernel
theorem dX7_holdsOf_65 : decode cX7_holdsOf 65 = .ok (.iload_n 3, 1) := by decide +kernel
theorem dX7_holdsOf_66 : decode cX7_holdsOf 66 = .ok (.iconst 1, 1) := by decide +kernel
theorem dX7_holdsOf_67 : decode cX7_holdsOf 67 = .ok (.ishr, 1) := by decide +kernel
theorem dX7_holdsOf_68 : decode cX7_holdsOf 68 = .ok (.iload 6, 2) := by decide +kernel
theorem dX7_holdsOf_70 : decode cX7_holdsOf 70 = .ok (.ior, 1) := by decide +kernel
theorem dX7_holdsOf_71 : decode cX7_holdsOf 71 = .ok (.istore_n 3, 1) := by decide +kernel
theorem dX7_holdsOf_72 : decode cX7_holdsOf 72 = .ok (.goto 24, 3) := by decide +kernel
theorem dX7_holdsOf_75 : decode cX7_holdsOf 75 = .ok (.iload_n 3, 1) := by decide +kernel
theorem dX7_holdsOf_76 : decode cX7_holdsOf 76 = .ok (.iconst 1, 1) := by decide +kernel
theorem dX7_holdsOf_77 : decode cX7_holdsOf 77 = .ok (.ishl, 1) := by decide +kernel
theorem dX7_holdsOf_78 : decode cX7_holdsOf 78 = .ok (.aload_n 0, 1) := by decide +kernel
theorem dX7_holdsOf_79 : decode cX7_holdsOf 79 = .ok (.iload 4, 2) := by decide +kernel
theorem dX7_holdsOf_81 : decode cX7_holdsOf 81 = .ok (.aload_n 1, 1) := by decide +kernel
theorem dX7_holdsOf_82 : decode cX7_holdsOf 82 = .ok (.iload_n 2, 1) := by decide +kernel
theorem dX7_holdsOf_83 : decode cX7_holdsOf 83 = .ok (.invokevirtual 52, 3) := by decide +kernel
theorem dX7_holdsOf_86 : decode cX7_holdsOf 86 = .ok (.ifCond .eq 7, 3) := by decide +kernel
theorem dX7_holdsOf_89 : decode cX7_holdsOf 89 = .ok (.iconst 1, 1) := by decide +kernel
theorem dX7_holdsOf_90 : decode cX7_holdsOf 90 = .ok (.goto 4, 3) := by decide +kernel
theorem dX7_holdsOf_93 : decode cX7_holdsOf 93 = .ok (.iconst 0, 1) := by decide +kernel
theorem dX7_holdsOf_94 : decode cX7_holdsOf 94 = .ok (.ior, 1) := by decide +kernel
theorem dX7_holdsOf_95 : decode cX7_holdsOf 95 = .ok (.istore_n 3, 1) := by decide +kernel
theorem dX7_holdsOf_96 : decode cX7_holdsOf 96 = .ok (.iinc 4 1, 3) := by decide +kernel
theorem dX7_holdsOf_99 : decode cX7_holdsOf 99 = .ok (.goto (-94), 3) := by decide +kernel
theorem dX7_holdsOf_102 : decode cX7_holdsOf 102 = .ok (.iload_n 3, 1) := by decide +kernel
theorem dX7_holdsOf_103 : decode cX7_holdsOf 103 = .ok (.iconst 1, 1) := by decide +kernel
theorem dX7_holdsOf_104 : decode cX7_holdsOf 104 = .ok (.iand, 1) := by decide +kernel
theorem dX7_holdsOf_105 : decode cX7_holdsOf 105 = .ok (.ifCond .eq 7, 3) := by decide +kernel
theorem dX7_holdsOf_108 : decode cX7_holdsOf 108 = .ok (.iconst 1, 1) := by decide +kernel
theorem dX7_holdsOf_109 : decode cX7_holdsOf 109 = .ok (.goto 4, 3) := by decide +kernel
theorem dX7_holdsOf_112 : decode cX7_holdsOf 112 = .ok (.iconst 0, 1) := by decide +kernel
theorem dX7_holdsOf_113 : decode cX7_holdsOf 113 = .ok (.ireturn, 1) := by decide +kernel
set_option maxHeartbeats 4000000 in
theorem w_l_Sent_holdsOf_42_0 {ad wad : Nat → Nat} {Γ : Ctx} (F : Nat) {n : Nat} (hn : 4 ≤ n) (hG : Cx SHc ad wad cX7_holdsOf 7 RX7 (some .boolean) (n) Γ) {q : Int32 × HS} {x2 : Int32} {K0 : Int32 → HS → Option (Int32 × HS)} {g : Nat} {x3 : Int32} {x4 : Int32} {h : HS} (hd : l_Sent_holdsOf_42_0 F x2 K0 g x3 x4 h = some q) (hK0 : ∀ (y3 : Int32) (z : HS), K0 y3 z = some q → AW SHc ad 7 (some (.int q.1), q.2) Γ 102 [(3, .int y3)] [] z) : AW SHc ad 7 (some (.int q.1), q.2) Γ 5 [(0, .ref (ad 42)), (1, .ref (ad 20)), (2, .int x2), (3, .int x3), (4, .int x4)] [] h := by
  induction g generalizing x3 x4 h with
  | zero => unfold l_Sent_holdsOf_42_0 at hd; cases hd
  | succ g ih =>
    unfold l_Sent_holdsOf_42_0 at hd
    refine a_iload (pc := 5) hG 4 rfl dX7_holdsOf_5 ?_
    refine a_aload_n (pc := 7) hG 0 rfl dX7_holdsOf_7 rfl ?_
    refine a_getI (pc := 8) hG sc_42 cl_X7 ok_X7 3 (by decide) rfl t_369 dX7_holdsOf_8 ?_
    refine a_ic_ge (pc := 11) hG (tgt := 102) hd dX7_holdsOf_11 (by decide) (fun hd => ?_) (fun hd => ?_)
    · exact AW.sub [3] rfl (hK0 _ _ hd)
    refine a_aload_n (pc := 14) hG 0 rfl dX7_holdsOf_14 rfl ?_
    refine a_getR (pc := 15) hG sc_42 cl_X7 ok_X7 0 (by decide) rfl t_366 dX7_holdsOf_15 ?_
    refine a_iload (pc := 18) hG 4 rfl dX7_holdsOf_18 ?_
    refine a_iald (pc := 20) hG sc_43 hd dX7_holdsOf_20 (fun hd => ?_)
    refine a_istoreN (pc := 21) hG hd dX7_holdsOf_21 (by decide) (lf := fun x => [(5, .int x), (0, .ref (ad 42)), (1, .ref (ad 20)), (2, .int x2), (3, .int x3), (4, .int x4)]) (fun _ => rfl) (fun v3 hd => ?_)
    refine a_iload_n (pc := 23) hG 4 rfl dX7_holdsOf_23 rfl ?_
    refine a_iconst (pc := 24) hG dX7_holdsOf_24 (v := (nI 1)) rfl ?_
    refine a_iand (pc := 25) hG dX7_holdsOf_25 ?_
    refine a_istoreN (pc := 26) hG hd dX7_holdsOf_26 (by decide) (lf := fun x => [(6, .int x), (5, .int v3), (0, .ref (ad 42)), (1, .ref (ad 20)), (2, .int x2), (3, .int x3), (4, .int x4)]) (fun _ => rfl) (fun v4 hd => ?_)
    refine a_iload (pc := 28) hG 1 rfl dX7_holdsOf_28 ?_
    refine a_join hd (Q := fun J : Int32 → HS → Option (Int32 × HS) => ∀ (v6 : Int32) (h7 : HS), J v6 h7 = some q → AW SHc ad 7 (some (.int q.1), q.2) Γ 96 [(0, .ref (ad 42)), (1, .ref (ad 20)), (2, .int x2), (3, .int v6), (4, .int x4)] [] h7) (fun v6 h7 hd => ?_) (fun J5 hJ5 hd => ?_)
    · refine a_iincN (pc := 96) hG (c0 := (nI 1)) 4 rfl hd dX7_holdsOf_96 rfl (by decide) (lf := fun x => [(4, .int x), (0, .ref (ad 42)), (1, .ref (ad 20)), (2, .int x2), (3, .int v6)]) (fun _ => rfl) (fun v8 hd => ?_)
      refine a_goto (pc := 99) hG (tgt := 5) dX7_holdsOf_99 (by decide) ?_
      exact AW.sub [1, 2, 3, 4, 0] rfl (ih hd)
    refine a_if_ne (pc := 30) hG (tgt := 40) hd dX7_holdsOf_30 (by decide) (fun hd => ?_) (fun hd => ?_)
    · refine a_iload (pc := 40) hG 1 rfl dX7_holdsOf_40 ?_
      refine a_iconst (pc := 42) hG dX7_holdsOf_42 (v := (nI 1)) rfl ?_
      refine a_ic_ne (pc := 43) hG (tgt := 59) hd dX7_holdsOf_43 (by decide) (fun hd => ?_) (fun hd => ?_)
      · refine a_iload (pc := 59) hG 1 rfl dX7_holdsOf_59 ?_
        refine a_iconst (pc := 61) hG dX7_holdsOf_61 (v := (nI 2)) rfl ?_
        refine a_ic_ne (pc := 62) hG (tgt := 75) hd dX7_holdsOf_62 (by decide) (fun hd => ?_) (fun hd => ?_)
        · refine a_iload_n (pc := 75) hG 5 rfl dX7_holdsOf_75 rfl ?_
          refine a_iconst (pc := 76) hG dX7_holdsOf_76 (v := (nI 1)) rfl ?_
          refine a_ishl (pc := 77) hG dX7_holdsOf_77 ?_
          refine a_aload_n (pc := 78) hG 2 rfl dX7_holdsOf_78 rfl ?_
          refine a_iload (pc := 79) hG 6 rfl dX7_holdsOf_79 ?_
          refine a_aload_n (pc := 81) hG 3 rfl dX7_holdsOf_81 rfl ?_
          refine a_iload_n (pc := 82) hG 4 rfl dX7_holdsOf_82 rfl ?_
          refine a_cvI (pc := 83) hG (As := [.int x4, .ref (ad 20), .int x2]) (st := [.int (x3 <<< ((nI 1) &&& 31))]) sc_42 cl_X7 mk_X7_isTrue t_1396 (by omega) (fun z hz => c_Sent_isTrue_42 x4 x2 _  z hz) rfl (Nat.le_of_ble_eq_true rfl) hd dX7_holdsOf_83 (fun r10 h9 hd => ?_)
          refine a_join hd (Q := fun J : Int32 → HS → Option (Int32 × HS) => ∀ (v12 : Int32) (h13 : HS), J v12 h13 = some q → AW SHc ad 7 (some (.int q.1), q.2) Γ 94 [(0, .ref (ad 42)), (1, .ref (ad 20)), (2, .int x2), (4, .int x4)] [.int v12, .int (x3 <<< ((nI 1) &&& 31))] h13) (fun v12 h13 hd => ?_) (fun J11 hJ11 hd => ?_)
          · refine a_ior (pc := 94) hG dX7_holdsOf_94 ?_
            refine a_istore_nN (pc := 95) hG hd dX7_holdsOf_95 rfl (by decide) (lf := fun x => [(3, .int x), (0, .ref (ad 42)), (1, .ref (ad 20)), (2, .int x2), (4, .int x4)]) (fun _ => rfl) (fun v14 hd => ?_)
            exact AW.sub [1, 2, 3, 0, 4] rfl (hJ5 _ _ hd)
          refine a_if_eq (pc := 86) hG (tgt := 93) hd dX7_holdsOf_86 (by decide) (fun hd => ?_) (fun hd => ?_)
          · refine a_iconst (pc := 93) hG dX7_holdsOf_93 (v := (nI 0)) rfl ?_
            exact AW.sub [2, 3, 4, 6] rfl (hJ11 _ _ hd)
          refine a_iconst (pc := 89) hG dX7_holdsOf_89 (v := (nI 1)) rfl ?_
          refine a_goto (pc := 90) hG (tgt := 94) dX7_holdsOf_90 (by decide) ?_
          exact AW.sub [2, 3, 4, 6] rfl (hJ11 _ _ hd)
        refine a_iload_n (pc := 65) hG 5 rfl dX7_holdsOf_65 rfl ?_
        refine a_iconst (pc := 66) hG dX7_holdsOf_66 (v := (nI 1)) rfl ?_
        refine a_ishr (pc := 67) hG dX7_holdsOf_67 ?_
        refine a_iload (pc := 68) hG 0 rfl dX7_holdsOf_68 ?_
        refine a_ior (pc := 70) hG dX7_holdsOf_70 ?_
        refine a_istore_nN (pc := 71) hG hd dX7_holdsOf_71 rfl (by decide) (lf := fun x => [(3, .int x), (6, .int v4), (5, .int v3), (0, .ref (ad 42)), (1, .ref (ad 20)), (2, .int x2), (4, .int x4)]) (fun _ => rfl) (fun v15 hd => ?_)
        refine a_goto (pc := 72) hG (tgt := 96) dX7_holdsOf_72 (by decide) ?_
        exact AW.sub [3, 4, 5, 0, 6] rfl (hJ5 _ _ hd)
      refine a_iload_n (pc := 46) hG 5 rfl dX7_holdsOf_46 rfl ?_
      refine a_iconst (pc := 47) hG dX7_holdsOf_47 (v := (nI 1)) rfl ?_
      refine a_ishr (pc := 48) hG dX7_holdsOf_48 ?_
      refine a_iload (pc := 49) hG 0 rfl dX7_holdsOf_49 ?_
      refine a_bipush (pc := 51) hG dX7_holdsOf_51 (v := (-2 : Int32)) rfl ?_
      refine a_ior (pc := 53) hG dX7_holdsOf_53 ?_
      refine a_iand (pc := 54) hG dX7_holdsOf_54 ?_
      refine a_istore_nN (pc := 55) hG hd dX7_holdsOf_55 rfl (by decide) (lf := fun x => [(3, .int x), (6, .int v4), (5, .int v3), (0, .ref (ad 42)), (1, .ref (ad 20)), (2, .int x2), (4, .int x4)]) (fun _ => rfl) (fun v16 hd => ?_)
      refine a_goto (pc := 56) hG (tgt := 96) dX7_holdsOf_56 (by decide) ?_
      exact AW.sub [3, 4, 5, 0, 6] rfl (hJ5 _ _ hd)
    refine a_iload_n (pc := 33) hG 5 rfl dX7_holdsOf_33 rfl ?_
    refine a_iconst (pc := 34) hG dX7_holdsOf_34 (v := (nI 1)) rfl ?_
    refine a_ixor (pc := 35) hG dX7_holdsOf_35 ?_
    refine a_istore_nN (pc := 36) hG hd dX7_holdsOf_36 rfl (by decide) (lf := fun x => [(3, .int x), (6, .int v4), (5, .int v3), (0, .ref (ad 42)), (1, .ref (ad 20)), (2, .int x2), (4, .int x4)]) (fun _ => rfl) (fun v17 hd => ?_)
    refine a_goto (pc := 37) hG (tgt := 96) dX7_holdsOf_37 (by decide) ?_
    exact AW.sub [3, 4, 5, 0, 6] rfl (hJ5 _ _ hd)
set_option maxHeartbeats 4000000 in
theorem c_Sent_holdsOf_42 {ad wad : Nat → Nat} (F : Nat) (a1 : Int32) (h : HS)  (q : Int32 × HS) (hd : f_Sent_holdsOf_42 F a1 h = some q) : Ctr SHc ad wad yX7_holdsOf cX7_holdsOf 7 (some .boolean) 4 [.ref (ad 42), .ref (ad 20), .int a1] h (some (.int q.1), q.2) := by
  refine enter (own := RX7) (lv := [(0, .ref (ad 42)), (1, .ref (ad 20)), (2, .int a1)]) (by decide +kernel) rfl (Nat.le_of_ble_eq_true rfl) rfl (fun Γ hG => ?_)
  unfold f_Sent_holdsOf_42 at hd
  refine a_iconst (pc := 0) hG dX7_holdsOf_0 (v := (nI 0)) rfl ?_
  refine a_istore_nN (pc := 1) hG hd dX7_holdsOf_1 rfl (by decide) (lf := fun x => [(3, .int x), (0, .ref (ad 42)), (1, .ref (ad 20)), (2, .int a1)]) (fun _ => rfl) (fun v1 hd => ?_)
  refine a_iconst (pc := 2) hG dX7_holdsOf_2 (v := (nI 0)) rfl ?_
  refine a_istoreN (pc := 3) hG hd dX7_holdsOf_3 (by decide) (lf := fun x => [(4, .int x), (3, .int v1), (0, .ref (ad 42)), (1, .ref (ad 20)), (2, .int a1)]) (fun _ => rfl) (fun v2 hd => ?_)
  refine AW.sub [2, 3, 4, 1, 0] rfl ?_
  refine w_l_Sent_holdsOf_42_0 F (by omega) hG hd (fun v18 h19 hd => ?_)
  refine a_iload_n (pc := 102) hG 0 rfl dX7_holdsOf_102 rfl ?_
  refine a_iconst (pc := 103) hG dX7_holdsOf_103 (v := (nI 1)) rfl ?_
  refine a_iand (pc := 104) hG dX7_holdsOf_104 ?_
  refine a_if_eq (pc := 105) hG (tgt := 112) hd dX7_holdsOf_105 (by decide) (fun hd => ?_) (fun hd => ?_)
  · refine a_iconst (pc := 112) hG dX7_holdsOf_112 (v := (nI 0)) rfl ?_
    exact a_zret (pc := 113) hG hd dX7_holdsOf_113
  refine a_iconst (pc := 108) hG dX7_holdsOf_108 (v := (nI 1)) rfl ?_
  refine a_goto (pc := 109) hG (tgt := 113) dX7_holdsOf_109 (by decide) ?_
  exact a_zret (pc := 113) hG hd dX7_holdsOf_113
theorem dX11_said_0 : decode cX11_said 0 = .ok (.aload_n 0, 1) := by decide +kernel
theorem dX11_said_1 : decode cX11_said 1 = .ok (.getfield 72, 3) := by decide +kernel
theorem dX11_said_4 : decode cX11_said 4 = .ok (.invokevirtual 320, 3) := by decide +kernel
theorem dX11_said_7 : decode cX11_said 7 = .ok (.ifCond .ne 8, 3) := by decide +kernel
theorem dX11_said_10 : decode cX11_said 10 = .ok (.iload_n 1, 1) := by decide +kernel
theorem dX11_said_11 : decode cX11_said 11 = .ok (.iconst (-1), 1) := by decide +kernel
theorem dX11_said_12 : decode cX11_said 12 = .ok (.if_icmp .ge 5, 3) := by decide +kernel
theorem dX11_said_15 : decode cX11_said 15 = .ok (.iconst (-1), 1) := by decide +kernel
theorem dX11_said_16 : decode cX11_said 16 = .ok (.ireturn, 1) := by decide +kernel
theorem dX11_said_17 : decode cX11_said 17 = .ok (.iconst 0, 1) := by decide +kernel
theorem dX11_said_18 : decode cX11_said 18 = .ok (.istore_n 2, 1) := by decide +kernel
theorem dX11_said_19 : decode cX11_said 19 = .ok (.iconst 0, 1) := by decide +kernel
theorem dX11_said_20 : decode cX11_said 20 = .ok (.istore_n 3, 1) := by decide +kernel
theorem dX11_said_21 : decode cX11_said 21 = .ok (.iload_n 3, 1) := by decide +kernel
theorem dX11_said_22 : decode cX11_said 22 = .ok (.aload_n 0, 1) := by decide +kernel
theorem dX11_said_23 : decode cX11_said 23 = .ok (.getfield 19, 3) := by decide +kernel
theorem dX11_said_26 : decode cX11_said 26 = .ok (.invokevirtual 279, 3) := by decide +kernel
theorem dX11_said_29 : decode cX11_said 29 = .ok (.if_icmp .ge 34, 3) := by decide +kernel
theorem dX11_said_32 : decode cX11_said 32 = .ok (.aload_n 0, 1) := by decide +kernel
theorem dX11_said_33 : decode cX11_said 33 = .ok (.getfield 72, 3) := by decide +kernel
theorem dX11_said_36 : decode cX11_said 36 = .ok (.aload_n 0, 1) := by decide +kernel
theorem dX11_said_37 : decode cX11_said 37 = .ok (.getfield 40, 3) := by decide +kernel
theorem dX11_said_40 : decode cX11_said 40 = .ok (.iload_n 3, 1) := by decide +kernel
theorem dX11_said_41 : decode cX11_said 41 = .ok (.invokevirtual 323, 3) := by decide +kernel
theorem dX11_said_44 : decode cX11_said 44 = .ok (.ifCond .eq 13, 3) := by decide +kernel
theorem dX11_said_47 : decode cX11_said 47 = .ok (.iload_n 2, 1) := by decide +kernel
theorem dX11_said_48 : decode cX11_said 48 = .ok (.iload_n 1, 1) := by decide +kernel
theorem dX11_said_49 : decode cX11_said 49 = .ok (.if_icmp .ne 5, 3) := by decide +kernel
theorem dX11_said_52 : decode cX11_said 52 = .ok (.iload_n 3, 1) := by decide +kernel
theorem dX11_said_53 : decode cX11_said 53 = .ok (.ireturn, 1) := by decide +kernel
theorem dX11_said_54 : decode cX11_said 54 = .ok (.iinc 2 1, 3) := by decide +kernel
theorem dX11_said_57 : decode cX11_said 57 = .ok (.iinc 3 1, 3) := by decide +kernel
theorem dX11_said_60 : decode cX11_said 60 = .ok (.goto (-39), 3) := by decide +kernel
theorem dX11_said_63 : decode cX11_said 63 = .ok (.iload_n 1, 1) := by decide +kernel
theorem dX11_said_64 : decode cX11_said 64 = .ok (.iconst (-1), 1) := by decide +kernel
theorem dX11_said_65 : decode cX11_said 65 = .ok (.if_icmp .ne 7, 3) := by decide +kernel
theorem dX11_said_68 : decode cX11_said 68 = .ok (.iload_n 2, 1) := by decide +kernel
theorem dX11_said_69 : decode cX11_said 69 = .ok (.goto 4, 3) := by decide +kernel
theorem dX11_said_72 : decode cX11_said 72 = .ok (.iconst (-1), 1) := by decide +kernel
theorem dX11_said_73 : decode cX11_said 73 = .ok (.ireturn, 1) := by decide +kernel
set_option maxHeartbeats 4000000 in
theorem w_l_LC_said_0 {ad wad : Nat → Nat} {Γ : Ctx} (F : Nat) {n : Nat} (hn : 5 ≤ n) (hG : Cx SHc ad wad cX11_said 4 RX11 (some .int) (n) Γ) {q : Int32 × HS} {x1 : Int32} {K0 : Int32 → HS → Option (Int32 × HS)} {g : Nat} {x2 : Int32} {x3 : Int32} {h : HS} (hd : l_LC_said_0 F x1 K0 g x2 x3 h = some q) (hK0 : ∀ (y2 : Int32) (z : HS), K0 y2 z = some q → AW SHc ad 4 (some (.int q.1), q.2) Γ 63 [(1, .int x1), (2, .int y2)] [] z) : AW SHc ad 4 (some (.int q.1), q.2) Γ 21 [(0, .ref (ad 0)), (1, .int x1), (2, .int x2), (3, .int x3)] [] h := by
  induction g generalizing x2 x3 h with
  | zero => unfold l_LC_said_0 at hd; cases hd
  | succ g ih =>
    unfold l_LC_said_0 at hd
    refine a_iload_n (pc := 21) hG 3 rfl dX11_said_21 rfl ?_
    refine a_aload_n (pc := 22) hG 0 rfl dX11_said_22 rfl ?_
    refine a_getR (pc := 23) hG sc_0 cl_X11 ok_X11 1 (by decide) rfl t_482 dX11_said_23 ?_
    refine a_cvI (pc := 26) hG (As := []) (st := [.int x3]) sc_3 cl_X5 mk_X5_causes t_1197 (by omega) (fun z hz => c_Plan_causes_3  _  z hz) rfl (Nat.le_of_ble_eq_true rfl) hd dX11_said_26 (fun r6 h5 hd => ?_)
    refine a_ic_ge (pc := 29) hG (tgt := 63) hd dX11_said_29 (by decide) (fun hd => ?_) (fun hd => ?_)
    · exact AW.sub [1, 2] rfl (hK0 _ _ hd)
    refine a_aload_n (pc := 32) hG 0 rfl dX11_said_32 rfl ?_
    refine a_getR (pc := 33) hG sc_0 cl_X11 ok_X11 8 (by decide) rfl t_489 dX11_said_33 ?_
    refine a_aload_n (pc := 36) hG 0 rfl dX11_said_36 rfl ?_
    refine a_getR (pc := 37) hG sc_0 cl_X11 ok_X11 4 (by decide) rfl t_485 dX11_said_37 ?_
    refine a_iload_n (pc := 40) hG 3 rfl dX11_said_40 rfl ?_
    refine a_cvI (pc := 41) hG (As := [.ref (ad 20), .int x3]) (st := []) sc_42 cl_X7 mk_X7_holdsOf t_1392 (by omega) (fun z hz => c_Sent_holdsOf_42 F x3 _  z hz) rfl (Nat.le_of_ble_eq_true rfl) hd dX11_said_41 (fun r8 h7 hd => ?_)
    refine a_join hd (Q := fun J : Int32 → HS → Option (Int32 × HS) => ∀ (v10 : Int32) (h11 : HS), J v10 h11 = some q → AW SHc ad 4 (some (.int q.1), q.2) Γ 57 [(0, .ref (ad 0)), (1, .int x1), (2, .int v10), (3, .int x3)] [] h11) (fun v10 h11 hd => ?_) (fun J9 hJ9 hd => ?_)
    · refine a_iincN (pc := 57) hG (c0 := (nI 1)) 3 rfl hd dX11_said_57 rfl (by decide) (lf := fun x => [(3, .int x), (0, .ref (ad 0)), (1, .int x1), (2, .int v10)]) (fun _ => rfl) (fun v12 hd => ?_)
      refine a_goto (pc := 60) hG (tgt := 21) dX11_said_60 (by decide) ?_
      exact AW.sub [1, 2, 3, 0] rfl (ih hd)
    refine a_if_eq (pc := 44) hG (tgt := 57) hd dX11_said_44 (by decide) (fun hd => ?_) (fun hd => ?_)
    · exact AW.sub [0, 1, 2, 3] rfl (hJ9 _ _ hd)
    refine a_iload_n (pc := 47) hG 2 rfl dX11_said_47 rfl ?_
    refine a_iload_n (pc := 48) hG 1 rfl dX11_said_48 rfl ?_
    refine a_ic_ne (pc := 49) hG (tgt := 54) hd dX11_said_49 (by decide) (fun hd => ?_) (fun hd => ?_)
    · refine a_iincN (pc := 54) hG (c0 := (nI 1)) 2 rfl hd dX11_said_54 rfl (by decide) (lf := fun x => [(2, .int x), (0, .ref (ad 0)), (1, .int x1), (3, .int x3)]) (fun _ => rfl) (fun v13 hd => ?_)
      exact AW.sub [1, 2, 0, 3] rfl (hJ9 _ _ hd)
    refine a_iload_n (pc := 52) hG 3 rfl dX11_said_52 rfl ?_
    exact a_iret (pc := 53) hG hd dX11_said_53
set_option maxHeartbeats 4000000 in
theorem c_LC_said {ad wad : Nat → Nat} (F : Nat) (a0 : Int32) (h : HS)  (q : Int32 × HS) (hd : f_LC_said F a0 h = some q) : Ctr SHc ad wad yX11_said cX11_said 4 (some .int) 5 [.ref (ad 0), .int a0] h (some (.int q.1), q.2) := by
  refine enter (own := RX11) (lv := [(0, .ref (ad 0)), (1, .int a0)]) (by decide +kernel) rfl (Nat.le_of_ble_eq_true rfl) rfl (fun Γ hG => ?_)
  unfold f_LC_said at hd
  refine a_aload_n (pc := 0) hG 0 rfl dX11_said_0 rfl ?_
  refine a_getR (pc := 1) hG sc_0 cl_X11 ok_X11 8 (by decide) rfl t_489 dX11_said_1 ?_
  refine a_cvI (pc := 4) hG (As := []) (st := []) sc_42 cl_X7 mk_X7_isEmpty t_1388 (by omega) (fun z hz => c_Sent_isEmpty_42  _  z hz) rfl (Nat.le_of_ble_eq_true rfl) hd dX11_said_4 (fun r2 h1 hd => ?_)
  refine a_if_ne (pc := 7) hG (tgt := 15) hd dX11_said_7 (by decide) (fun hd => ?_) (fun hd => ?_)
  · refine a_iconst (pc := 15) hG dX11_said_15 (v := (-1 : Int32)) rfl ?_
    exact a_iret (pc := 16) hG hd dX11_said_16
  refine a_iload_n (pc := 10) hG 1 rfl dX11_said_10 rfl ?_
  refine a_iconst (pc := 11) hG dX11_said_11 (v := (-1 : Int32)) rfl ?_
  refine a_ic_ge (pc := 12) hG (tgt := 17) hd dX11_said_12 (by decide) (fun hd => ?_) (fun hd => ?_)
  · refine a_iconst (pc := 17) hG dX11_said_17 (v := (nI 0)) rfl ?_
    refine a_istore_nN (pc := 18) hG hd dX11_said_18 rfl (by decide) (lf := fun x => [(2, .int x), (0, .ref (ad 0)), (1, .int a0)]) (fun _ => rfl) (fun v3 hd => ?_)
    refine a_iconst (pc := 19) hG dX11_said_19 (v := (nI 0)) rfl ?_
    refine a_istore_nN (pc := 20) hG hd dX11_said_20 rfl (by decide) (lf := fun x => [(3, .int x), (2, .int v3), (0, .ref (ad 0)), (1, .int a0)]) (fun _ => rfl) (fun v4 hd => ?_)
    refine AW.sub [2, 3, 1, 0] rfl ?_
    refine w_l_LC_said_0 F (by omega) hG hd (fun v14 h15 hd => ?_)
    refine a_iload_n (pc := 63) hG 0 rfl dX11_said_63 rfl ?_
    refine a_iconst (pc := 64) hG dX11_said_64 (v := (-1 : Int32)) rfl ?_
    refine a_ic_ne (pc := 65) hG (tgt := 72) hd dX11_said_65 (by decide) (fun hd => ?_) (fun hd => ?_)
    · refine a_iconst (pc := 72) hG dX11_said_72 (v := (-1 : Int32)) rfl ?_
      exact a_iret (pc := 73) hG hd dX11_said_73
    refine a_iload_n (pc := 68) hG 1 rfl dX11_said_68 rfl ?_
    refine a_goto (pc := 69) hG (tgt := 73) dX11_said_69 (by decide) ?_
    exact a_iret (pc := 73) hG hd dX11_said_73
  refine a_iconst (pc := 15) hG dX11_said_15 (v := (-1 : Int32)) rfl ?_
  exact a_iret (pc := 16) hG hd dX11_said_16
theorem dX11_imageAt_0 : decode cX11_imageAt 0 = .ok (.iload_n 1, 1) := by decide +kernel
theorem dX11_imageAt_1 : decode cX11_imageAt 1 = .ok (.ifCond .ne 10, 3) := by decide +kernel
theorem dX11_imageAt_4 : decode cX11_imageAt 4 = .ok (.aload_n 0, 1) := by decide +kernel
theorem dX11_imageAt_5 : decode cX11_imageAt 5 = .ok (.getfield 89, 3) := by decide +kernel
theorem dX11_imageAt_8 : decode cX11_imageAt 8 = .ok (.goto 7, 3) := by decide +kernel
theorem dX11_imageAt_11 : decode cX11_imageAt 11 = .ok (.aload_n 0, 1) := by decide +kernel
theorem dX11_imageAt_12 : decode cX11_imageAt 12 = .ok (.getfield 93, 3) := by decide +kernel
theorem dX11_imageAt_15 : decode cX11_imageAt 15 = .ok (.areturn, 1) := by decide +kernel
set_option maxHeartbeats 4000000 in
theorem c_LC_imageAt {ad wad : Nat → Nat} (a0 : Int32) (h : HS)  (q : Nat × HS) (hd : f_LC_imageAt a0 h = some q) : Ctr SHc ad wad yX11_imageAt cX11_imageAt 2 (some (.object "LostCauses$Image")) 1 [.ref (ad 0), .int a0] h (some (.ref (ad q.1)), q.2) := by
  refine enter (own := RX11) (lv := [(0, .ref (ad 0)), (1, .int a0)]) (by decide +kernel) rfl (Nat.le_of_ble_eq_true rfl) rfl (fun Γ hG => ?_)
  unfold f_LC_imageAt at hd
  refine a_iload_n (pc := 0) hG 1 rfl dX11_imageAt_0 rfl ?_
  refine a_if_ne (pc := 1) hG (tgt := 11) hd dX11_imageAt_1 (by decide) (fun hd => ?_) (fun hd => ?_)
  · refine a_aload_n (pc := 11) hG 0 rfl dX11_imageAt_11 rfl ?_
    refine a_getR (pc := 12) hG sc_0 cl_X11 ok_X11 12 (by decide) rfl t_493 dX11_imageAt_12 ?_
    exact a_aret (pc := 15) hG (C := "LostCauses$Image") hd dX11_imageAt_15
  refine a_aload_n (pc := 4) hG 0 rfl dX11_imageAt_4 rfl ?_
  refine a_getR (pc := 5) hG sc_0 cl_X11 ok_X11 11 (by decide) rfl t_492 dX11_imageAt_5 ?_
  refine a_goto (pc := 8) hG (tgt := 15) dX11_imageAt_8 (by decide) ?_
  exact a_aret (pc := 15) hG (C := "LostCauses$Image") hd dX11_imageAt_15
set_option maxHeartbeats 4000000 in
theorem c_Plan_copyFrom_55 {ad wad : Nat → Nat}  (h : HS)  (q : Unit × HS) (hd : f_Plan_copyFrom_55  h = some q) : Ctr SHc ad wad yX5_copyFrom cX5_copyFrom 2 none 2 [.ref (ad 55), .ref (ad 3)] h (none, q.2) := by
  refine enter (own := RX5) (lv := [(0, .ref (ad 55)), (1, .ref (ad 3))]) (by decide +kernel) rfl (Nat.le_of_ble_eq_true rfl) rfl (fun Γ hG => ?_)
  unfold f_Plan_copyFrom_55 at hd
  refine a_aload_n (pc := 0) hG 0 rfl dX5_copyFrom_0 rfl ?_
  refine a_aload_n (pc := 1) hG 1 rfl dX5_copyFrom_1 rfl ?_
  refine a_getI (pc := 2) hG sc_3 cl_X5 ok_X5 0 (by decide) rfl t_197 dX5_copyFrom_2 ?_
  refine a_putI (pc := 5) hG sc_55 cl_X5 ok_X5 0 (by decide) rfl t_197 rfl (ty := .int) rfl rfl rfl hd dX5_copyFrom_5 (fun h1 hd => ?_)
  refine a_aload_n (pc := 8) hG 0 rfl dX5_copyFrom_8 rfl ?_
  refine a_aload_n (pc := 9) hG 1 rfl dX5_copyFrom_9 rfl ?_
  refine a_getI (pc := 10) hG sc_3 cl_X5 ok_X5 1 (by decide) rfl t_198 dX5_copyFrom_10 ?_
  refine a_putI (pc := 13) hG sc_55 cl_X5 ok_X5 1 (by decide) rfl t_198 rfl (ty := .int) rfl rfl rfl hd dX5_copyFrom_13 (fun h2 hd => ?_)
  refine a_aload_n (pc := 16) hG 0 rfl dX5_copyFrom_16 rfl ?_
  refine a_aload_n (pc := 17) hG 1 rfl dX5_copyFrom_17 rfl ?_
  refine a_getI (pc := 18) hG sc_3 cl_X5 ok_X5 2 (by decide) rfl t_199 dX5_copyFrom_18 ?_
  refine a_putI (pc := 21) hG sc_55 cl_X5 ok_X5 2 (by decide) rfl t_199 rfl (ty := .int) rfl rfl rfl hd dX5_copyFrom_21 (fun h3 hd => ?_)
  refine a_aload_n (pc := 24) hG 0 rfl dX5_copyFrom_24 rfl ?_
  refine a_aload_n (pc := 25) hG 1 rfl dX5_copyFrom_25 rfl ?_
  refine a_getI (pc := 26) hG sc_3 cl_X5 ok_X5 3 (by decide) rfl t_200 dX5_copyFrom_26 ?_
  refine a_putI (pc := 29) hG sc_55 cl_X5 ok_X5 3 (by decide) rfl t_200 rfl (ty := .int) rfl rfl rfl hd dX5_copyFrom_29 (fun h4 hd => ?_)
  refine a_aload_n (pc := 32) hG 0 rfl dX5_copyFrom_32 rfl ?_
  refine a_aload_n (pc := 33) hG 1 rfl dX5_copyFrom_33 rfl ?_
  refine a_getI (pc := 34) hG sc_3 cl_X5 ok_X5 4 (by decide) rfl t_201 dX5_copyFrom_34 ?_
  refine a_putI (pc := 37) hG sc_55 cl_X5 ok_X5 4 (by decide) rfl t_201 rfl (ty := .int) rfl rfl rfl hd dX5_copyFrom_37 (fun h5 hd => ?_)
  refine a_aload_n (pc := 40) hG 0 rfl dX5_copyFrom_40 rfl ?_
  refine a_aload_n (pc := 41) hG 1 rfl dX5_copyFrom_41 rfl ?_
  refine a_getI (pc := 42) hG sc_3 cl_X5 ok_X5 5 (by decide) rfl t_202 dX5_copyFrom_42 ?_
  refine a_putI (pc := 45) hG sc_55 cl_X5 ok_X5 5 (by decide) rfl t_202 rfl (ty := .int) rfl rfl rfl hd dX5_copyFrom_45 (fun h6 hd => ?_)
  refine a_aload_n (pc := 48) hG 1 rfl dX5_copyFrom_48 rfl ?_
  refine a_getR (pc := 49) hG sc_3 cl_X5 ok_X5 6 (by decide) rfl t_203 dX5_copyFrom_49 ?_
  refine a_iconst (pc := 52) hG dX5_copyFrom_52 (v := (nI 0)) rfl ?_
  refine a_aload_n (pc := 53) hG 0 rfl dX5_copyFrom_53 rfl ?_
  refine a_getR (pc := 54) hG sc_55 cl_X5 ok_X5 6 (by decide) rfl t_203 dX5_copyFrom_54 ?_
  refine a_iconst (pc := 57) hG dX5_copyFrom_57 (v := (nI 0)) rfl ?_
  refine a_bipush (pc := 58) hG dX5_copyFrom_58 (v := (nI 6)) rfl ?_
  refine a_cpL (pc := 60) hG 6 sc_4 sc_56 rfl (by decide) (by decide) (by decide) t_762 t_764 t_763 t_136 (by omega) (Nat.le_of_ble_eq_true rfl) hd dX5_copyFrom_60 (fun h7 hd => ?_)
  refine a_aload_n (pc := 63) hG 1 rfl dX5_copyFrom_63 rfl ?_
  refine a_getR (pc := 64) hG sc_3 cl_X5 ok_X5 7 (by decide) rfl t_204 dX5_copyFrom_64 ?_
  refine a_iconst (pc := 67) hG dX5_copyFrom_67 (v := (nI 0)) rfl ?_
  refine a_aload_n (pc := 68) hG 0 rfl dX5_copyFrom_68 rfl ?_
  refine a_getR (pc := 69) hG sc_55 cl_X5 ok_X5 7 (by decide) rfl t_204 dX5_copyFrom_69 ?_
  refine a_iconst (pc := 72) hG dX5_copyFrom_72 (v := (nI 0)) rfl ?_
  refine a_bipush (pc := 73) hG dX5_copyFrom_73 (v := (nI 6)) rfl ?_
  refine a_cpL (pc := 75) hG 6 sc_5 sc_57 rfl (by decide) (by decide) (by decide) t_762 t_764 t_763 t_136 (by omega) (Nat.le_of_ble_eq_true rfl) hd dX5_copyFrom_75 (fun h8 hd => ?_)
  refine a_aload_n (pc := 78) hG 1 rfl dX5_copyFrom_78 rfl ?_
  refine a_getR (pc := 79) hG sc_3 cl_X5 ok_X5 8 (by decide) rfl t_205 dX5_copyFrom_79 ?_
  refine a_iconst (pc := 82) hG dX5_copyFrom_82 (v := (nI 0)) rfl ?_
  refine a_aload_n (pc := 83) hG 0 rfl dX5_copyFrom_83 rfl ?_
  refine a_getR (pc := 84) hG sc_55 cl_X5 ok_X5 8 (by decide) rfl t_205 dX5_copyFrom_84 ?_
  refine a_iconst (pc := 87) hG dX5_copyFrom_87 (v := (nI 0)) rfl ?_
  refine a_iconst (pc := 88) hG dX5_copyFrom_88 (v := (nI 5)) rfl ?_
  refine a_cpL (pc := 89) hG 5 sc_6 sc_58 rfl (by decide) (by decide) (by decide) t_762 t_764 t_763 t_136 (by omega) (Nat.le_of_ble_eq_true rfl) hd dX5_copyFrom_89 (fun h9 hd => ?_)
  refine a_aload_n (pc := 92) hG 1 rfl dX5_copyFrom_92 rfl ?_
  refine a_getR (pc := 93) hG sc_3 cl_X5 ok_X5 9 (by decide) rfl t_206 dX5_copyFrom_93 ?_
  refine a_iconst (pc := 96) hG dX5_copyFrom_96 (v := (nI 0)) rfl ?_
  refine a_aload_n (pc := 97) hG 0 rfl dX5_copyFrom_97 rfl ?_
  refine a_getR (pc := 98) hG sc_55 cl_X5 ok_X5 9 (by decide) rfl t_206 dX5_copyFrom_98 ?_
  refine a_iconst (pc := 101) hG dX5_copyFrom_101 (v := (nI 0)) rfl ?_
  refine a_aload_n (pc := 102) hG 0 rfl dX5_copyFrom_102 rfl ?_
  refine a_getR (pc := 103) hG sc_55 cl_X5 ok_X5 9 (by decide) rfl t_206 dX5_copyFrom_103 ?_
  refine a_alenI (pc := 106) hG sc_59 (fun _ => rfl) (v := nI 24) rfl dX5_copyFrom_106 ?_
  refine a_cpI (pc := 107) hG 24 sc_7 sc_59 rfl (by decide) (by decide) (by decide) t_762 t_764 t_763 t_136 (by omega) (Nat.le_of_ble_eq_true rfl) hd dX5_copyFrom_107 (fun h10 hd => ?_)
  refine a_aload_n (pc := 110) hG 1 rfl dX5_copyFrom_110 rfl ?_
  refine a_getR (pc := 111) hG sc_3 cl_X5 ok_X5 10 (by decide) rfl t_207 dX5_copyFrom_111 ?_
  refine a_iconst (pc := 114) hG dX5_copyFrom_114 (v := (nI 0)) rfl ?_
  refine a_aload_n (pc := 115) hG 0 rfl dX5_copyFrom_115 rfl ?_
  refine a_getR (pc := 116) hG sc_55 cl_X5 ok_X5 10 (by decide) rfl t_207 dX5_copyFrom_116 ?_
  refine a_iconst (pc := 119) hG dX5_copyFrom_119 (v := (nI 0)) rfl ?_
  refine a_aload_n (pc := 120) hG 0 rfl dX5_copyFrom_120 rfl ?_
  refine a_getR (pc := 121) hG sc_55 cl_X5 ok_X5 10 (by decide) rfl t_207 dX5_copyFrom_121 ?_
  refine a_alenI (pc := 124) hG sc_60 (fun _ => rfl) (v := nI 12) rfl dX5_copyFrom_124 ?_
  refine a_cpI (pc := 125) hG 12 sc_8 sc_60 rfl (by decide) (by decide) (by decide) t_762 t_764 t_763 t_136 (by omega) (Nat.le_of_ble_eq_true rfl) hd dX5_copyFrom_125 (fun h11 hd => ?_)
  refine a_aload_n (pc := 128) hG 1 rfl dX5_copyFrom_128 rfl ?_
  refine a_getR (pc := 129) hG sc_3 cl_X5 ok_X5 11 (by decide) rfl t_208 dX5_copyFrom_129 ?_
  refine a_iconst (pc := 132) hG dX5_copyFrom_132 (v := (nI 0)) rfl ?_
  refine a_aload_n (pc := 133) hG 0 rfl dX5_copyFrom_133 rfl ?_
  refine a_getR (pc := 134) hG sc_55 cl_X5 ok_X5 11 (by decide) rfl t_208 dX5_copyFrom_134 ?_
  refine a_iconst (pc := 137) hG dX5_copyFrom_137 (v := (nI 0)) rfl ?_
  refine a_aload_n (pc := 138) hG 0 rfl dX5_copyFrom_138 rfl ?_
  refine a_getR (pc := 139) hG sc_55 cl_X5 ok_X5 11 (by decide) rfl t_208 dX5_copyFrom_139 ?_
  refine a_alenI (pc := 142) hG sc_61 (fun _ => rfl) (v := nI 18) rfl dX5_copyFrom_142 ?_
  refine a_cpI (pc := 143) hG 18 sc_9 sc_61 rfl (by decide) (by decide) (by decide) t_762 t_764 t_763 t_136 (by omega) (Nat.le_of_ble_eq_true rfl) hd dX5_copyFrom_143 (fun h12 hd => ?_)
  refine a_aload_n (pc := 146) hG 1 rfl dX5_copyFrom_146 rfl ?_
  refine a_getR (pc := 147) hG sc_3 cl_X5 ok_X5 12 (by decide) rfl t_209 dX5_copyFrom_147 ?_
  refine a_iconst (pc := 150) hG dX5_copyFrom_150 (v := (nI 0)) rfl ?_
  refine a_aload_n (pc := 151) hG 0 rfl dX5_copyFrom_151 rfl ?_
  refine a_getR (pc := 152) hG sc_55 cl_X5 ok_X5 12 (by decide) rfl t_209 dX5_copyFrom_152 ?_
  refine a_iconst (pc := 155) hG dX5_copyFrom_155 (v := (nI 0)) rfl ?_
  refine a_iconst (pc := 156) hG dX5_copyFrom_156 (v := (nI 5)) rfl ?_
  refine a_cpI (pc := 157) hG 5 sc_10 sc_62 rfl (by decide) (by decide) (by decide) t_762 t_764 t_763 t_136 (by omega) (Nat.le_of_ble_eq_true rfl) hd dX5_copyFrom_157 (fun h13 hd => ?_)
  exact a_vret (pc := 160) hG hd dX5_copyFrom_160
set_option maxHeartbeats 4000000 in
theorem c_Sent_copyFrom_64_42 {ad wad : Nat → Nat}  (h : HS)  (q : Unit × HS) (hd : f_Sent_copyFrom_64_42  h = some q) : Ctr SHc ad wad yX7_copyFrom cX7_copyFrom 2 none 2 [.ref (ad 64), .ref (ad 42)] h (none, q.2) := by
  refine enter (own := RX7) (lv := [(0, .ref (ad 64)), (1, .ref (ad 42))]) (by decide +kernel) rfl (Nat.le_of_ble_eq_true rfl) rfl (fun Γ hG => ?_)
  unfold f_Sent_copyFrom_64_42 at hd
  refine a_aload_n (pc := 0) hG 0 rfl dX7_copyFrom_0 rfl ?_
  refine a_aload_n (pc := 1) hG 1 rfl dX7_copyFrom_1 rfl ?_
  refine a_getI (pc := 2) hG sc_42 cl_X7 ok_X7 3 (by decide) rfl t_369 dX7_copyFrom_2 ?_
  refine a_putI (pc := 5) hG sc_64 cl_X7 ok_X7 3 (by decide) rfl t_369 rfl (ty := .int) rfl rfl rfl hd dX7_copyFrom_5 (fun h1 hd => ?_)
  refine a_aload_n (pc := 8) hG 1 rfl dX7_copyFrom_8 rfl ?_
  refine a_getR (pc := 9) hG sc_42 cl_X7 ok_X7 0 (by decide) rfl t_366 dX7_copyFrom_9 ?_
  refine a_iconst (pc := 12) hG dX7_copyFrom_12 (v := (nI 0)) rfl ?_
  refine a_aload_n (pc := 13) hG 0 rfl dX7_copyFrom_13 rfl ?_
  refine a_getR (pc := 14) hG sc_64 cl_X7 ok_X7 0 (by decide) rfl t_366 dX7_copyFrom_14 ?_
  refine a_iconst (pc := 17) hG dX7_copyFrom_17 (v := (nI 0)) rfl ?_
  refine a_bipush (pc := 18) hG dX7_copyFrom_18 (v := (nI 40)) rfl ?_
  refine a_cpI (pc := 20) hG 40 sc_43 sc_65 rfl (by decide) (by decide) (by decide) t_1383 t_764 t_763 t_136 (by omega) (Nat.le_of_ble_eq_true rfl) hd dX7_copyFrom_20 (fun h2 hd => ?_)
  refine a_aload_n (pc := 23) hG 1 rfl dX7_copyFrom_23 rfl ?_
  refine a_getR (pc := 24) hG sc_42 cl_X7 ok_X7 1 (by decide) rfl t_367 dX7_copyFrom_24 ?_
  refine a_iconst (pc := 27) hG dX7_copyFrom_27 (v := (nI 0)) rfl ?_
  refine a_aload_n (pc := 28) hG 0 rfl dX7_copyFrom_28 rfl ?_
  refine a_getR (pc := 29) hG sc_64 cl_X7 ok_X7 1 (by decide) rfl t_367 dX7_copyFrom_29 ?_
  refine a_iconst (pc := 32) hG dX7_copyFrom_32 (v := (nI 0)) rfl ?_
  refine a_bipush (pc := 33) hG dX7_copyFrom_33 (v := (nI 40)) rfl ?_
  refine a_cpI (pc := 35) hG 40 sc_44 sc_66 rfl (by decide) (by decide) (by decide) t_1383 t_764 t_763 t_136 (by omega) (Nat.le_of_ble_eq_true rfl) hd dX7_copyFrom_35 (fun h3 hd => ?_)
  refine a_aload_n (pc := 38) hG 1 rfl dX7_copyFrom_38 rfl ?_
  refine a_getR (pc := 39) hG sc_42 cl_X7 ok_X7 2 (by decide) rfl t_368 dX7_copyFrom_39 ?_
  refine a_iconst (pc := 42) hG dX7_copyFrom_42 (v := (nI 0)) rfl ?_
  refine a_aload_n (pc := 43) hG 0 rfl dX7_copyFrom_43 rfl ?_
  refine a_getR (pc := 44) hG sc_64 cl_X7 ok_X7 2 (by decide) rfl t_368 dX7_copyFrom_44 ?_
  refine a_iconst (pc := 47) hG dX7_copyFrom_47 (v := (nI 0)) rfl ?_
  refine a_bipush (pc := 48) hG dX7_copyFrom_48 (v := (nI 40)) rfl ?_
  refine a_cpI (pc := 50) hG 40 sc_45 sc_67 rfl (by decide) (by decide) (by decide) t_1383 t_764 t_763 t_136 (by omega) (Nat.le_of_ble_eq_true rfl) hd dX7_copyFrom_50 (fun h4 hd => ?_)
  exact a_vret (pc := 53) hG hd dX7_copyFrom_53
theorem dX1_keep_0 : decode cX1_keep 0 = .ok (.aload_n 0, 1) := by decide +kernel
theorem dX1_keep_1 : decode cX1_keep 1 = .ok (.getfield 12, 3) := by decide +kernel
theorem dX1_keep_4 : decode cX1_keep 4 = .ok (.aload_n 1, 1) := by decide +kernel
theorem dX1_keep_5 : decode cX1_keep 5 = .ok (.invokevirtual 33, 3) := by decide +kernel
theorem dX1_keep_8 : decode cX1_keep 8 = .ok (.aload_n 2, 1) := by decide +kernel
theorem dX1_keep_9 : decode cX1_keep 9 = .ok (.aload_n 0, 1) := by decide +kernel
theorem dX1_keep_10 : decode cX1_keep 10 = .ok (.getfield 18, 3) := by decide +kernel
theorem dX1_keep_13 : decode cX1_keep 13 = .ok (.invokevirtual 37, 3) := by decide +kernel
theorem dX1_keep_16 : decode cX1_keep 16 = .ok (.aload_n 0, 1) := by decide +kernel
theorem dX1_keep_17 : decode cX1_keep 17 = .ok (.getfield 25, 3) := by decide +kernel
theorem dX1_keep_20 : decode cX1_keep 20 = .ok (.aload_n 3, 1) := by decide +kernel
theorem dX1_keep_21 : decode cX1_keep 21 = .ok (.invokevirtual 43, 3) := by decide +kernel
theorem dX1_keep_24 : decode cX1_keep 24 = .ok (.aload_n 0, 1) := by decide +kernel
theorem dX1_keep_25 : decode cX1_keep 25 = .ok (.iconst 1, 1) := by decide +kernel
theorem dX1_keep_26 : decode cX1_keep 26 = .ok (.putfield 29, 3) := by decide +kernel
theorem dX1_keep_29 : decode cX1_keep 29 = .ok (.return_, 1) := by decide +kernel
set_option maxHeartbeats 4000000 in
theorem c_Image_keep_54_42 {ad wad : Nat → Nat}  (h : HS)  (q : Unit × HS) (hd : f_Image_keep_54_42  h = some q) : Ctr SHc ad wad yX1_keep cX1_keep 4 none 3 [.ref (ad 54), .ref (ad 3), .ref (ad 20), .ref (ad 42)] h (none, q.2) := by
  refine enter (own := RX1) (lv := [(0, .ref (ad 54)), (1, .ref (ad 3)), (2, .ref (ad 20)), (3, .ref (ad 42))]) (by decide +kernel) rfl (Nat.le_of_ble_eq_true rfl) rfl (fun Γ hG => ?_)
  unfold f_Image_keep_54_42 at hd
  refine a_aload_n (pc := 0) hG 0 rfl dX1_keep_0 rfl ?_
  refine a_getR (pc := 1) hG sc_54 cl_X1 ok_X1 0 (by decide) rfl t_420 dX1_keep_1 ?_
  refine a_aload_n (pc := 4) hG 1 rfl dX1_keep_4 rfl ?_
  refine a_cvN (pc := 5) hG (As := [.ref (ad 3)]) (st := []) sc_55 cl_X5 mk_X5_copyFrom t_1418 (by omega) (fun z hz => c_Plan_copyFrom_55  _  z hz) rfl (Nat.le_of_ble_eq_true rfl) hd dX1_keep_5 (fun _ h1 hd => ?_)
  refine a_aload_n (pc := 8) hG 2 rfl dX1_keep_8 rfl ?_
  refine a_aload_n (pc := 9) hG 0 rfl dX1_keep_9 rfl ?_
  refine a_getR (pc := 10) hG sc_54 cl_X1 ok_X1 1 (by decide) rfl t_421 dX1_keep_10 ?_
  refine a_cvN (pc := 13) hG (As := [.ref (ad 63)]) (st := []) sc_20 cl_X0 mk_X0_saveTo t_1419 (by omega) (fun z hz => c_Desk_saveTo 63 _ sc_63 z hz) rfl (Nat.le_of_ble_eq_true rfl) hd dX1_keep_13 (fun _ h2 hd => ?_)
  refine a_aload_n (pc := 16) hG 0 rfl dX1_keep_16 rfl ?_
  refine a_getR (pc := 17) hG sc_54 cl_X1 ok_X1 2 (by decide) rfl t_422 dX1_keep_17 ?_
  refine a_aload_n (pc := 20) hG 3 rfl dX1_keep_20 rfl ?_
  refine a_cvN (pc := 21) hG (As := [.ref (ad 42)]) (st := []) sc_64 cl_X7 mk_X7_copyFrom t_1420 (by omega) (fun z hz => c_Sent_copyFrom_64_42  _  z hz) rfl (Nat.le_of_ble_eq_true rfl) hd dX1_keep_21 (fun _ h3 hd => ?_)
  refine a_aload_n (pc := 24) hG 0 rfl dX1_keep_24 rfl ?_
  refine a_iconst (pc := 25) hG dX1_keep_25 (v := (nI 1)) rfl ?_
  refine a_putI (pc := 26) hG sc_54 cl_X1 ok_X1 3 (by decide) rfl t_423 rfl (ty := .boolean) rfl rfl rfl hd dX1_keep_26 (fun h4 hd => ?_)
  exact a_vret (pc := 29) hG hd dX1_keep_29
set_option maxHeartbeats 4000000 in
theorem c_Plan_copyFrom_69 {ad wad : Nat → Nat}  (h : HS)  (q : Unit × HS) (hd : f_Plan_copyFrom_69  h = some q) : Ctr SHc ad wad yX5_copyFrom cX5_copyFrom 2 none 2 [.ref (ad 69), .ref (ad 3)] h (none, q.2) := by
  refine enter (own := RX5) (lv := [(0, .ref (ad 69)), (1, .ref (ad 3))]) (by decide +kernel) rfl (Nat.le_of_ble_eq_true rfl) rfl (fun Γ hG => ?_)
  unfold f_Plan_copyFrom_69 at hd
  refine a_aload_n (pc := 0) hG 0 rfl dX5_copyFrom_0 rfl ?_
  refine a_aload_n (pc := 1) hG 1 rfl dX5_copyFrom_1 rfl ?_
  refine a_getI (pc := 2) hG sc_3 cl_X5 ok_X5 0 (by decide) rfl t_197 dX5_copyFrom_2 ?_
  refine a_putI (pc := 5) hG sc_69 cl_X5 ok_X5 0 (by decide) rfl t_197 rfl (ty := .int) rfl rfl rfl hd dX5_copyFrom_5 (fun h1 hd => ?_)
  refine a_aload_n (pc := 8) hG 0 rfl dX5_copyFrom_8 rfl ?_
  refine a_aload_n (pc := 9) hG 1 rfl dX5_copyFrom_9 rfl ?_
  refine a_getI (pc := 10) hG sc_3 cl_X5 ok_X5 1 (by decide) rfl t_198 dX5_copyFrom_10 ?_
  refine a_putI (pc := 13) hG sc_69 cl_X5 ok_X5 1 (by decide) rfl t_198 rfl (ty := .int) rfl rfl rfl hd dX5_copyFrom_13 (fun h2 hd => ?_)
  refine a_aload_n (pc := 16) hG 0 rfl dX5_copyFrom_16 rfl ?_
  refine a_aload_n (pc := 17) hG 1 rfl dX5_copyFrom_17 rfl ?_
  refine a_getI (pc := 18) hG sc_3 cl_X5 ok_X5 2 (by decide) rfl t_199 dX5_copyFrom_18 ?_
  refine a_putI (pc := 21) hG sc_69 cl_X5 ok_X5 2 (by decide) rfl t_199 rfl (ty := .int) rfl rfl rfl hd dX5_copyFrom_21 (fun h3 hd => ?_)
  refine a_aload_n (pc := 24) hG 0 rfl dX5_copyFrom_24 rfl ?_
  refine a_aload_n (pc := 25) hG 1 rfl dX5_copyFrom_25 rfl ?_
  refine a_getI (pc := 26) hG sc_3 cl_X5 ok_X5 3 (by decide) rfl t_200 dX5_copyFrom_26 ?_
  refine a_putI (pc := 29) hG sc_69 cl_X5 ok_X5 3 (by decide) rfl t_200 rfl (ty := .int) rfl rfl rfl hd dX5_copyFrom_29 (fun h4 hd => ?_)
  refine a_aload_n (pc := 32) hG 0 rfl dX5_copyFrom_32 rfl ?_
  refine a_aload_n (pc := 33) hG 1 rfl dX5_copyFrom_33 rfl ?_
  refine a_getI (pc := 34) hG sc_3 cl_X5 ok_X5 4 (by decide) rfl t_201 dX5_copyFrom_34 ?_
  refine a_putI (pc := 37) hG sc_69 cl_X5 ok_X5 4 (by decide) rfl t_201 rfl (ty := .int) rfl rfl rfl hd dX5_copyFrom_37 (fun h5 hd => ?_)
  refine a_aload_n (pc := 40) hG 0 rfl dX5_copyFrom_40 rfl ?_
  refine a_aload_n (pc := 41) hG 1 rfl dX5_copyFrom_41 rfl ?_
  refine a_getI (pc := 42) hG sc_3 cl_X5 ok_X5 5 (by decide) rfl t_202 dX5_copyFrom_42 ?_
  refine a_putI (pc := 45) hG sc_69 cl_X5 ok_X5 5 (by decide) rfl t_202 rfl (ty := .int) rfl rfl rfl hd dX5_copyFrom_45 (fun h6 hd => ?_)
  refine a_aload_n (pc := 48) hG 1 rfl dX5_copyFrom_48 rfl ?_
  refine a_getR (pc := 49) hG sc_3 cl_X5 ok_X5 6 (by decide) rfl t_203 dX5_copyFrom_49 ?_
  refine a_iconst (pc := 52) hG dX5_copyFrom_52 (v := (nI 0)) rfl ?_
  refine a_aload_n (pc := 53) hG 0 rfl dX5_copyFrom_53 rfl ?_
  refine a_getR (pc := 54) hG sc_69 cl_X5 ok_X5 6 (by decide) rfl t_203 dX5_copyFrom_54 ?_
  refine a_iconst (pc := 57) hG dX5_copyFrom_57 (v := (nI 0)) rfl ?_
  refine a_bipush (pc := 58) hG dX5_copyFrom_58 (v := (nI 6)) rfl ?_
  refine a_cpL (pc := 60) hG 6 sc_4 sc_70 rfl (by decide) (by decide) (by decide) t_762 t_764 t_763 t_136 (by omega) (Nat.le_of_ble_eq_true rfl) hd dX5_copyFrom_60 (fun h7 hd => ?_)
  refine a_aload_n (pc := 63) hG 1 rfl dX5_copyFrom_63 rfl ?_
  refine a_getR (pc := 64) hG sc_3 cl_X5 ok_X5 7 (by decide) rfl t_204 dX5_copyFrom_64 ?_
  refine a_iconst (pc := 67) hG dX5_copyFrom_67 (v := (nI 0)) rfl ?_
  refine a_aload_n (pc := 68) hG 0 rfl dX5_copyFrom_68 rfl ?_
  refine a_getR (pc := 69) hG sc_69 cl_X5 ok_X5 7 (by decide) rfl t_204 dX5_copyFrom_69 ?_
  refine a_iconst (pc := 72) hG dX5_copyFrom_72 (v := (nI 0)) rfl ?_
  refine a_bipush (pc := 73) hG dX5_copyFrom_73 (v := (nI 6)) rfl ?_
  refine a_cpL (pc := 75) hG 6 sc_5 sc_71 rfl (by decide) (by decide) (by decide) t_762 t_764 t_763 t_136 (by omega) (Nat.le_of_ble_eq_true rfl) hd dX5_copyFrom_75 (fun h8 hd => ?_)
  refine a_aload_n (pc := 78) hG 1 rfl dX5_copyFrom_78 rfl ?_
  refine a_getR (pc := 79) hG sc_3 cl_X5 ok_X5 8 (by decide) rfl t_205 dX5_copyFrom_79 ?_
  refine a_iconst (pc := 82) hG dX5_copyFrom_82 (v := (nI 0)) rfl ?_
  refine a_aload_n (pc := 83) hG 0 rfl dX5_copyFrom_83 rfl ?_
  refine a_getR (pc := 84) hG sc_69 cl_X5 ok_X5 8 (by decide) rfl t_205 dX5_copyFrom_84 ?_
  refine a_iconst (pc := 87) hG dX5_copyFrom_87 (v := (nI 0)) rfl ?_
  refine a_iconst (pc := 88) hG dX5_copyFrom_88 (v := (nI 5)) rfl ?_
  refine a_cpL (pc := 89) hG 5 sc_6 sc_72 rfl (by decide) (by decide) (by decide) t_762 t_764 t_763 t_136 (by omega) (Nat.le_of_ble_eq_true rfl) hd dX5_copyFrom_89 (fun h9 hd => ?_)
  refine a_aload_n (pc := 92) hG 1 rfl dX5_copyFrom_92 rfl ?_
  refine a_getR (pc := 93) hG sc_3 cl_X5 ok_X5 9 (by decide) rfl t_206 dX5_copyFrom_93 ?_
  refine a_iconst (pc := 96) hG dX5_copyFrom_96 (v := (nI 0)) rfl ?_
  refine a_aload_n (pc := 97) hG 0 rfl dX5_copyFrom_97 rfl ?_
  refine a_getR (pc := 98) hG sc_69 cl_X5 ok_X5 9 (by decide) rfl t_206 dX5_copyFrom_98 ?_
  refine a_iconst (pc := 101) hG dX5_copyFrom_101 (v := (nI 0)) rfl ?_
  refine a_aload_n (pc := 102) hG 0 rfl dX5_copyFrom_102 rfl ?_
  refine a_getR (pc := 103) hG sc_69 cl_X5 ok_X5 9 (by decide) rfl t_206 dX5_copyFrom_103 ?_
  refine a_alenI (pc := 106) hG sc_73 (fun _ => rfl) (v := nI 24) rfl dX5_copyFrom_106 ?_
  refine a_cpI (pc := 107) hG 24 sc_7 sc_73 rfl (by decide) (by decide) (by decide) t_762 t_764 t_763 t_136 (by omega) (Nat.le_of_ble_eq_true rfl) hd dX5_copyFrom_107 (fun h10 hd => ?_)
  refine a_aload_n (pc := 110) hG 1 rfl dX5_copyFrom_110 rfl ?_
  refine a_getR (pc := 111) hG sc_3 cl_X5 ok_X5 10 (by decide) rfl t_207 dX5_copyFrom_111 ?_
  refine a_iconst (pc := 114) hG dX5_copyFrom_114 (v := (nI 0)) rfl ?_
  refine a_aload_n (pc := 115) hG 0 rfl dX5_copyFrom_115 rfl ?_
  refine a_getR (pc := 116) hG sc_69 cl_X5 ok_X5 10 (by decide) rfl t_207 dX5_copyFrom_116 ?_
  refine a_iconst (pc := 119) hG dX5_copyFrom_119 (v := (nI 0)) rfl ?_
  refine a_aload_n (pc := 120) hG 0 rfl dX5_copyFrom_120 rfl ?_
  refine a_getR (pc := 121) hG sc_69 cl_X5 ok_X5 10 (by decide) rfl t_207 dX5_copyFrom_121 ?_
  refine a_alenI (pc := 124) hG sc_74 (fun _ => rfl) (v := nI 12) rfl dX5_copyFrom_124 ?_
  refine a_cpI (pc := 125) hG 12 sc_8 sc_74 rfl (by decide) (by decide) (by decide) t_762 t_764 t_763 t_136 (by omega) (Nat.le_of_ble_eq_true rfl) hd dX5_copyFrom_125 (fun h11 hd => ?_)
  refine a_aload_n (pc := 128) hG 1 rfl dX5_copyFrom_128 rfl ?_
  refine a_getR (pc := 129) hG sc_3 cl_X5 ok_X5 11 (by decide) rfl t_208 dX5_copyFrom_129 ?_
  refine a_iconst (pc := 132) hG dX5_copyFrom_132 (v := (nI 0)) rfl ?_
  refine a_aload_n (pc := 133) hG 0 rfl dX5_copyFrom_133 rfl ?_
  refine a_getR (pc := 134) hG sc_69 cl_X5 ok_X5 11 (by decide) rfl t_208 dX5_copyFrom_134 ?_
  refine a_iconst (pc := 137) hG dX5_copyFrom_137 (v := (nI 0)) rfl ?_
  refine a_aload_n (pc := 138) hG 0 rfl dX5_copyFrom_138 rfl ?_
  refine a_getR (pc := 139) hG sc_69 cl_X5 ok_X5 11 (by decide) rfl t_208 dX5_copyFrom_139 ?_
  refine a_alenI (pc := 142) hG sc_75 (fun _ => rfl) (v := nI 18) rfl dX5_copyFrom_142 ?_
  refine a_cpI (pc := 143) hG 18 sc_9 sc_75 rfl (by decide) (by decide) (by decide) t_762 t_764 t_763 t_136 (by omega) (Nat.le_of_ble_eq_true rfl) hd dX5_copyFrom_143 (fun h12 hd => ?_)
  refine a_aload_n (pc := 146) hG 1 rfl dX5_copyFrom_146 rfl ?_
  refine a_getR (pc := 147) hG sc_3 cl_X5 ok_X5 12 (by decide) rfl t_209 dX5_copyFrom_147 ?_
  refine a_iconst (pc := 150) hG dX5_copyFrom_150 (v := (nI 0)) rfl ?_
  refine a_aload_n (pc := 151) hG 0 rfl dX5_copyFrom_151 rfl ?_
  refine a_getR (pc := 152) hG sc_69 cl_X5 ok_X5 12 (by decide) rfl t_209 dX5_copyFrom_152 ?_
  refine a_iconst (pc := 155) hG dX5_copyFrom_155 (v := (nI 0)) rfl ?_
  refine a_iconst (pc := 156) hG dX5_copyFrom_156 (v := (nI 5)) rfl ?_
  refine a_cpI (pc := 157) hG 5 sc_10 sc_76 rfl (by decide) (by decide) (by decide) t_762 t_764 t_763 t_136 (by omega) (Nat.le_of_ble_eq_true rfl) hd dX5_copyFrom_157 (fun h13 hd => ?_)
  exact a_vret (pc := 160) hG hd dX5_copyFrom_160
set_option maxHeartbeats 4000000 in
theorem c_Sent_copyFrom_78_42 {ad wad : Nat → Nat}  (h : HS)  (q : Unit × HS) (hd : f_Sent_copyFrom_78_42  h = some q) : Ctr SHc ad wad yX7_copyFrom cX7_copyFrom 2 none 2 [.ref (ad 78), .ref (ad 42)] h (none, q.2) := by
  refine enter (own := RX7) (lv := [(0, .ref (ad 78)), (1, .ref (ad 42))]) (by decide +kernel) rfl (Nat.le_of_ble_eq_true rfl) rfl (fun Γ hG => ?_)
  unfold f_Sent_copyFrom_78_42 at hd
  refine a_aload_n (pc := 0) hG 0 rfl dX7_copyFrom_0 rfl ?_
  refine a_aload_n (pc := 1) hG 1 rfl dX7_copyFrom_1 rfl ?_
  refine a_getI (pc := 2) hG sc_42 cl_X7 ok_X7 3 (by decide) rfl t_369 dX7_copyFrom_2 ?_
  refine a_putI (pc := 5) hG sc_78 cl_X7 ok_X7 3 (by decide) rfl t_369 rfl (ty := .int) rfl rfl rfl hd dX7_copyFrom_5 (fun h1 hd => ?_)
  refine a_aload_n (pc := 8) hG 1 rfl dX7_copyFrom_8 rfl ?_
  refine a_getR (pc := 9) hG sc_42 cl_X7 ok_X7 0 (by decide) rfl t_366 dX7_copyFrom_9 ?_
  refine a_iconst (pc := 12) hG dX7_copyFrom_12 (v := (nI 0)) rfl ?_
  refine a_aload_n (pc := 13) hG 0 rfl dX7_copyFrom_13 rfl ?_
  refine a_getR (pc := 14) hG sc_78 cl_X7 ok_X7 0 (by decide) rfl t_366 dX7_copyFrom_14 ?_
  refine a_iconst (pc := 17) hG dX7_copyFrom_17 (v := (nI 0)) rfl ?_
  refine a_bipush (pc := 18) hG dX7_copyFrom_18 (v := (nI 40)) rfl ?_
  refine a_cpI (pc := 20) hG 40 sc_43 sc_79 rfl (by decide) (by decide) (by decide) t_1383 t_764 t_763 t_136 (by omega) (Nat.le_of_ble_eq_true rfl) hd dX7_copyFrom_20 (fun h2 hd => ?_)
  refine a_aload_n (pc := 23) hG 1 rfl dX7_copyFrom_23 rfl ?_
  refine a_getR (pc := 24) hG sc_42 cl_X7 ok_X7 1 (by decide) rfl t_367 dX7_copyFrom_24 ?_
  refine a_iconst (pc := 27) hG dX7_copyFrom_27 (v := (nI 0)) rfl ?_
  refine a_aload_n (pc := 28) hG 0 rfl dX7_copyFrom_28 rfl ?_
  refine a_getR (pc := 29) hG sc_78 cl_X7 ok_X7 1 (by decide) rfl t_367 dX7_copyFrom_29 ?_
  refine a_iconst (pc := 32) hG dX7_copyFrom_32 (v := (nI 0)) rfl ?_
  refine a_bipush (pc := 33) hG dX7_copyFrom_33 (v := (nI 40)) rfl ?_
  refine a_cpI (pc := 35) hG 40 sc_44 sc_80 rfl (by decide) (by decide) (by decide) t_1383 t_764 t_763 t_136 (by omega) (Nat.le_of_ble_eq_true rfl) hd dX7_copyFrom_35 (fun h3 hd => ?_)
  refine a_aload_n (pc := 38) hG 1 rfl dX7_copyFrom_38 rfl ?_
  refine a_getR (pc := 39) hG sc_42 cl_X7 ok_X7 2 (by decide) rfl t_368 dX7_copyFrom_39 ?_
  refine a_iconst (pc := 42) hG dX7_copyFrom_42 (v := (nI 0)) rfl ?_
  refine a_aload_n (pc := 43) hG 0 rfl dX7_copyFrom_43 rfl ?_
  refine a_getR (pc := 44) hG sc_78 cl_X7 ok_X7 2 (by decide) rfl t_368 dX7_copyFrom_44 ?_
  refine a_iconst (pc := 47) hG dX7_copyFrom_47 (v := (nI 0)) rfl ?_
  refine a_bipush (pc := 48) hG dX7_copyFrom_48 (v := (nI 40)) rfl ?_
  refine a_cpI (pc := 50) hG 40 sc_45 sc_81 rfl (by decide) (by decide) (by decide) t_1383 t_764 t_763 t_136 (by omega) (Nat.le_of_ble_eq_true rfl) hd dX7_copyFrom_50 (fun h4 hd => ?_)
  exact a_vret (pc := 53) hG hd dX7_copyFrom_53
set_option maxHeartbeats 4000000 in
theorem c_Image_keep_68_42 {ad wad : Nat → Nat}  (h : HS)  (q : Unit × HS) (hd : f_Image_keep_68_42  h = some q) : Ctr SHc ad wad yX1_keep cX1_keep 4 none 3 [.ref (ad 68), .ref (ad 3), .ref (ad 20), .ref (ad 42)] h (none, q.2) := by
  refine enter (own := RX1) (lv := [(0, .ref (ad 68)), (1, .ref (ad 3)), (2, .ref (ad 20)), (3, .ref (ad 42))]) (by decide +kernel) rfl (Nat.le_of_ble_eq_true rfl) rfl (fun Γ hG => ?_)
  unfold f_Image_keep_68_42 at hd
  refine a_aload_n (pc := 0) hG 0 rfl dX1_keep_0 rfl ?_
  refine a_getR (pc := 1) hG sc_68 cl_X1 ok_X1 0 (by decide) rfl t_420 dX1_keep_1 ?_
  refine a_aload_n (pc := 4) hG 1 rfl dX1_keep_4 rfl ?_
  refine a_cvN (pc := 5) hG (As := [.ref (ad 3)]) (st := []) sc_69 cl_X5 mk_X5_copyFrom t_1418 (by omega) (fun z hz => c_Plan_copyFrom_69  _  z hz) rfl (Nat.le_of_ble_eq_true rfl) hd dX1_keep_5 (fun _ h1 hd => ?_)
  refine a_aload_n (pc := 8) hG 2 rfl dX1_keep_8 rfl ?_
  refine a_aload_n (pc := 9) hG 0 rfl dX1_keep_9 rfl ?_
  refine a_getR (pc := 10) hG sc_68 cl_X1 ok_X1 1 (by decide) rfl t_421 dX1_keep_10 ?_
  refine a_cvN (pc := 13) hG (As := [.ref (ad 77)]) (st := []) sc_20 cl_X0 mk_X0_saveTo t_1419 (by omega) (fun z hz => c_Desk_saveTo 77 _ sc_77 z hz) rfl (Nat.le_of_ble_eq_true rfl) hd dX1_keep_13 (fun _ h2 hd => ?_)
  refine a_aload_n (pc := 16) hG 0 rfl dX1_keep_16 rfl ?_
  refine a_getR (pc := 17) hG sc_68 cl_X1 ok_X1 2 (by decide) rfl t_422 dX1_keep_17 ?_
  refine a_aload_n (pc := 20) hG 3 rfl dX1_keep_20 rfl ?_
  refine a_cvN (pc := 21) hG (As := [.ref (ad 42)]) (st := []) sc_78 cl_X7 mk_X7_copyFrom t_1420 (by omega) (fun z hz => c_Sent_copyFrom_78_42  _  z hz) rfl (Nat.le_of_ble_eq_true rfl) hd dX1_keep_21 (fun _ h3 hd => ?_)
  refine a_aload_n (pc := 24) hG 0 rfl dX1_keep_24 rfl ?_
  refine a_iconst (pc := 25) hG dX1_keep_25 (v := (nI 1)) rfl ?_
  refine a_putI (pc := 26) hG sc_68 cl_X1 ok_X1 3 (by decide) rfl t_423 rfl (ty := .boolean) rfl rfl rfl hd dX1_keep_26 (fun h4 hd => ?_)
  exact a_vret (pc := 29) hG hd dX1_keep_29
theorem dX11_image_0 : decode cX11_image 0 = .ok (.iload_n 1, 1) := by decide +kernel
theorem dX11_image_1 : decode cX11_image 1 = .ok (.ifCond .eq 10, 3) := by decide +kernel
theorem dX11_image_4 : decode cX11_image 4 = .ok (.iload_n 1, 1) := by decide +kernel
theorem dX11_image_5 : decode cX11_image 5 = .ok (.iconst 1, 1) := by decide +kernel
theorem dX11_image_6 : decode cX11_image 6 = .ok (.if_icmp .eq 5, 3) := by decide +kernel
theorem dX11_image_9 : decode cX11_image 9 = .ok (.iconst 0, 1) := by decide +kernel
theorem dX11_image_10 : decode cX11_image 10 = .ok (.ireturn, 1) := by decide +kernel
theorem dX11_image_11 : decode cX11_image 11 = .ok (.aload_n 0, 1) := by decide +kernel
theorem dX11_image_12 : decode cX11_image 12 = .ok (.iload_n 1, 1) := by decide +kernel
theorem dX11_image_13 : decode cX11_image 13 = .ok (.invokevirtual 327, 3) := by decide +kernel
theorem dX11_image_16 : decode cX11_image 16 = .ok (.aload_n 0, 1) := by decide +kernel
theorem dX11_image_17 : decode cX11_image 17 = .ok (.getfield 19, 3) := by decide +kernel
theorem dX11_image_20 : decode cX11_image 20 = .ok (.aload_n 0, 1) := by decide +kernel
theorem dX11_image_21 : decode cX11_image 21 = .ok (.getfield 40, 3) := by decide +kernel
theorem dX11_image_24 : decode cX11_image 24 = .ok (.aload_n 0, 1) := by decide +kernel
theorem dX11_image_25 : decode cX11_image 25 = .ok (.getfield 72, 3) := by decide +kernel
theorem dX11_image_28 : decode cX11_image 28 = .ok (.invokevirtual 331, 3) := by decide +kernel
theorem dX11_image_31 : decode cX11_image 31 = .ok (.iconst 1, 1) := by decide +kernel
theorem dX11_image_32 : decode cX11_image 32 = .ok (.ireturn, 1) := by decide +kernel
set_option maxHeartbeats 4000000 in
theorem c_LC_image {ad wad : Nat → Nat} (a0 : Int32) (h : HS)  (q : Int32 × HS) (hd : f_LC_image a0 h = some q) : Ctr SHc ad wad yX11_image cX11_image 2 (some .boolean) 4 [.ref (ad 0), .int a0] h (some (.int q.1), q.2) := by
  refine enter (own := RX11) (lv := [(0, .ref (ad 0)), (1, .int a0)]) (by decide +kernel) rfl (Nat.le_of_ble_eq_true rfl) rfl (fun Γ hG => ?_)
  unfold f_LC_image at hd
  refine a_iload_n (pc := 0) hG 1 rfl dX11_image_0 rfl ?_
  refine a_join hd (Q := fun J : HS → Option (Int32 × HS) => ∀  (h2 : HS), J  h2 = some q → AW SHc ad 2 (some (.int q.1), q.2) Γ 11 [(0, .ref (ad 0)), (1, .int a0)] [] h2) (fun  h2 hd => ?_) (fun J1 hJ1 hd => ?_)
  · refine a_aload_n (pc := 11) hG 0 rfl dX11_image_11 rfl ?_
    refine a_iload_n (pc := 12) hG 1 rfl dX11_image_12 rfl ?_
    refine a_imageAt (pc := 13) hG sc_0 cl_X11 mk_X11_imageAt t_1410 (by omega) (fun z hz => c_LC_imageAt a0 _ z hz) hd (Nat.le_of_ble_eq_true rfl) dX11_image_13 (fun hd => ?_) (fun hd => ?_)
    · refine a_aload_n (pc := 16) hG 0 rfl dX11_image_16 rfl ?_
      refine a_getR (pc := 17) hG sc_0 cl_X11 ok_X11 1 (by decide) rfl t_482 dX11_image_17 ?_
      refine a_aload_n (pc := 20) hG 0 rfl dX11_image_20 rfl ?_
      refine a_getR (pc := 21) hG sc_0 cl_X11 ok_X11 4 (by decide) rfl t_485 dX11_image_21 ?_
      refine a_aload_n (pc := 24) hG 0 rfl dX11_image_24 rfl ?_
      refine a_getR (pc := 25) hG sc_0 cl_X11 ok_X11 8 (by decide) rfl t_489 dX11_image_25 ?_
      refine a_cvN (pc := 28) hG (As := [.ref (ad 3), .ref (ad 20), .ref (ad 42)]) (st := []) sc_54 cl_X1 mk_X1_keep t_1414 (by omega) (fun z hz => c_Image_keep_54_42  _  z hz) rfl (Nat.le_of_ble_eq_true rfl) hd dX11_image_28 (fun _ h3 hd => ?_)
      refine a_iconst (pc := 31) hG dX11_image_31 (v := (nI 1)) rfl ?_
      exact a_zret (pc := 32) hG hd dX11_image_32
    refine a_aload_n (pc := 16) hG 0 rfl dX11_image_16 rfl ?_
    refine a_getR (pc := 17) hG sc_0 cl_X11 ok_X11 1 (by decide) rfl t_482 dX11_image_17 ?_
    refine a_aload_n (pc := 20) hG 0 rfl dX11_image_20 rfl ?_
    refine a_getR (pc := 21) hG sc_0 cl_X11 ok_X11 4 (by decide) rfl t_485 dX11_image_21 ?_
    refine a_aload_n (pc := 24) hG 0 rfl dX11_image_24 rfl ?_
    refine a_getR (pc := 25) hG sc_0 cl_X11 ok_X11 8 (by decide) rfl t_489 dX11_image_25 ?_
    refine a_cvN (pc := 28) hG (As := [.ref (ad 3), .ref (ad 20), .ref (ad 42)]) (st := []) sc_68 cl_X1 mk_X1_keep t_1414 (by omega) (fun z hz => c_Image_keep_68_42  _  z hz) rfl (Nat.le_of_ble_eq_true rfl) hd dX11_image_28 (fun _ h4 hd => ?_)
    refine a_iconst (pc := 31) hG dX11_image_31 (v := (nI 1)) rfl ?_
    exact a_zret (pc := 32) hG hd dX11_image_32
  refine a_if_eq (pc := 1) hG (tgt := 11) hd dX11_image_1 (by decide) (fun hd => ?_) (fun hd => ?_)
  · exact AW.sub [0, 1] rfl (hJ1  _ hd)
  refine a_iload_n (pc := 4) hG 1 rfl dX11_image_4 rfl ?_
  refine a_iconst (pc := 5) hG dX11_image_5 (v := (nI 1)) rfl ?_
  refine a_ic_eq (pc := 6) hG (tgt := 11) hd dX11_image_6 (by decide) (fun hd => ?_) (fun hd => ?_)
  · exact AW.sub [0, 1] rfl (hJ1  _ hd)
  refine a_iconst (pc := 9) hG dX11_image_9 (v := (nI 0)) rfl ?_
  exact a_zret (pc := 10) hG hd dX11_image_10
theorem dX1_isKept_0 : decode cX1_isKept 0 = .ok (.aload_n 0, 1) := by decide +kernel
theorem dX1_isKept_1 : decode cX1_isKept 1 = .ok (.getfield 29, 3) := by decide +kernel
theorem dX1_isKept_4 : decode cX1_isKept 4 = .ok (.ireturn, 1) := by decide +kernel
set_option maxHeartbeats 4000000 in
theorem c_Image_isKept_54 {ad wad : Nat → Nat}  (h : HS)  (q : Int32 × HS) (hd : f_Image_isKept_54  h = some q) : Ctr SHc ad wad yX1_isKept cX1_isKept 1 (some .boolean) 1 [.ref (ad 54)] h (some (.int q.1), q.2) := by
  refine enter (own := RX1) (lv := [(0, .ref (ad 54))]) (by decide +kernel) rfl (Nat.le_of_ble_eq_true rfl) rfl (fun Γ hG => ?_)
  unfold f_Image_isKept_54 at hd
  refine a_aload_n (pc := 0) hG 0 rfl dX1_isKept_0 rfl ?_
  refine a_getI (pc := 1) hG sc_54 cl_X1 ok_X1 3 (by decide) rfl t_423 dX1_isKept_1 ?_
  exact a_zret (pc := 4) hG hd dX1_isKept_4
set_option maxHeartbeats 4000000 in
theorem c_Plan_copyFrom_3_55 {ad wad : Nat → Nat}  (h : HS)  (q : Unit × HS) (hd : f_Plan_copyFrom_3_55  h = some q) : Ctr SHc ad wad yX5_copyFrom cX5_copyFrom 2 none 2 [.ref (ad 3), .ref (ad 55)] h (none, q.2) := by
  refine enter (own := RX5) (lv := [(0, .ref (ad 3)), (1, .ref (ad 55))]) (by decide +kernel) rfl (Nat.le_of_ble_eq_true rfl) rfl (fun Γ hG => ?_)
  unfold f_Plan_copyFrom_3_55 at hd
  refine a_aload_n (pc := 0) hG 0 rfl dX5_copyFrom_0 rfl ?_
  refine a_aload_n (pc := 1) hG 1 rfl dX5_copyFrom_1 rfl ?_
  refine a_getI (pc := 2) hG sc_55 cl_X5 ok_X5 0 (by decide) rfl t_197 dX5_copyFrom_2 ?_
  refine a_putI (pc := 5) hG sc_3 cl_X5 ok_X5 0 (by decide) rfl t_197 rfl (ty := .int) rfl rfl rfl hd dX5_copyFrom_5 (fun h1 hd => ?_)
  refine a_aload_n (pc := 8) hG 0 rfl dX5_copyFrom_8 rfl ?_
  refine a_aload_n (pc := 9) hG 1 rfl dX5_copyFrom_9 rfl ?_
  refine a_getI (pc := 10) hG sc_55 cl_X5 ok_X5 1 (by decide) rfl t_198 dX5_copyFrom_10 ?_
  refine a_putI (pc := 13) hG sc_3 cl_X5 ok_X5 1 (by decide) rfl t_198 rfl (ty := .int) rfl rfl rfl hd dX5_copyFrom_13 (fun h2 hd => ?_)
  refine a_aload_n (pc := 16) hG 0 rfl dX5_copyFrom_16 rfl ?_
  refine a_aload_n (pc := 17) hG 1 rfl dX5_copyFrom_17 rfl ?_
  refine a_getI (pc := 18) hG sc_55 cl_X5 ok_X5 2 (by decide) rfl t_199 dX5_copyFrom_18 ?_
  refine a_putI (pc := 21) hG sc_3 cl_X5 ok_X5 2 (by decide) rfl t_199 rfl (ty := .int) rfl rfl rfl hd dX5_copyFrom_21 (fun h3 hd => ?_)
  refine a_aload_n (pc := 24) hG 0 rfl dX5_copyFrom_24 rfl ?_
  refine a_aload_n (pc := 25) hG 1 rfl dX5_copyFrom_25 rfl ?_
  refine a_getI (pc := 26) hG sc_55 cl_X5 ok_X5 3 (by decide) rfl t_200 dX5_copyFrom_26 ?_
  refine a_putI (pc := 29) hG sc_3 cl_X5 ok_X5 3 (by decide) rfl t_200 rfl (ty := .int) rfl rfl rfl hd dX5_copyFrom_29 (fun h4 hd => ?_)
  refine a_aload_n (pc := 32) hG 0 rfl dX5_copyFrom_32 rfl ?_
  refine a_aload_n (pc := 33) hG 1 rfl dX5_copyFrom_33 rfl ?_
  refine a_getI (pc := 34) hG sc_55 cl_X5 ok_X5 4 (by decide) rfl t_201 dX5_copyFrom_34 ?_
  refine a_putI (pc := 37) hG sc_3 cl_X5 ok_X5 4 (by decide) rfl t_201 rfl (ty := .int) rfl rfl rfl hd dX5_copyFrom_37 (fun h5 hd => ?_)
  refine a_aload_n (pc := 40) hG 0 rfl dX5_copyFrom_40 rfl ?_
  refine a_aload_n (pc := 41) hG 1 rfl dX5_copyFrom_41 rfl ?_
  refine a_getI (pc := 42) hG sc_55 cl_X5 ok_X5 5 (by decide) rfl t_202 dX5_copyFrom_42 ?_
  refine a_putI (pc := 45) hG sc_3 cl_X5 ok_X5 5 (by decide) rfl t_202 rfl (ty := .int) rfl rfl rfl hd dX5_copyFrom_45 (fun h6 hd => ?_)
  refine a_aload_n (pc := 48) hG 1 rfl dX5_copyFrom_48 rfl ?_
  refine a_getR (pc := 49) hG sc_55 cl_X5 ok_X5 6 (by decide) rfl t_203 dX5_copyFrom_49 ?_
  refine a_iconst (pc := 52) hG dX5_copyFrom_52 (v := (nI 0)) rfl ?_
  refine a_aload_n (pc := 53) hG 0 rfl dX5_copyFrom_53 rfl ?_
  refine a_getR (pc := 54) hG sc_3 cl_X5 ok_X5 6 (by decide) rfl t_203 dX5_copyFrom_54 ?_
  refine a_iconst (pc := 57) hG dX5_copyFrom_57 (v := (nI 0)) rfl ?_
  refine a_bipush (pc := 58) hG dX5_copyFrom_58 (v := (nI 6)) rfl ?_
  refine a_cpL (pc := 60) hG 6 sc_56 sc_4 rfl (by decide) (by decide) (by decide) t_762 t_764 t_763 t_136 (by omega) (Nat.le_of_ble_eq_true rfl) hd dX5_copyFrom_60 (fun h7 hd => ?_)
  refine a_aload_n (pc := 63) hG 1 rfl dX5_copyFrom_63 rfl ?_
  refine a_getR (pc := 64) hG sc_55 cl_X5 ok_X5 7 (by decide) rfl t_204 dX5_copyFrom_64 ?_
  refine a_iconst (pc := 67) hG dX5_copyFrom_67 (v := (nI 0)) rfl ?_
  refine a_aload_n (pc := 68) hG 0 rfl dX5_copyFrom_68 rfl ?_
  refine a_getR (pc := 69) hG sc_3 cl_X5 ok_X5 7 (by decide) rfl t_204 dX5_copyFrom_69 ?_
  refine a_iconst (pc := 72) hG dX5_copyFrom_72 (v := (nI 0)) rfl ?_
  refine a_bipush (pc := 73) hG dX5_copyFrom_73 (v := (nI 6)) rfl ?_
  refine a_cpL (pc := 75) hG 6 sc_57 sc_5 rfl (by decide) (by decide) (by decide) t_762 t_764 t_763 t_136 (by omega) (Nat.le_of_ble_eq_true rfl) hd dX5_copyFrom_75 (fun h8 hd => ?_)
  refine a_aload_n (pc := 78) hG 1 rfl dX5_copyFrom_78 rfl ?_
  refine a_getR (pc := 79) hG sc_55 cl_X5 ok_X5 8 (by decide) rfl t_205 dX5_copyFrom_79 ?_
  refine a_iconst (pc := 82) hG dX5_copyFrom_82 (v := (nI 0)) rfl ?_
  refine a_aload_n (pc := 83) hG 0 rfl dX5_copyFrom_83 rfl ?_
  refine a_getR (pc := 84) hG sc_3 cl_X5 ok_X5 8 (by decide) rfl t_205 dX5_copyFrom_84 ?_
  refine a_iconst (pc := 87) hG dX5_copyFrom_87 (v := (nI 0)) rfl ?_
  refine a_iconst (pc := 88) hG dX5_copyFrom_88 (v := (nI 5)) rfl ?_
  refine a_cpL (pc := 89) hG 5 sc_58 sc_6 rfl (by decide) (by decide) (by decide) t_762 t_764 t_763 t_136 (by omega) (Nat.le_of_ble_eq_true rfl) hd dX5_copyFrom_89 (fun h9 hd => ?_)
  refine a_aload_n (pc := 92) hG 1 rfl dX5_copyFrom_92 rfl ?_
  refine a_getR (pc := 93) hG sc_55 cl_X5 ok_X5 9 (by decide) rfl t_206 dX5_copyFrom_93 ?_
  refine a_iconst (pc := 96) hG dX5_copyFrom_96 (v := (nI 0)) rfl ?_
  refine a_aload_n (pc := 97) hG 0 rfl dX5_copyFrom_97 rfl ?_
  refine a_getR (pc := 98) hG sc_3 cl_X5 ok_X5 9 (by decide) rfl t_206 dX5_copyFrom_98 ?_
  refine a_iconst (pc := 101) hG dX5_copyFrom_101 (v := (nI 0)) rfl ?_
  refine a_aload_n (pc := 102) hG 0 rfl dX5_copyFrom_102 rfl ?_
  refine a_getR (pc := 103) hG sc_3 cl_X5 ok_X5 9 (by decide) rfl t_206 dX5_copyFrom_103 ?_
  refine a_alenI (pc := 106) hG sc_7 (fun _ => rfl) (v := nI 24) rfl dX5_copyFrom_106 ?_
  refine a_cpI (pc := 107) hG 24 sc_59 sc_7 rfl (by decide) (by decide) (by decide) t_762 t_764 t_763 t_136 (by omega) (Nat.le_of_ble_eq_true rfl) hd dX5_copyFrom_107 (fun h10 hd => ?_)
  refine a_aload_n (pc := 110) hG 1 rfl dX5_copyFrom_110 rfl ?_
  refine a_getR (pc := 111) hG sc_55 cl_X5 ok_X5 10 (by decide) rfl t_207 dX5_copyFrom_111 ?_
  refine a_iconst (pc := 114) hG dX5_copyFrom_114 (v := (nI 0)) rfl ?_
  refine a_aload_n (pc := 115) hG 0 rfl dX5_copyFrom_115 rfl ?_
  refine a_getR (pc := 116) hG sc_3 cl_X5 ok_X5 10 (by decide) rfl t_207 dX5_copyFrom_116 ?_
  refine a_iconst (pc := 119) hG dX5_copyFrom_119 (v := (nI 0)) rfl ?_
  refine a_aload_n (pc := 120) hG 0 rfl dX5_copyFrom_120 rfl ?_
  refine a_getR (pc := 121) hG sc_3 cl_X5 ok_X5 10 (by decide) rfl t_207 dX5_copyFrom_121 ?_
  refine a_alenI (pc := 124) hG sc_8 (fun _ => rfl) (v := nI 12) rfl dX5_copyFrom_124 ?_
  refine a_cpI (pc := 125) hG 12 sc_60 sc_8 rfl (by decide) (by decide) (by decide) t_762 t_764 t_763 t_136 (by omega) (Nat.le_of_ble_eq_true rfl) hd dX5_copyFrom_125 (fun h11 hd => ?_)
  refine a_aload_n (pc := 128) hG 1 rfl dX5_copyFrom_128 rfl ?_
  refine a_getR (pc := 129) hG sc_55 cl_X5 ok_X5 11 (by decide) rfl t_208 dX5_copyFrom_129 ?_
  refine a_iconst (pc := 132) hG dX5_copyFrom_132 (v := (nI 0)) rfl ?_
  refine a_aload_n (pc := 133) hG 0 rfl dX5_copyFrom_133 rfl ?_
  refine a_getR (pc := 134) hG sc_3 cl_X5 ok_X5 11 (by decide) rfl t_208 dX5_copyFrom_134 ?_
  refine a_iconst (pc := 137) hG dX5_copyFrom_137 (v := (nI 0)) rfl ?_
  refine a_aload_n (pc := 138) hG 0 rfl dX5_copyFrom_138 rfl ?_
  refine a_getR (pc := 139) hG sc_3 cl_X5 ok_X5 11 (by decide) rfl t_208 dX5_copyFrom_139 ?_
  refine a_alenI (pc := 142) hG sc_9 (fun _ => rfl) (v := nI 18) rfl dX5_copyFrom_142 ?_
  refine a_cpI (pc := 143) hG 18 sc_61 sc_9 rfl (by decide) (by decide) (by decide) t_762 t_764 t_763 t_136 (by omega) (Nat.le_of_ble_eq_true rfl) hd dX5_copyFrom_143 (fun h12 hd => ?_)
  refine a_aload_n (pc := 146) hG 1 rfl dX5_copyFrom_146 rfl ?_
  refine a_getR (pc := 147) hG sc_55 cl_X5 ok_X5 12 (by decide) rfl t_209 dX5_copyFrom_147 ?_
  refine a_iconst (pc := 150) hG dX5_copyFrom_150 (v := (nI 0)) rfl ?_
  refine a_aload_n (pc := 151) hG 0 rfl dX5_copyFrom_151 rfl ?_
  refine a_getR (pc := 152) hG sc_3 cl_X5 ok_X5 12 (by decide) rfl t_209 dX5_copyFrom_152 ?_
  refine a_iconst (pc := 155) hG dX5_copyFrom_155 (v := (nI 0)) rfl ?_
  refine a_iconst (pc := 156) hG dX5_copyFrom_156 (v := (nI 5)) rfl ?_
  refine a_cpI (pc := 157) hG 5 sc_62 sc_10 rfl (by decide) (by decide) (by decide) t_762 t_764 t_763 t_136 (by omega) (Nat.le_of_ble_eq_true rfl) hd dX5_copyFrom_157 (fun h13 hd => ?_)
  exact a_vret (pc := 160) hG hd dX5_copyFrom_160
set_option maxHeartbeats 4000000 in
theorem c_Sent_copyFrom_42_64 {ad wad : Nat → Nat}  (h : HS)  (q : Unit × HS) (hd : f_Sent_copyFrom_42_64  h = some q) : Ctr SHc ad wad yX7_copyFrom cX7_copyFrom 2 none 2 [.ref (ad 42), .ref (ad 64)] h (none, q.2) := by
  refine enter (own := RX7) (lv := [(0, .ref (ad 42)), (1, .ref (ad 64))]) (by decide +kernel) rfl (Nat.le_of_ble_eq_true rfl) rfl (fun Γ hG => ?_)
  unfold f_Sent_copyFrom_42_64 at hd
  refine a_aload_n (pc := 0) hG 0 rfl dX7_copyFrom_0 rfl ?_
  refine a_aload_n (pc := 1) hG 1 rfl dX7_copyFrom_1 rfl ?_
  refine a_getI (pc := 2) hG sc_64 cl_X7 ok_X7 3 (by decide) rfl t_369 dX7_copyFrom_2 ?_
  refine a_putI (pc := 5) hG sc_42 cl_X7 ok_X7 3 (by decide) rfl t_369 rfl (ty := .int) rfl rfl rfl hd dX7_copyFrom_5 (fun h1 hd => ?_)
  refine a_aload_n (pc := 8) hG 1 rfl dX7_copyFrom_8 rfl ?_
  refine a_getR (pc := 9) hG sc_64 cl_X7 ok_X7 0 (by decide) rfl t_366 dX7_copyFrom_9 ?_
  refine a_iconst (pc := 12) hG dX7_copyFrom_12 (v := (nI 0)) rfl ?_
  refine a_aload_n (pc := 13) hG 0 rfl dX7_copyFrom_13 rfl ?_
  refine a_getR (pc := 14) hG sc_42 cl_X7 ok_X7 0 (by decide) rfl t_366 dX7_copyFrom_14 ?_
  refine a_iconst (pc := 17) hG dX7_copyFrom_17 (v := (nI 0)) rfl ?_
  refine a_bipush (pc := 18) hG dX7_copyFrom_18 (v := (nI 40)) rfl ?_
  refine a_cpI (pc := 20) hG 40 sc_65 sc_43 rfl (by decide) (by decide) (by decide) t_1383 t_764 t_763 t_136 (by omega) (Nat.le_of_ble_eq_true rfl) hd dX7_copyFrom_20 (fun h2 hd => ?_)
  refine a_aload_n (pc := 23) hG 1 rfl dX7_copyFrom_23 rfl ?_
  refine a_getR (pc := 24) hG sc_64 cl_X7 ok_X7 1 (by decide) rfl t_367 dX7_copyFrom_24 ?_
  refine a_iconst (pc := 27) hG dX7_copyFrom_27 (v := (nI 0)) rfl ?_
  refine a_aload_n (pc := 28) hG 0 rfl dX7_copyFrom_28 rfl ?_
  refine a_getR (pc := 29) hG sc_42 cl_X7 ok_X7 1 (by decide) rfl t_367 dX7_copyFrom_29 ?_
  refine a_iconst (pc := 32) hG dX7_copyFrom_32 (v := (nI 0)) rfl ?_
  refine a_bipush (pc := 33) hG dX7_copyFrom_33 (v := (nI 40)) rfl ?_
  refine a_cpI (pc := 35) hG 40 sc_66 sc_44 rfl (by decide) (by decide) (by decide) t_1383 t_764 t_763 t_136 (by omega) (Nat.le_of_ble_eq_true rfl) hd dX7_copyFrom_35 (fun h3 hd => ?_)
  refine a_aload_n (pc := 38) hG 1 rfl dX7_copyFrom_38 rfl ?_
  refine a_getR (pc := 39) hG sc_64 cl_X7 ok_X7 2 (by decide) rfl t_368 dX7_copyFrom_39 ?_
  refine a_iconst (pc := 42) hG dX7_copyFrom_42 (v := (nI 0)) rfl ?_
  refine a_aload_n (pc := 43) hG 0 rfl dX7_copyFrom_43 rfl ?_
  refine a_getR (pc := 44) hG sc_42 cl_X7 ok_X7 2 (by decide) rfl t_368 dX7_copyFrom_44 ?_
  refine a_iconst (pc := 47) hG dX7_copyFrom_47 (v := (nI 0)) rfl ?_
  refine a_bipush (pc := 48) hG dX7_copyFrom_48 (v := (nI 40)) rfl ?_
  refine a_cpI (pc := 50) hG 40 sc_67 sc_45 rfl (by decide) (by decide) (by decide) t_1383 t_764 t_763 t_136 (by omega) (Nat.le_of_ble_eq_true rfl) hd dX7_copyFrom_50 (fun h4 hd => ?_)
  exact a_vret (pc := 53) hG hd dX7_copyFrom_53
theorem dX1_giveBack_0 : decode cX1_giveBack 0 = .ok (.aload_n 1, 1) := by decide +kernel
theorem dX1_giveBack_1 : decode cX1_giveBack 1 = .ok (.aload_n 0, 1) := by decide +kernel
theorem dX1_giveBack_2 : decode cX1_giveBack 2 = .ok (.getfield 12, 3) := by decide +kernel
theorem dX1_giveBack_5 : decode cX1_giveBack 5 = .ok (.invokevirtual 33, 3) := by decide +kernel
theorem dX1_giveBack_8 : decode cX1_giveBack 8 = .ok (.aload_n 2, 1) := by decide +kernel
theorem dX1_giveBack_9 : decode cX1_giveBack 9 = .ok (.aload_n 0, 1) := by decide +kernel
theorem dX1_giveBack_10 : decode cX1_giveBack 10 = .ok (.getfield 18, 3) := by decide +kernel
theorem dX1_giveBack_13 : decode cX1_giveBack 13 = .ok (.invokevirtual 46, 3) := by decide +kernel
theorem dX1_giveBack_16 : decode cX1_giveBack 16 = .ok (.aload_n 3, 1) := by decide +kernel
theorem dX1_giveBack_17 : decode cX1_giveBack 17 = .ok (.aload_n 0, 1) := by decide +kernel
theorem dX1_giveBack_18 : decode cX1_giveBack 18 = .ok (.getfield 25, 3) := by decide +kernel
theorem dX1_giveBack_21 : decode cX1_giveBack 21 = .ok (.invokevirtual 43, 3) := by decide +kernel
theorem dX1_giveBack_24 : decode cX1_giveBack 24 = .ok (.return_, 1) := by decide +kernel
set_option maxHeartbeats 4000000 in
theorem c_Image_giveBack_54_42 {ad wad : Nat → Nat}  (h : HS)  (q : Unit × HS) (hd : f_Image_giveBack_54_42  h = some q) : Ctr SHc ad wad yX1_giveBack cX1_giveBack 4 none 3 [.ref (ad 54), .ref (ad 3), .ref (ad 20), .ref (ad 42)] h (none, q.2) := by
  refine enter (own := RX1) (lv := [(0, .ref (ad 54)), (1, .ref (ad 3)), (2, .ref (ad 20)), (3, .ref (ad 42))]) (by decide +kernel) rfl (Nat.le_of_ble_eq_true rfl) rfl (fun Γ hG => ?_)
  unfold f_Image_giveBack_54_42 at hd
  refine a_aload_n (pc := 0) hG 1 rfl dX1_giveBack_0 rfl ?_
  refine a_aload_n (pc := 1) hG 0 rfl dX1_giveBack_1 rfl ?_
  refine a_getR (pc := 2) hG sc_54 cl_X1 ok_X1 0 (by decide) rfl t_420 dX1_giveBack_2 ?_
  refine a_cvN (pc := 5) hG (As := [.ref (ad 55)]) (st := []) sc_3 cl_X5 mk_X5_copyFrom t_1418 (by omega) (fun z hz => c_Plan_copyFrom_3_55  _  z hz) rfl (Nat.le_of_ble_eq_true rfl) hd dX1_giveBack_5 (fun _ h1 hd => ?_)
  refine a_aload_n (pc := 8) hG 2 rfl dX1_giveBack_8 rfl ?_
  refine a_aload_n (pc := 9) hG 0 rfl dX1_giveBack_9 rfl ?_
  refine a_getR (pc := 10) hG sc_54 cl_X1 ok_X1 1 (by decide) rfl t_421 dX1_giveBack_10 ?_
  refine a_cvN (pc := 13) hG (As := [.ref (ad 63)]) (st := []) sc_20 cl_X0 mk_X0_loadFrom t_1433 (by omega) (fun z hz => c_Desk_loadFrom 63 _ sc_63 z hz) rfl (Nat.le_of_ble_eq_true rfl) hd dX1_giveBack_13 (fun _ h2 hd => ?_)
  refine a_aload_n (pc := 16) hG 3 rfl dX1_giveBack_16 rfl ?_
  refine a_aload_n (pc := 17) hG 0 rfl dX1_giveBack_17 rfl ?_
  refine a_getR (pc := 18) hG sc_54 cl_X1 ok_X1 2 (by decide) rfl t_422 dX1_giveBack_18 ?_
  refine a_cvN (pc := 21) hG (As := [.ref (ad 64)]) (st := []) sc_42 cl_X7 mk_X7_copyFrom t_1420 (by omega) (fun z hz => c_Sent_copyFrom_42_64  _  z hz) rfl (Nat.le_of_ble_eq_true rfl) hd dX1_giveBack_21 (fun _ h3 hd => ?_)
  exact a_vret (pc := 24) hG hd dX1_giveBack_24
set_option maxHeartbeats 4000000 in
theorem c_Plan_copyFrom_3_69 {ad wad : Nat → Nat}  (h : HS)  (q : Unit × HS) (hd : f_Plan_copyFrom_3_69  h = some q) : Ctr SHc ad wad yX5_copyFrom cX5_copyFrom 2 none 2 [.ref (ad 3), .ref (ad 69)] h (none, q.2) := by
  refine enter (own := RX5) (lv := [(0, .ref (ad 3)), (1, .ref (ad 69))]) (by decide +kernel) rfl (Nat.le_of_ble_eq_true rfl) rfl (fun Γ hG => ?_)
  unfold f_Plan_copyFrom_3_69 at hd
  refine a_aload_n (pc := 0) hG 0 rfl dX5_copyFrom_0 rfl ?_
  refine a_aload_n (pc := 1) hG 1 rfl dX5_copyFrom_1 rfl ?_
  refine a_getI (pc := 2) hG sc_69 cl_X5 ok_X5 0 (by decide) rfl t_197 dX5_copyFrom_2 ?_
  refine a_putI (pc := 5) hG sc_3 cl_X5 ok_X5 0 (by decide) rfl t_197 rfl (ty := .int) rfl rfl rfl hd dX5_copyFrom_5 (fun h1 hd => ?_)
  refine a_aload_n (pc := 8) hG 0 rfl dX5_copyFrom_8 rfl ?_
  refine a_aload_n (pc := 9) hG 1 rfl dX5_copyFrom_9 rfl ?_
  refine a_getI (pc := 10) hG sc_69 cl_X5 ok_X5 1 (by decide) rfl t_198 dX5_copyFrom_10 ?_
  refine a_putI (pc := 13) hG sc_3 cl_X5 ok_X5 1 (by decide) rfl t_198 rfl (ty := .int) rfl rfl rfl hd dX5_copyFrom_13 (fun h2 hd => ?_)
  refine a_aload_n (pc := 16) hG 0 rfl dX5_copyFrom_16 rfl ?_
  refine a_aload_n (pc := 17) hG 1 rfl dX5_copyFrom_17 rfl ?_
  refine a_getI (pc := 18) hG sc_69 cl_X5 ok_X5 2 (by decide) rfl t_199 dX5_copyFrom_18 ?_
  refine a_putI (pc := 21) hG sc_3 cl_X5 ok_X5 2 (by decide) rfl t_199 rfl (ty := .int) rfl rfl rfl hd dX5_copyFrom_21 (fun h3 hd => ?_)
  refine a_aload_n (pc := 24) hG 0 rfl dX5_copyFrom_24 rfl ?_
  refine a_aload_n (pc := 25) hG 1 rfl dX5_copyFrom_25 rfl ?_
  refine a_getI (pc := 26) hG sc_69 cl_X5 ok_X5 3 (by decide) rfl t_200 dX5_copyFrom_26 ?_
  refine a_putI (pc := 29) hG sc_3 cl_X5 ok_X5 3 (by decide) rfl t_200 rfl (ty := .int) rfl rfl rfl hd dX5_copyFrom_29 (fun h4 hd => ?_)
  refine a_aload_n (pc := 32) hG 0 rfl dX5_copyFrom_32 rfl ?_
  refine a_aload_n (pc := 33) hG 1 rfl dX5_copyFrom_33 rfl ?_
  refine a_getI (pc := 34) hG sc_69 cl_X5 ok_X5 4 (by decide) rfl t_201 dX5_copyFrom_34 ?_
  refine a_putI (pc := 37) hG sc_3 cl_X5 ok_X5 4 (by decide) rfl t_201 rfl (ty := .int) rfl rfl rfl hd dX5_copyFrom_37 (fun h5 hd => ?_)
  refine a_aload_n (pc := 40) hG 0 rfl dX5_copyFrom_40 rfl ?_
  refine a_aload_n (pc := 41) hG 1 rfl dX5_copyFrom_41 rfl ?_
  refine a_getI (pc := 42) hG sc_69 cl_X5 ok_X5 5 (by decide) rfl t_202 dX5_copyFrom_42 ?_
  refine a_putI (pc := 45) hG sc_3 cl_X5 ok_X5 5 (by decide) rfl t_202 rfl (ty := .int) rfl rfl rfl hd dX5_copyFrom_45 (fun h6 hd => ?_)
  refine a_aload_n (pc := 48) hG 1 rfl dX5_copyFrom_48 rfl ?_
  refine a_getR (pc := 49) hG sc_69 cl_X5 ok_X5 6 (by decide) rfl t_203 dX5_copyFrom_49 ?_
  refine a_iconst (pc := 52) hG dX5_copyFrom_52 (v := (nI 0)) rfl ?_
  refine a_aload_n (pc := 53) hG 0 rfl dX5_copyFrom_53 rfl ?_
  refine a_getR (pc := 54) hG sc_3 cl_X5 ok_X5 6 (by decide) rfl t_203 dX5_copyFrom_54 ?_
  refine a_iconst (pc := 57) hG dX5_copyFrom_57 (v := (nI 0)) rfl ?_
  refine a_bipush (pc := 58) hG dX5_copyFrom_58 (v := (nI 6)) rfl ?_
  refine a_cpL (pc := 60) hG 6 sc_70 sc_4 rfl (by decide) (by decide) (by decide) t_762 t_764 t_763 t_136 (by omega) (Nat.le_of_ble_eq_true rfl) hd dX5_copyFrom_60 (fun h7 hd => ?_)
  refine a_aload_n (pc := 63) hG 1 rfl dX5_copyFrom_63 rfl ?_
  refine a_getR (pc := 64) hG sc_69 cl_X5 ok_X5 7 (by decide) rfl t_204 dX5_copyFrom_64 ?_
  refine a_iconst (pc := 67) hG dX5_copyFrom_67 (v := (nI 0)) rfl ?_
  refine a_aload_n (pc := 68) hG 0 rfl dX5_copyFrom_68 rfl ?_
  refine a_getR (pc := 69) hG sc_3 cl_X5 ok_X5 7 (by decide) rfl t_204 dX5_copyFrom_69 ?_
  refine a_iconst (pc := 72) hG dX5_copyFrom_72 (v := (nI 0)) rfl ?_
  refine a_bipush (pc := 73) hG dX5_copyFrom_73 (v := (nI 6)) rfl ?_
  refine a_cpL (pc := 75) hG 6 sc_71 sc_5 rfl (by decide) (by decide) (by decide) t_762 t_764 t_763 t_136 (by omega) (Nat.le_of_ble_eq_true rfl) hd dX5_copyFrom_75 (fun h8 hd => ?_)
  refine a_aload_n (pc := 78) hG 1 rfl dX5_copyFrom_78 rfl ?_
  refine a_getR (pc := 79) hG sc_69 cl_X5 ok_X5 8 (by decide) rfl t_205 dX5_copyFrom_79 ?_
  refine a_iconst (pc := 82) hG dX5_copyFrom_82 (v := (nI 0)) rfl ?_
  refine a_aload_n (pc := 83) hG 0 rfl dX5_copyFrom_83 rfl ?_
  refine a_getR (pc := 84) hG sc_3 cl_X5 ok_X5 8 (by decide) rfl t_205 dX5_copyFrom_84 ?_
  refine a_iconst (pc := 87) hG dX5_copyFrom_87 (v := (nI 0)) rfl ?_
  refine a_iconst (pc := 88) hG dX5_copyFrom_88 (v := (nI 5)) rfl ?_
  refine a_cpL (pc := 89) hG 5 sc_72 sc_6 rfl (by decide) (by decide) (by decide) t_762 t_764 t_763 t_136 (by omega) (Nat.le_of_ble_eq_true rfl) hd dX5_copyFrom_89 (fun h9 hd => ?_)
  refine a_aload_n (pc := 92) hG 1 rfl dX5_copyFrom_92 rfl ?_
  refine a_getR (pc := 93) hG sc_69 cl_X5 ok_X5 9 (by decide) rfl t_206 dX5_copyFrom_93 ?_
  refine a_iconst (pc := 96) hG dX5_copyFrom_96 (v := (nI 0)) rfl ?_
  refine a_aload_n (pc := 97) hG 0 rfl dX5_copyFrom_97 rfl ?_
  refine a_getR (pc := 98) hG sc_3 cl_X5 ok_X5 9 (by decide) rfl t_206 dX5_copyFrom_98 ?_
  refine a_iconst (pc := 101) hG dX5_copyFrom_101 (v := (nI 0)) rfl ?_
  refine a_aload_n (pc := 102) hG 0 rfl dX5_copyFrom_102 rfl ?_
  refine a_getR (pc := 103) hG sc_3 cl_X5 ok_X5 9 (by decide) rfl t_206 dX5_copyFrom_103 ?_
  refine a_alenI (pc := 106) hG sc_7 (fun _ => rfl) (v := nI 24) rfl dX5_copyFrom_106 ?_
  refine a_cpI (pc := 107) hG 24 sc_73 sc_7 rfl (by decide) (by decide) (by decide) t_762 t_764 t_763 t_136 (by omega) (Nat.le_of_ble_eq_true rfl) hd dX5_copyFrom_107 (fun h10 hd => ?_)
  refine a_aload_n (pc := 110) hG 1 rfl dX5_copyFrom_110 rfl ?_
  refine a_getR (pc := 111) hG sc_69 cl_X5 ok_X5 10 (by decide) rfl t_207 dX5_copyFrom_111 ?_
  refine a_iconst (pc := 114) hG dX5_copyFrom_114 (v := (nI 0)) rfl ?_
  refine a_aload_n (pc := 115) hG 0 rfl dX5_copyFrom_115 rfl ?_
  refine a_getR (pc := 116) hG sc_3 cl_X5 ok_X5 10 (by decide) rfl t_207 dX5_copyFrom_116 ?_
  refine a_iconst (pc := 119) hG dX5_copyFrom_119 (v := (nI 0)) rfl ?_
  refine a_aload_n (pc := 120) hG 0 rfl dX5_copyFrom_120 rfl ?_
  refine a_getR (pc := 121) hG sc_3 cl_X5 ok_X5 10 (by decide) rfl t_207 dX5_copyFrom_121 ?_
  refine a_alenI (pc := 124) hG sc_8 (fun _ => rfl) (v := nI 12) rfl dX5_copyFrom_124 ?_
  refine a_cpI (pc := 125) hG 12 sc_74 sc_8 rfl (by decide) (by decide) (by decide) t_762 t_764 t_763 t_136 (by omega) (Nat.le_of_ble_eq_true rfl) hd dX5_copyFrom_125 (fun h11 hd => ?_)
  refine a_aload_n (pc := 128) hG 1 rfl dX5_copyFrom_128 rfl ?_
  refine a_getR (pc := 129) hG sc_69 cl_X5 ok_X5 11 (by decide) rfl t_208 dX5_copyFrom_129 ?_
  refine a_iconst (pc := 132) hG dX5_copyFrom_132 (v := (nI 0)) rfl ?_
  refine a_aload_n (pc := 133) hG 0 rfl dX5_copyFrom_133 rfl ?_
  refine a_getR (pc := 134) hG sc_3 cl_X5 ok_X5 11 (by decide) rfl t_208 dX5_copyFrom_134 ?_
  refine a_iconst (pc := 137) hG dX5_copyFrom_137 (v := (nI 0)) rfl ?_
  refine a_aload_n (pc := 138) hG 0 rfl dX5_copyFrom_138 rfl ?_
  refine a_getR (pc := 139) hG sc_3 cl_X5 ok_X5 11 (by decide) rfl t_208 dX5_copyFrom_139 ?_
  refine a_alenI (pc := 142) hG sc_9 (fun _ => rfl) (v := nI 18) rfl dX5_copyFrom_142 ?_
  refine a_cpI (pc := 143) hG 18 sc_75 sc_9 rfl (by decide) (by decide) (by decide) t_762 t_764 t_763 t_136 (by omega) (Nat.le_of_ble_eq_true rfl) hd dX5_copyFrom_143 (fun h12 hd => ?_)
  refine a_aload_n (pc := 146) hG 1 rfl dX5_copyFrom_146 rfl ?_
  refine a_getR (pc := 147) hG sc_69 cl_X5 ok_X5 12 (by decide) rfl t_209 dX5_copyFrom_147 ?_
  refine a_iconst (pc := 150) hG dX5_copyFrom_150 (v := (nI 0)) rfl ?_
  refine a_aload_n (pc := 151) hG 0 rfl dX5_copyFrom_151 rfl ?_
  refine a_getR (pc := 152) hG sc_3 cl_X5 ok_X5 12 (by decide) rfl t_209 dX5_copyFrom_152 ?_
  refine a_iconst (pc := 155) hG dX5_copyFrom_155 (v := (nI 0)) rfl ?_
  refine a_iconst (pc := 156) hG dX5_copyFrom_156 (v := (nI 5)) rfl ?_
  refine a_cpI (pc := 157) hG 5 sc_76 sc_10 rfl (by decide) (by decide) (by decide) t_762 t_764 t_763 t_136 (by omega) (Nat.le_of_ble_eq_true rfl) hd dX5_copyFrom_157 (fun h13 hd => ?_)
  exact a_vret (pc := 160) hG hd dX5_copyFrom_160
set_option maxHeartbeats 4000000 in
theorem c_Sent_copyFrom_42_78 {ad wad : Nat → Nat}  (h : HS)  (q : Unit × HS) (hd : f_Sent_copyFrom_42_78  h = some q) : Ctr SHc ad wad yX7_copyFrom cX7_copyFrom 2 none 2 [.ref (ad 42), .ref (ad 78)] h (none, q.2) := by
  refine enter (own := RX7) (lv := [(0, .ref (ad 42)), (1, .ref (ad 78))]) (by decide +kernel) rfl (Nat.le_of_ble_eq_true rfl) rfl (fun Γ hG => ?_)
  unfold f_Sent_copyFrom_42_78 at hd
  refine a_aload_n (pc := 0) hG 0 rfl dX7_copyFrom_0 rfl ?_
  refine a_aload_n (pc := 1) hG 1 rfl dX7_copyFrom_1 rfl ?_
  refine a_getI (pc := 2) hG sc_78 cl_X7 ok_X7 3 (by decide) rfl t_369 dX7_copyFrom_2 ?_
  refine a_putI (pc := 5) hG sc_42 cl_X7 ok_X7 3 (by decide) rfl t_369 rfl (ty := .int) rfl rfl rfl hd dX7_copyFrom_5 (fun h1 hd => ?_)
  refine a_aload_n (pc := 8) hG 1 rfl dX7_copyFrom_8 rfl ?_
  refine a_getR (pc := 9) hG sc_78 cl_X7 ok_X7 0 (by decide) rfl t_366 dX7_copyFrom_9 ?_
  refine a_iconst (pc := 12) hG dX7_copyFrom_12 (v := (nI 0)) rfl ?_
  refine a_aload_n (pc := 13) hG 0 rfl dX7_copyFrom_13 rfl ?_
  refine a_getR (pc := 14) hG sc_42 cl_X7 ok_X7 0 (by decide) rfl t_366 dX7_copyFrom_14 ?_
  refine a_iconst (pc := 17) hG dX7_copyFrom_17 (v := (nI 0)) rfl ?_
  refine a_bipush (pc := 18) hG dX7_copyFrom_18 (v := (nI 40)) rfl ?_
  refine a_cpI (pc := 20) hG 40 sc_79 sc_43 rfl (by decide) (by decide) (by decide) t_1383 t_764 t_763 t_136 (by omega) (Nat.le_of_ble_eq_true rfl) hd dX7_copyFrom_20 (fun h2 hd => ?_)
  refine a_aload_n (pc := 23) hG 1 rfl dX7_copyFrom_23 rfl ?_
  refine a_getR (pc := 24) hG sc_78 cl_X7 ok_X7 1 (by decide) rfl t_367 dX7_copyFrom_24 ?_
  refine a_iconst (pc := 27) hG dX7_copyFrom_27 (v := (nI 0)) rfl ?_
  refine a_aload_n (pc := 28) hG 0 rfl dX7_copyFrom_28 rfl ?_
  refine a_getR (pc := 29) hG sc_42 cl_X7 ok_X7 1 (by decide) rfl t_367 dX7_copyFrom_29 ?_
  refine a_iconst (pc := 32) hG dX7_copyFrom_32 (v := (nI 0)) rfl ?_
  refine a_bipush (pc := 33) hG dX7_copyFrom_33 (v := (nI 40)) rfl ?_
  refine a_cpI (pc := 35) hG 40 sc_80 sc_44 rfl (by decide) (by decide) (by decide) t_1383 t_764 t_763 t_136 (by omega) (Nat.le_of_ble_eq_true rfl) hd dX7_copyFrom_35 (fun h3 hd => ?_)
  refine a_aload_n (pc := 38) hG 1 rfl dX7_copyFrom_38 rfl ?_
  refine a_getR (pc := 39) hG sc_78 cl_X7 ok_X7 2 (by decide) rfl t_368 dX7_copyFrom_39 ?_
  refine a_iconst (pc := 42) hG dX7_copyFrom_42 (v := (nI 0)) rfl ?_
  refine a_aload_n (pc := 43) hG 0 rfl dX7_copyFrom_43 rfl ?_
  refine a_getR (pc := 44) hG sc_42 cl_X7 ok_X7 2 (by decide) rfl t_368 dX7_copyFrom_44 ?_
  refine a_iconst (pc := 47) hG dX7_copyFrom_47 (v := (nI 0)) rfl ?_
  refine a_bipush (pc := 48) hG dX7_copyFrom_48 (v := (nI 40)) rfl ?_
  refine a_cpI (pc := 50) hG 40 sc_81 sc_45 rfl (by decide) (by decide) (by decide) t_1383 t_764 t_763 t_136 (by omega) (Nat.le_of_ble_eq_true rfl) hd dX7_copyFrom_50 (fun h4 hd => ?_)
  exact a_vret (pc := 53) hG hd dX7_copyFrom_53
set_option maxHeartbeats 4000000 in
theorem c_Image_giveBack_68_42 {ad wad : Nat → Nat}  (h : HS)  (q : Unit × HS) (hd : f_Image_giveBack_68_42  h = some q) : Ctr SHc ad wad yX1_giveBack cX1_giveBack 4 none 3 [.ref (ad 68), .ref (ad 3), .ref (ad 20), .ref (ad 42)] h (none, q.2) := by
  refine enter (own := RX1) (lv := [(0, .ref (ad 68)), (1, .ref (ad 3)), (2, .ref (ad 20)), (3, .ref (ad 42))]) (by decide +kernel) rfl (Nat.le_of_ble_eq_true rfl) rfl (fun Γ hG => ?_)
  unfold f_Image_giveBack_68_42 at hd
  refine a_aload_n (pc := 0) hG 1 rfl dX1_giveBack_0 rfl ?_
  refine a_aload_n (pc := 1) hG 0 rfl dX1_giveBack_1 rfl ?_
  refine a_getR (pc := 2) hG sc_68 cl_X1 ok_X1 0 (by decide) rfl t_420 dX1_giveBack_2 ?_
  refine a_cvN (pc := 5) hG (As := [.ref (ad 69)]) (st := []) sc_3 cl_X5 mk_X5_copyFrom t_1418 (by omega) (fun z hz => c_Plan_copyFrom_3_69  _  z hz) rfl (Nat.le_of_ble_eq_true rfl) hd dX1_giveBack_5 (fun _ h1 hd => ?_)
  refine a_aload_n (pc := 8) hG 2 rfl dX1_giveBack_8 rfl ?_
  refine a_aload_n (pc := 9) hG 0 rfl dX1_giveBack_9 rfl ?_
  refine a_getR (pc := 10) hG sc_68 cl_X1 ok_X1 1 (by decide) rfl t_421 dX1_giveBack_10 ?_
  refine a_cvN (pc := 13) hG (As := [.ref (ad 77)]) (st := []) sc_20 cl_X0 mk_X0_loadFrom t_1433 (by omega) (fun z hz => c_Desk_loadFrom 77 _ sc_77 z hz) rfl (Nat.le_of_ble_eq_true rfl) hd dX1_giveBack_13 (fun _ h2 hd => ?_)
  refine a_aload_n (pc := 16) hG 3 rfl dX1_giveBack_16 rfl ?_
  refine a_aload_n (pc := 17) hG 0 rfl dX1_giveBack_17 rfl ?_
  refine a_getR (pc := 18) hG sc_68 cl_X1 ok_X1 2 (by decide) rfl t_422 dX1_giveBack_18 ?_
  refine a_cvN (pc := 21) hG (As := [.ref (ad 78)]) (st := []) sc_42 cl_X7 mk_X7_copyFrom t_1420 (by omega) (fun z hz => c_Sent_copyFrom_42_78  _  z hz) rfl (Nat.le_of_ble_eq_true rfl) hd dX1_giveBack_21 (fun _ h3 hd => ?_)
  exact a_vret (pc := 24) hG hd dX1_giveBack_24
set_option maxHeartbeats 4000000 in
theorem c_Image_isKept_68 {ad wad : Nat → Nat}  (h : HS)  (q : Int32 × HS) (hd : f_Image_isKept_68  h = some q) : Ctr SHc ad wad yX1_isKept cX1_isKept 1 (some .boolean) 1 [.ref (ad 68)] h (some (.int q.1), q.2) := by
  refine enter (own := RX1) (lv := [(0, .ref (ad 68))]) (by decide +kernel) rfl (Nat.le_of_ble_eq_true rfl) rfl (fun Γ hG => ?_)
  unfold f_Image_isKept_68 at hd
  refine a_aload_n (pc := 0) hG 0 rfl dX1_isKept_0 rfl ?_
  refine a_getI (pc := 1) hG sc_68 cl_X1 ok_X1 3 (by decide) rfl t_423 dX1_isKept_1 ?_
  exact a_zret (pc := 4) hG hd dX1_isKept_4
theorem dX11_restore_0 : decode cX11_restore 0 = .ok (.iload_n 1, 1) := by decide +kernel
theorem dX11_restore_1 : decode cX11_restore 1 = .ok (.ifCond .eq 8, 3) := by decide +kernel
theorem dX11_restore_4 : decode cX11_restore 4 = .ok (.iload_n 1, 1) := by decide +kernel
theorem dX11_restore_5 : decode cX11_restore 5 = .ok (.iconst 1, 1) := by decide +kernel
theorem dX11_restore_6 : decode cX11_restore 6 = .ok (.if_icmp .ne 14, 3) := by decide +kernel
theorem dX11_restore_9 : decode cX11_restore 9 = .ok (.aload_n 0, 1) := by decide +kernel
theorem dX11_restore_10 : decode cX11_restore 10 = .ok (.iload_n 1, 1) := by decide +kernel
theorem dX11_restore_11 : decode cX11_restore 11 = .ok (.invokevirtual 327, 3) := by decide +kernel
theorem dX11_restore_14 : decode cX11_restore 14 = .ok (.invokevirtual 335, 3) := by decide +kernel
theorem dX11_restore_17 : decode cX11_restore 17 = .ok (.ifCond .ne 5, 3) := by decide +kernel
theorem dX11_restore_20 : decode cX11_restore 20 = .ok (.iconst 0, 1) := by decide +kernel
theorem dX11_restore_21 : decode cX11_restore 21 = .ok (.ireturn, 1) := by decide +kernel
theorem dX11_restore_22 : decode cX11_restore 22 = .ok (.aload_n 0, 1) := by decide +kernel
theorem dX11_restore_23 : decode cX11_restore 23 = .ok (.iload_n 1, 1) := by decide +kernel
theorem dX11_restore_24 : decode cX11_restore 24 = .ok (.invokevirtual 327, 3) := by decide +kernel
theorem dX11_restore_27 : decode cX11_restore 27 = .ok (.aload_n 0, 1) := by decide +kernel
theorem dX11_restore_28 : decode cX11_restore 28 = .ok (.getfield 19, 3) := by decide +kernel
theorem dX11_restore_31 : decode cX11_restore 31 = .ok (.aload_n 0, 1) := by decide +kernel
theorem dX11_restore_32 : decode cX11_restore 32 = .ok (.getfield 40, 3) := by decide +kernel
theorem dX11_restore_35 : decode cX11_restore 35 = .ok (.aload_n 0, 1) := by decide +kernel
theorem dX11_restore_36 : decode cX11_restore 36 = .ok (.getfield 72, 3) := by decide +kernel
theorem dX11_restore_39 : decode cX11_restore 39 = .ok (.invokevirtual 338, 3) := by decide +kernel
theorem dX11_restore_42 : decode cX11_restore 42 = .ok (.aload_n 0, 1) := by decide +kernel
theorem dX11_restore_43 : decode cX11_restore 43 = .ok (.getfield 49, 3) := by decide +kernel
theorem dX11_restore_46 : decode cX11_restore 46 = .ok (.invokevirtual 113, 3) := by decide +kernel
theorem dX11_restore_49 : decode cX11_restore 49 = .ok (.aload_n 0, 1) := by decide +kernel
theorem dX11_restore_50 : decode cX11_restore 50 = .ok (.getfield 40, 3) := by decide +kernel
theorem dX11_restore_53 : decode cX11_restore 53 = .ok (.invokevirtual 144, 3) := by decide +kernel
theorem dX11_restore_56 : decode cX11_restore 56 = .ok (.iconst 1, 1) := by decide +kernel
theorem dX11_restore_57 : decode cX11_restore 57 = .ok (.ireturn, 1) := by decide +kernel
set_option maxHeartbeats 4000000 in
theorem c_LC_restore {ad wad : Nat → Nat} (F : Nat) (a0 : Int32) (h : HS)  (q : Int32 × HS) (hd : f_LC_restore F a0 h = some q) : Ctr SHc ad wad yX11_restore cX11_restore 2 (some .boolean) 4 [.ref (ad 0), .int a0] h (some (.int q.1), q.2) := by
  refine enter (own := RX11) (lv := [(0, .ref (ad 0)), (1, .int a0)]) (by decide +kernel) rfl (Nat.le_of_ble_eq_true rfl) rfl (fun Γ hG => ?_)
  unfold f_LC_restore at hd
  refine a_iload_n (pc := 0) hG 1 rfl dX11_restore_0 rfl ?_
  refine a_join hd (Q := fun J : HS → Option (Int32 × HS) => ∀  (h2 : HS), J  h2 = some q → AW SHc ad 2 (some (.int q.1), q.2) Γ 9 [(0, .ref (ad 0)), (1, .int a0)] [] h2) (fun  h2 hd => ?_) (fun J1 hJ1 hd => ?_)
  · refine a_aload_n (pc := 9) hG 0 rfl dX11_restore_9 rfl ?_
    refine a_iload_n (pc := 10) hG 1 rfl dX11_restore_10 rfl ?_
    refine a_imageAt (pc := 11) hG sc_0 cl_X11 mk_X11_imageAt t_1410 (by omega) (fun z hz => c_LC_imageAt a0 _ z hz) hd (Nat.le_of_ble_eq_true rfl) dX11_restore_11 (fun hd => ?_) (fun hd => ?_)
    · refine a_cvI (pc := 14) hG (As := []) (st := []) sc_54 cl_X1 mk_X1_isKept t_1425 (by omega) (fun z hz => c_Image_isKept_54  _  z hz) rfl (Nat.le_of_ble_eq_true rfl) hd dX11_restore_14 (fun r4 h3 hd => ?_)
      refine a_if_ne (pc := 17) hG (tgt := 22) hd dX11_restore_17 (by decide) (fun hd => ?_) (fun hd => ?_)
      · refine a_aload_n (pc := 22) hG 0 rfl dX11_restore_22 rfl ?_
        refine a_iload_n (pc := 23) hG 1 rfl dX11_restore_23 rfl ?_
        refine a_imageAt (pc := 24) hG sc_0 cl_X11 mk_X11_imageAt t_1410 (by omega) (fun z hz => c_LC_imageAt a0 _ z hz) hd (Nat.le_of_ble_eq_true rfl) dX11_restore_24 (fun hd => ?_) (fun hd => ?_)
        · refine a_aload_n (pc := 27) hG 0 rfl dX11_restore_27 rfl ?_
          refine a_getR (pc := 28) hG sc_0 cl_X11 ok_X11 1 (by decide) rfl t_482 dX11_restore_28 ?_
          refine a_aload_n (pc := 31) hG 0 rfl dX11_restore_31 rfl ?_
          refine a_getR (pc := 32) hG sc_0 cl_X11 ok_X11 4 (by decide) rfl t_485 dX11_restore_32 ?_
          refine a_aload_n (pc := 35) hG 0 rfl dX11_restore_35 rfl ?_
          refine a_getR (pc := 36) hG sc_0 cl_X11 ok_X11 8 (by decide) rfl t_489 dX11_restore_36 ?_
          refine a_cvN (pc := 39) hG (As := [.ref (ad 3), .ref (ad 20), .ref (ad 42)]) (st := []) sc_54 cl_X1 mk_X1_giveBack t_1429 (by omega) (fun z hz => c_Image_giveBack_54_42  _  z hz) rfl (Nat.le_of_ble_eq_true rfl) hd dX11_restore_39 (fun _ h5 hd => ?_)
          refine a_aload_n (pc := 42) hG 0 rfl dX11_restore_42 rfl ?_
          refine a_getR (pc := 43) hG sc_0 cl_X11 ok_X11 5 (by decide) rfl t_486 dX11_restore_43 ?_
          refine a_cvN (pc := 46) hG (As := []) (st := []) sc_31 cl_X9 mk_X9_sumUp t_469 (by omega) (fun z hz => c_Ways_sumUp F  _  z hz) rfl (Nat.le_of_ble_eq_true rfl) hd dX11_restore_46 (fun _ h6 hd => ?_)
          refine a_aload_n (pc := 49) hG 0 rfl dX11_restore_49 rfl ?_
          refine a_getR (pc := 50) hG sc_0 cl_X11 ok_X11 4 (by decide) rfl t_485 dX11_restore_50 ?_
          refine a_cvN (pc := 53) hG (As := []) (st := []) sc_20 cl_X0 mk_X0_forget t_769 (by omega) (fun z hz => c_Desk_forget  _  z hz) rfl (Nat.le_of_ble_eq_true rfl) hd dX11_restore_53 (fun _ h7 hd => ?_)
          refine a_iconst (pc := 56) hG dX11_restore_56 (v := (nI 1)) rfl ?_
          exact a_zret (pc := 57) hG hd dX11_restore_57
        refine a_aload_n (pc := 27) hG 0 rfl dX11_restore_27 rfl ?_
        refine a_getR (pc := 28) hG sc_0 cl_X11 ok_X11 1 (by decide) rfl t_482 dX11_restore_28 ?_
        refine a_aload_n (pc := 31) hG 0 rfl dX11_restore_31 rfl ?_
        refine a_getR (pc := 32) hG sc_0 cl_X11 ok_X11 4 (by decide) rfl t_485 dX11_restore_32 ?_
        refine a_aload_n (pc := 35) hG 0 rfl dX11_restore_35 rfl ?_
        refine a_getR (pc := 36) hG sc_0 cl_X11 ok_X11 8 (by decide) rfl t_489 dX11_restore_36 ?_
        refine a_cvN (pc := 39) hG (As := [.ref (ad 3), .ref (ad 20), .ref (ad 42)]) (st := []) sc_68 cl_X1 mk_X1_giveBack t_1429 (by omega) (fun z hz => c_Image_giveBack_68_42  _  z hz) rfl (Nat.le_of_ble_eq_true rfl) hd dX11_restore_39 (fun _ h8 hd => ?_)
        refine a_aload_n (pc := 42) hG 0 rfl dX11_restore_42 rfl ?_
        refine a_getR (pc := 43) hG sc_0 cl_X11 ok_X11 5 (by decide) rfl t_486 dX11_restore_43 ?_
        refine a_cvN (pc := 46) hG (As := []) (st := []) sc_31 cl_X9 mk_X9_sumUp t_469 (by omega) (fun z hz => c_Ways_sumUp F  _  z hz) rfl (Nat.le_of_ble_eq_true rfl) hd dX11_restore_46 (fun _ h9 hd => ?_)
        refine a_aload_n (pc := 49) hG 0 rfl dX11_restore_49 rfl ?_
        refine a_getR (pc := 50) hG sc_0 cl_X11 ok_X11 4 (by decide) rfl t_485 dX11_restore_50 ?_
        refine a_cvN (pc := 53) hG (As := []) (st := []) sc_20 cl_X0 mk_X0_forget t_769 (by omega) (fun z hz => c_Desk_forget  _  z hz) rfl (Nat.le_of_ble_eq_true rfl) hd dX11_restore_53 (fun _ h10 hd => ?_)
        refine a_iconst (pc := 56) hG dX11_restore_56 (v := (nI 1)) rfl ?_
        exact a_zret (pc := 57) hG hd dX11_restore_57
      refine a_iconst (pc := 20) hG dX11_restore_20 (v := (nI 0)) rfl ?_
      exact a_zret (pc := 21) hG hd dX11_restore_21
    refine a_cvI (pc := 14) hG (As := []) (st := []) sc_68 cl_X1 mk_X1_isKept t_1425 (by omega) (fun z hz => c_Image_isKept_68  _  z hz) rfl (Nat.le_of_ble_eq_true rfl) hd dX11_restore_14 (fun r12 h11 hd => ?_)
    refine a_if_ne (pc := 17) hG (tgt := 22) hd dX11_restore_17 (by decide) (fun hd => ?_) (fun hd => ?_)
    · refine a_aload_n (pc := 22) hG 0 rfl dX11_restore_22 rfl ?_
      refine a_iload_n (pc := 23) hG 1 rfl dX11_restore_23 rfl ?_
      refine a_imageAt (pc := 24) hG sc_0 cl_X11 mk_X11_imageAt t_1410 (by omega) (fun z hz => c_LC_imageAt a0 _ z hz) hd (Nat.le_of_ble_eq_true rfl) dX11_restore_24 (fun hd => ?_) (fun hd => ?_)
      · refine a_aload_n (pc := 27) hG 0 rfl dX11_restore_27 rfl ?_
        refine a_getR (pc := 28) hG sc_0 cl_X11 ok_X11 1 (by decide) rfl t_482 dX11_restore_28 ?_
        refine a_aload_n (pc := 31) hG 0 rfl dX11_restore_31 rfl ?_
        refine a_getR (pc := 32) hG sc_0 cl_X11 ok_X11 4 (by decide) rfl t_485 dX11_restore_32 ?_
        refine a_aload_n (pc := 35) hG 0 rfl dX11_restore_35 rfl ?_
        refine a_getR (pc := 36) hG sc_0 cl_X11 ok_X11 8 (by decide) rfl t_489 dX11_restore_36 ?_
        refine a_cvN (pc := 39) hG (As := [.ref (ad 3), .ref (ad 20), .ref (ad 42)]) (st := []) sc_54 cl_X1 mk_X1_giveBack t_1429 (by omega) (fun z hz => c_Image_giveBack_54_42  _  z hz) rfl (Nat.le_of_ble_eq_true rfl) hd dX11_restore_39 (fun _ h13 hd => ?_)
        refine a_aload_n (pc := 42) hG 0 rfl dX11_restore_42 rfl ?_
        refine a_getR (pc := 43) hG sc_0 cl_X11 ok_X11 5 (by decide) rfl t_486 dX11_restore_43 ?_
        refine a_cvN (pc := 46) hG (As := []) (st := []) sc_31 cl_X9 mk_X9_sumUp t_469 (by omega) (fun z hz => c_Ways_sumUp F  _  z hz) rfl (Nat.le_of_ble_eq_true rfl) hd dX11_restore_46 (fun _ h14 hd => ?_)
        refine a_aload_n (pc := 49) hG 0 rfl dX11_restore_49 rfl ?_
        refine a_getR (pc := 50) hG sc_0 cl_X11 ok_X11 4 (by decide) rfl t_485 dX11_restore_50 ?_
        refine a_cvN (pc := 53) hG (As := []) (st := []) sc_20 cl_X0 mk_X0_forget t_769 (by omega) (fun z hz => c_Desk_forget  _  z hz) rfl (Nat.le_of_ble_eq_true rfl) hd dX11_restore_53 (fun _ h15 hd => ?_)
        refine a_iconst (pc := 56) hG dX11_restore_56 (v := (nI 1)) rfl ?_
        exact a_zret (pc := 57) hG hd dX11_restore_57
      refine a_aload_n (pc := 27) hG 0 rfl dX11_restore_27 rfl ?_
      refine a_getR (pc := 28) hG sc_0 cl_X11 ok_X11 1 (by decide) rfl t_482 dX11_restore_28 ?_
      refine a_aload_n (pc := 31) hG 0 rfl dX11_restore_31 rfl ?_
      refine a_getR (pc := 32) hG sc_0 cl_X11 ok_X11 4 (by decide) rfl t_485 dX11_restore_32 ?_
      refine a_aload_n (pc := 35) hG 0 rfl dX11_restore_35 rfl ?_
      refine a_getR (pc := 36) hG sc_0 cl_X11 ok_X11 8 (by decide) rfl t_489 dX11_restore_36 ?_
      refine a_cvN (pc := 39) hG (As := [.ref (ad 3), .ref (ad 20), .ref (ad 42)]) (st := []) sc_68 cl_X1 mk_X1_giveBack t_1429 (by omega) (fun z hz => c_Image_giveBack_68_42  _  z hz) rfl (Nat.le_of_ble_eq_true rfl) hd dX11_restore_39 (fun _ h16 hd => ?_)
      refine a_aload_n (pc := 42) hG 0 rfl dX11_restore_42 rfl ?_
      refine a_getR (pc := 43) hG sc_0 cl_X11 ok_X11 5 (by decide) rfl t_486 dX11_restore_43 ?_
      refine a_cvN (pc := 46) hG (As := []) (st := []) sc_31 cl_X9 mk_X9_sumUp t_469 (by omega) (fun z hz => c_Ways_sumUp F  _  z hz) rfl (Nat.le_of_ble_eq_true rfl) hd dX11_restore_46 (fun _ h17 hd => ?_)
      refine a_aload_n (pc := 49) hG 0 rfl dX11_restore_49 rfl ?_
      refine a_getR (pc := 50) hG sc_0 cl_X11 ok_X11 4 (by decide) rfl t_485 dX11_restore_50 ?_
      refine a_cvN (pc := 53) hG (As := []) (st := []) sc_20 cl_X0 mk_X0_forget t_769 (by omega) (fun z hz => c_Desk_forget  _  z hz) rfl (Nat.le_of_ble_eq_true rfl) hd dX11_restore_53 (fun _ h18 hd => ?_)
      refine a_iconst (pc := 56) hG dX11_restore_56 (v := (nI 1)) rfl ?_
      exact a_zret (pc := 57) hG hd dX11_restore_57
    refine a_iconst (pc := 20) hG dX11_restore_20 (v := (nI 0)) rfl ?_
    exact a_zret (pc := 21) hG hd dX11_restore_21
  refine a_if_eq (pc := 1) hG (tgt := 9) hd dX11_restore_1 (by decide) (fun hd => ?_) (fun hd => ?_)
  · exact AW.sub [0, 1] rfl (hJ1  _ hd)
  refine a_iload_n (pc := 4) hG 1 rfl dX11_restore_4 rfl ?_
  refine a_iconst (pc := 5) hG dX11_restore_5 (v := (nI 1)) rfl ?_
  refine a_ic_ne (pc := 6) hG (tgt := 20) hd dX11_restore_6 (by decide) (fun hd => ?_) (fun hd => ?_)
  · refine a_iconst (pc := 20) hG dX11_restore_20 (v := (nI 0)) rfl ?_
    exact a_zret (pc := 21) hG hd dX11_restore_21
  exact AW.sub [0, 1] rfl (hJ1  _ hd)
theorem dX5_rumours_0 : decode cX5_rumours 0 = .ok (.iconst 0, 1) := by decide +kernel
theorem dX5_rumours_1 : decode cX5_rumours 1 = .ok (.istore_n 1, 1) := by decide +kernel
theorem dX5_rumours_2 : decode cX5_rumours 2 = .ok (.iconst 0, 1) := by decide +kernel
theorem dX5_rumours_3 : decode cX5_rumours 3 = .ok (.istore_n 2, 1) := by decide +kernel
theorem dX5_rumours_4 : decode cX5_rumours 4 = .ok (.iload_n 2, 1) := by decide +kernel
theorem dX5_rumours_5 : decode cX5_rumours 5 = .ok (.aload_n 0, 1) := by decide +kernel
theorem dX5_rumours_6 : decode cX5_rumours 6 = .ok (.getfield 21, 3) := by decide +kernel
theorem dX5_rumours_9 : decode cX5_rumours 9 = .ok (.if_icmp .ge 20, 3) := by decide +kernel
theorem dX5_rumours_12 : decode cX5_rumours 12 = .ok (.aload_n 0, 1) := by decide +kernel
theorem dX5_rumours_13 : decode cX5_rumours 13 = .ok (.iload_n 2, 1) := by decide +kernel
theorem dX5_rumours_14 : decode cX5_rumours 14 = .ok (.invokevirtual 59, 3) := by decide +kernel
theorem dX5_rumours_17 : decode cX5_rumours 17 = .ok (.ifCond .eq 6, 3) := by decide +kernel
theorem dX5_rumours_20 : decode cX5_rumours 20 = .ok (.iinc 1 1, 3) := by decide +kernel
theorem dX5_rumours_23 : decode cX5_rumours 23 = .ok (.iinc 2 1, 3) := by decide +kernel
theorem dX5_rumours_26 : decode cX5_rumours 26 = .ok (.goto (-22), 3) := by decide +kernel
theorem dX5_rumours_29 : decode cX5_rumours 29 = .ok (.iload_n 1, 1) := by decide +kernel
theorem dX5_rumours_30 : decode cX5_rumours 30 = .ok (.ireturn, 1) := by decide +kernel
set_option maxHeartbeats 4000000 in
theorem w_l_Plan_rumours_3_0 {ad wad : Nat → Nat} {Γ : Ctx} (F : Nat) {n : Nat} (hn : 3 ≤ n) (hG : Cx SHc ad wad cX5_rumours 3 RX5 (some .int) (n) Γ) {q : Int32 × HS} {g : Nat} {x1 : Int32} {x2 : Int32} {h : HS} (hd : l_Plan_rumours_3_0 F g x1 x2 h = some q) : AW SHc ad 3 (some (.int q.1), q.2) Γ 4 [(0, .ref (ad 3)), (1, .int x1), (2, .int x2)] [] h := by
  induction g generalizing x1 x2 h with
  | zero => unfold l_Plan_rumours_3_0 at hd; cases hd
  | succ g ih =>
    unfold l_Plan_rumours_3_0 at hd
    refine a_iload_n (pc := 4) hG 2 rfl dX5_rumours_4 rfl ?_
    refine a_aload_n (pc := 5) hG 0 rfl dX5_rumours_5 rfl ?_
    refine a_getI (pc := 6) hG sc_3 cl_X5 ok_X5 3 (by decide) rfl t_200 dX5_rumours_6 ?_
    refine a_ic_ge (pc := 9) hG (tgt := 29) hd dX5_rumours_9 (by decide) (fun hd => ?_) (fun hd => ?_)
    · refine a_iload_n (pc := 29) hG 1 rfl dX5_rumours_29 rfl ?_
      exact a_iret (pc := 30) hG hd dX5_rumours_30
    refine a_aload_n (pc := 12) hG 0 rfl dX5_rumours_12 rfl ?_
    refine a_iload_n (pc := 13) hG 2 rfl dX5_rumours_13 rfl ?_
    refine a_cvI (pc := 14) hG (As := [.int x2]) (st := []) sc_3 cl_X5 mk_X5_hasRumour t_1443 (by omega) (fun z hz => c_Plan_hasRumour_3 x2 _  z hz) rfl (Nat.le_of_ble_eq_true rfl) hd dX5_rumours_14 (fun r4 h3 hd => ?_)
    refine a_join hd (Q := fun J : Int32 → HS → Option (Int32 × HS) => ∀ (v6 : Int32) (h7 : HS), J v6 h7 = some q → AW SHc ad 3 (some (.int q.1), q.2) Γ 23 [(0, .ref (ad 3)), (1, .int v6), (2, .int x2)] [] h7) (fun v6 h7 hd => ?_) (fun J5 hJ5 hd => ?_)
    · refine a_iincN (pc := 23) hG (c0 := (nI 1)) 2 rfl hd dX5_rumours_23 rfl (by decide) (lf := fun x => [(2, .int x), (0, .ref (ad 3)), (1, .int v6)]) (fun _ => rfl) (fun v8 hd => ?_)
      refine a_goto (pc := 26) hG (tgt := 4) dX5_rumours_26 (by decide) ?_
      exact AW.sub [1, 2, 0] rfl (ih hd)
    refine a_if_eq (pc := 17) hG (tgt := 23) hd dX5_rumours_17 (by decide) (fun hd => ?_) (fun hd => ?_)
    · exact AW.sub [0, 1, 2] rfl (hJ5 _ _ hd)
    refine a_iincN (pc := 20) hG (c0 := (nI 1)) 1 rfl hd dX5_rumours_20 rfl (by decide) (lf := fun x => [(1, .int x), (0, .ref (ad 3)), (2, .int x2)]) (fun _ => rfl) (fun v9 hd => ?_)
    exact AW.sub [1, 0, 2] rfl (hJ5 _ _ hd)
set_option maxHeartbeats 4000000 in
theorem c_Plan_rumours_3 {ad wad : Nat → Nat} (F : Nat)  (h : HS)  (q : Int32 × HS) (hd : f_Plan_rumours_3 F  h = some q) : Ctr SHc ad wad yX5_rumours cX5_rumours 3 (some .int) 3 [.ref (ad 3)] h (some (.int q.1), q.2) := by
  refine enter (own := RX5) (lv := [(0, .ref (ad 3))]) (by decide +kernel) rfl (Nat.le_of_ble_eq_true rfl) rfl (fun Γ hG => ?_)
  unfold f_Plan_rumours_3 at hd
  refine a_iconst (pc := 0) hG dX5_rumours_0 (v := (nI 0)) rfl ?_
  refine a_istore_nN (pc := 1) hG hd dX5_rumours_1 rfl (by decide) (lf := fun x => [(1, .int x), (0, .ref (ad 3))]) (fun _ => rfl) (fun v1 hd => ?_)
  refine a_iconst (pc := 2) hG dX5_rumours_2 (v := (nI 0)) rfl ?_
  refine a_istore_nN (pc := 3) hG hd dX5_rumours_3 rfl (by decide) (lf := fun x => [(2, .int x), (1, .int v1), (0, .ref (ad 3))]) (fun _ => rfl) (fun v2 hd => ?_)
  refine AW.sub [2, 1, 0] rfl ?_
  exact w_l_Plan_rumours_3_0 F (by omega) hG hd
theorem dX5_lineAbove_0 : decode cX5_lineAbove 0 = .ok (.aload_n 0, 1) := by decide +kernel
theorem dX5_lineAbove_1 : decode cX5_lineAbove 1 = .ok (.getfield 9, 3) := by decide +kernel
theorem dX5_lineAbove_4 : decode cX5_lineAbove 4 = .ok (.ireturn, 1) := by decide +kernel
set_option maxHeartbeats 4000000 in
theorem c_Plan_lineAbove_3 {ad wad : Nat → Nat}  (h : HS)  (q : Int32 × HS) (hd : f_Plan_lineAbove_3  h = some q) : Ctr SHc ad wad yX5_lineAbove cX5_lineAbove 1 (some .int) 1 [.ref (ad 3)] h (some (.int q.1), q.2) := by
  refine enter (own := RX5) (lv := [(0, .ref (ad 3))]) (by decide +kernel) rfl (Nat.le_of_ble_eq_true rfl) rfl (fun Γ hG => ?_)
  unfold f_Plan_lineAbove_3 at hd
  refine a_aload_n (pc := 0) hG 0 rfl dX5_lineAbove_0 rfl ?_
  refine a_getI (pc := 1) hG sc_3 cl_X5 ok_X5 0 (by decide) rfl t_197 dX5_lineAbove_1 ?_
  exact a_iret (pc := 4) hG hd dX5_lineAbove_4
theorem dX5_lineBelow_0 : decode cX5_lineBelow 0 = .ok (.aload_n 0, 1) := by decide +kernel
theorem dX5_lineBelow_1 : decode cX5_lineBelow 1 = .ok (.getfield 15, 3) := by decide +kernel
theorem dX5_lineBelow_4 : decode cX5_lineBelow 4 = .ok (.ireturn, 1) := by decide +kernel
set_option maxHeartbeats 4000000 in
theorem c_Plan_lineBelow_3 {ad wad : Nat → Nat}  (h : HS)  (q : Int32 × HS) (hd : f_Plan_lineBelow_3  h = some q) : Ctr SHc ad wad yX5_lineBelow cX5_lineBelow 1 (some .int) 1 [.ref (ad 3)] h (some (.int q.1), q.2) := by
  refine enter (own := RX5) (lv := [(0, .ref (ad 3))]) (by decide +kernel) rfl (Nat.le_of_ble_eq_true rfl) rfl (fun Γ hG => ?_)
  unfold f_Plan_lineBelow_3 at hd
  refine a_aload_n (pc := 0) hG 0 rfl dX5_lineBelow_0 rfl ?_
  refine a_getI (pc := 1) hG sc_3 cl_X5 ok_X5 1 (by decide) rfl t_198 dX5_lineBelow_1 ?_
  exact a_iret (pc := 4) hG hd dX5_lineBelow_4
theorem dX11_count_0 : decode cX11_count 0 = .ok (.iload_n 1, 1) := by decide +kernel
theorem dX11_count_1 : decode cX11_count 1 = .ok (.tableswitch 99 0 6 #[43, 51, 59, 67, 75, 83, 91], 43) := by decide +kernel
theorem dX11_count_44 : decode cX11_count 44 = .ok (.aload_n 0, 1) := by decide +kernel
theorem dX11_count_45 : decode cX11_count 45 = .ok (.getfield 19, 3) := by decide +kernel
theorem dX11_count_48 : decode cX11_count 48 = .ok (.invokevirtual 279, 3) := by decide +kernel
theorem dX11_count_51 : decode cX11_count 51 = .ok (.ireturn, 1) := by decide +kernel
theorem dX11_count_52 : decode cX11_count 52 = .ok (.aload_n 0, 1) := by decide +kernel
theorem dX11_count_53 : decode cX11_count 53 = .ok (.getfield 19, 3) := by decide +kernel
theorem dX11_count_56 : decode cX11_count 56 = .ok (.invokevirtual 341, 3) := by decide +kernel
theorem dX11_count_59 : decode cX11_count 59 = .ok (.ireturn, 1) := by decide +kernel
theorem dX11_count_60 : decode cX11_count 60 = .ok (.aload_n 0, 1) := by decide +kernel
theorem dX11_count_61 : decode cX11_count 61 = .ok (.getfield 19, 3) := by decide +kernel
theorem dX11_count_64 : decode cX11_count 64 = .ok (.invokevirtual 285, 3) := by decide +kernel
theorem dX11_count_67 : decode cX11_count 67 = .ok (.ireturn, 1) := by decide +kernel
theorem dX11_count_68 : decode cX11_count 68 = .ok (.aload_n 0, 1) := by decide +kernel
theorem dX11_count_69 : decode cX11_count 69 = .ok (.getfield 19, 3) := by decide +kernel
theorem dX11_count_72 : decode cX11_count 72 = .ok (.invokevirtual 344, 3) := by decide +kernel
theorem dX11_count_75 : decode cX11_count 75 = .ok (.ireturn, 1) := by decide +kernel
theorem dX11_count_76 : decode cX11_count 76 = .ok (.aload_n 0, 1) := by decide +kernel
theorem dX11_count_77 : decode cX11_count 77 = .ok (.getfield 19, 3) := by decide +kernel
theorem dX11_count_80 : decode cX11_count 80 = .ok (.invokevirtual 347, 3) := by decide +kernel
theorem dX11_count_83 : decode cX11_count 83 = .ok (.ireturn, 1) := by decide +kernel
theorem dX11_count_84 : decode cX11_count 84 = .ok (.aload_n 0, 1) := by decide +kernel
theorem dX11_count_85 : decode cX11_count 85 = .ok (.getfield 19, 3) := by decide +kernel
theorem dX11_count_88 : decode cX11_count 88 = .ok (.invokevirtual 350, 3) := by decide +kernel
theorem dX11_count_91 : decode cX11_count 91 = .ok (.ireturn, 1) := by decide +kernel
theorem dX11_count_92 : decode cX11_count 92 = .ok (.aload_n 0, 1) := by decide +kernel
theorem dX11_count_93 : decode cX11_count 93 = .ok (.getfield 12, 3) := by decide +kernel
theorem dX11_count_96 : decode cX11_count 96 = .ok (.invokevirtual 116, 3) := by decide +kernel
theorem dX11_count_99 : decode cX11_count 99 = .ok (.ireturn, 1) := by decide +kernel
theorem dX11_count_100 : decode cX11_count 100 = .ok (.iconst (-1), 1) := by decide +kernel
theorem dX11_count_101 : decode cX11_count 101 = .ok (.ireturn, 1) := by decide +kernel
set_option maxHeartbeats 4000000 in
theorem c_LC_count {ad wad : Nat → Nat} (F : Nat) (a0 : Int32) (h : HS)  (q : Int32 × HS) (hd : f_LC_count F a0 h = some q) : Ctr SHc ad wad yX11_count cX11_count 2 (some .int) 4 [.ref (ad 0), .int a0] h (some (.int q.1), q.2) := by
  refine enter (own := RX11) (lv := [(0, .ref (ad 0)), (1, .int a0)]) (by decide +kernel) rfl (Nat.le_of_ble_eq_true rfl) rfl (fun Γ hG => ?_)
  unfold f_LC_count at hd
  refine a_iload_n (pc := 0) hG 1 rfl dX11_count_0 rfl ?_
  refine a_tcase (pc := 1) hG ((nI 0)) (tgt := 44) hd dX11_count_1 (by decide) (by decide) rfl (by decide) (fun hd => ?_) (fun n0 hd => ?_)
  · refine a_aload_n (pc := 44) hG 0 rfl dX11_count_44 rfl ?_
    refine a_getR (pc := 45) hG sc_0 cl_X11 ok_X11 1 (by decide) rfl t_482 dX11_count_45 ?_
    refine a_cvI (pc := 48) hG (As := []) (st := []) sc_3 cl_X5 mk_X5_causes t_1197 (by omega) (fun z hz => c_Plan_causes_3  _  z hz) rfl (Nat.le_of_ble_eq_true rfl) hd dX11_count_48 (fun r2 h1 hd => ?_)
    exact a_iret (pc := 51) hG hd dX11_count_51
  refine a_tcase (pc := 1) hG ((nI 1)) (tgt := 52) hd dX11_count_1 (by decide) (by decide) rfl (by decide) (fun hd => ?_) (fun n1 hd => ?_)
  · refine a_aload_n (pc := 52) hG 0 rfl dX11_count_52 rfl ?_
    refine a_getR (pc := 53) hG sc_0 cl_X11 ok_X11 1 (by decide) rfl t_482 dX11_count_53 ?_
    refine a_cvI (pc := 56) hG (As := []) (st := []) sc_3 cl_X5 mk_X5_deeds t_1438 (by omega) (fun z hz => c_Plan_deeds_3  _  z hz) rfl (Nat.le_of_ble_eq_true rfl) hd dX11_count_56 (fun r4 h3 hd => ?_)
    exact a_iret (pc := 59) hG hd dX11_count_59
  refine a_tcase (pc := 1) hG ((nI 2)) (tgt := 60) hd dX11_count_1 (by decide) (by decide) rfl (by decide) (fun hd => ?_) (fun n2 hd => ?_)
  · refine a_aload_n (pc := 60) hG 0 rfl dX11_count_60 rfl ?_
    refine a_getR (pc := 61) hG sc_0 cl_X11 ok_X11 1 (by decide) rfl t_482 dX11_count_61 ?_
    refine a_cvI (pc := 64) hG (As := []) (st := []) sc_3 cl_X5 mk_X5_clerks t_1204 (by omega) (fun z hz => c_Plan_clerks_3  _  z hz) rfl (Nat.le_of_ble_eq_true rfl) hd dX11_count_64 (fun r6 h5 hd => ?_)
    exact a_iret (pc := 67) hG hd dX11_count_67
  refine a_tcase (pc := 1) hG ((nI 3)) (tgt := 68) hd dX11_count_1 (by decide) (by decide) rfl (by decide) (fun hd => ?_) (fun n3 hd => ?_)
  · refine a_aload_n (pc := 68) hG 0 rfl dX11_count_68 rfl ?_
    refine a_getR (pc := 69) hG sc_0 cl_X11 ok_X11 1 (by decide) rfl t_482 dX11_count_69 ?_
    refine a_cvI (pc := 72) hG (As := []) (st := []) sc_3 cl_X5 mk_X5_rumours t_1439 (by omega) (fun z hz => c_Plan_rumours_3 F  _  z hz) rfl (Nat.le_of_ble_eq_true rfl) hd dX11_count_72 (fun r8 h7 hd => ?_)
    exact a_iret (pc := 75) hG hd dX11_count_75
  refine a_tcase (pc := 1) hG ((nI 4)) (tgt := 76) hd dX11_count_1 (by decide) (by decide) rfl (by decide) (fun hd => ?_) (fun n4 hd => ?_)
  · refine a_aload_n (pc := 76) hG 0 rfl dX11_count_76 rfl ?_
    refine a_getR (pc := 77) hG sc_0 cl_X11 ok_X11 1 (by decide) rfl t_482 dX11_count_77 ?_
    refine a_cvI (pc := 80) hG (As := []) (st := []) sc_3 cl_X5 mk_X5_lineAbove t_1444 (by omega) (fun z hz => c_Plan_lineAbove_3  _  z hz) rfl (Nat.le_of_ble_eq_true rfl) hd dX11_count_80 (fun r10 h9 hd => ?_)
    exact a_iret (pc := 83) hG hd dX11_count_83
  refine a_tcase (pc := 1) hG ((nI 5)) (tgt := 84) hd dX11_count_1 (by decide) (by decide) rfl (by decide) (fun hd => ?_) (fun n5 hd => ?_)
  · refine a_aload_n (pc := 84) hG 0 rfl dX11_count_84 rfl ?_
    refine a_getR (pc := 85) hG sc_0 cl_X11 ok_X11 1 (by decide) rfl t_482 dX11_count_85 ?_
    refine a_cvI (pc := 88) hG (As := []) (st := []) sc_3 cl_X5 mk_X5_lineBelow t_1448 (by omega) (fun z hz => c_Plan_lineBelow_3  _  z hz) rfl (Nat.le_of_ble_eq_true rfl) hd dX11_count_88 (fun r12 h11 hd => ?_)
    exact a_iret (pc := 91) hG hd dX11_count_91
  refine a_tcase (pc := 1) hG ((nI 6)) (tgt := 92) hd dX11_count_1 (by decide) (by decide) rfl (by decide) (fun hd => ?_) (fun n6 hd => ?_)
  · refine a_aload_n (pc := 92) hG 0 rfl dX11_count_92 rfl ?_
    refine a_getR (pc := 93) hG sc_0 cl_X11 ok_X11 0 (by decide) rfl t_481 dX11_count_93 ?_
    refine a_cvI (pc := 96) hG (As := []) (st := []) sc_1 cl_X8 mk_X8_length t_537 (by omega) (fun z hz => c_Tape_length  _  z hz) rfl (Nat.le_of_ble_eq_true rfl) hd dX11_count_96 (fun r14 h13 hd => ?_)
    exact a_iret (pc := 99) hG hd dX11_count_99
  refine a_tdef (pc := 1) hG (tgt := 100) dX11_count_1 (by have en0 := sw_ne (z := 0) rfl n0; have en1 := sw_ne (z := 1) rfl n1; have en2 := sw_ne (z := 2) rfl n2; have en3 := sw_ne (z := 3) rfl n3; have en4 := sw_ne (z := 4) rfl n4; have en5 := sw_ne (z := 5) rfl n5; have en6 := sw_ne (z := 6) rfl n6; omega) (by decide) ?_
  refine a_iconst (pc := 100) hG dX11_count_100 (v := (-1 : Int32)) rfl ?_
  exact a_iret (pc := 101) hG hd dX11_count_101
theorem dX12_thrown_0 : decode cX12_thrown 0 = .ok (.aload_n 0, 1) := by decide +kernel
theorem dX12_thrown_1 : decode cX12_thrown 1 = .ok (.getfield 1, 3) := by decide +kernel
theorem dX12_thrown_4 : decode cX12_thrown 4 = .ok (.ireturn, 1) := by decide +kernel
set_option maxHeartbeats 4000000 in
theorem c_M_thrown {ad wad : Nat → Nat}  (h : HS)  (q : Int32 × HS) (hd : f_M_thrown  h = some q) : Ctr SHm ad wad yX12_thrown cX12_thrown 1 (some .int) 1 [.ref (ad 0)] h (some (.int q.1), q.2) := by
  refine enter (own := RX12) (lv := [(0, .ref (ad 0))]) (by decide +kernel) rfl (Nat.le_of_ble_eq_true rfl) rfl (fun Γ hG => ?_)
  unfold f_M_thrown at hd
  refine a_aload_n (pc := 0) hG 0 rfl dX12_thrown_0 rfl ?_
  refine a_getI (pc := 1) hG sm_0 cl_X12 ok_X12 0 (by decide) rfl t_1609 dX12_thrown_1 ?_
  exact a_iret (pc := 4) hG hd dX12_thrown_4
