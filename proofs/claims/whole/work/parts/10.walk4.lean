theorem dX12_tried_0 : decode cX12_tried 0 = .ok (.aload_n 0, 1) := by decide +kernel
theorem dX12_tried_1 : decode cX12_tried 1 = .ok (.iconst 0, 1) := by decide +kernel
theorem dX12_tried_2 : decode cX12_tried 2 = .ok (.putfield 1, 3) := by decide +kernel
theorem dX12_tried_5 : decode cX12_tried 5 = .ok (.aload_n 0, 1) := by decide +kernel
theorem dX12_tried_6 : decode cX12_tried 6 = .ok (.getfield 362, 3) := by decide +kernel
theorem dX12_tried_9 : decode cX12_tried 9 = .ok (.ifCond .eq 10, 3) := by decide +kernel
theorem dX12_tried_12 : decode cX12_tried 12 = .ok (.aload_n 0, 1) := by decide +kernel
theorem dX12_tried_13 : decode cX12_tried 13 = .ok (.getfield 366, 3) := by decide +kernel
theorem dX12_tried_16 : decode cX12_tried 16 = .ok (.goto 4, 3) := by decide +kernel
theorem dX12_tried_19 : decode cX12_tried 19 = .ok (.iconst (-1), 1) := by decide +kernel
theorem dX12_tried_20 : decode cX12_tried 20 = .ok (.ireturn, 1) := by decide +kernel
set_option maxHeartbeats 4000000 in
theorem c_M_tried {ad wad : Nat → Nat}  (h : HS)  (q : Int32 × HS) (hd : f_M_tried  h = some q) : Ctr SHm ad wad yX12_tried cX12_tried 1 (some .int) 1 [.ref (ad 0)] h (some (.int q.1), q.2) := by
  refine enter (own := RX12) (lv := [(0, .ref (ad 0))]) (by decide +kernel) rfl (Nat.le_of_ble_eq_true rfl) rfl (fun Γ hG => ?_)
  unfold f_M_tried at hd
  refine a_aload_n (pc := 0) hG 0 rfl dX12_tried_0 rfl ?_
  refine a_iconst (pc := 1) hG dX12_tried_1 (v := (nI 0)) rfl ?_
  refine a_putI (pc := 2) hG sm_0 cl_X12 ok_X12 0 (by decide) rfl t_1609 rfl (ty := .int) rfl rfl rfl hd dX12_tried_2 (fun h1 hd => ?_)
  refine a_aload_n (pc := 5) hG 0 rfl dX12_tried_5 rfl ?_
  refine a_getI (pc := 6) hG sm_0 cl_X12 ok_X12 30 (by decide) rfl t_1639 dX12_tried_6 ?_
  refine a_if_eq (pc := 9) hG (tgt := 19) hd dX12_tried_9 (by decide) (fun hd => ?_) (fun hd => ?_)
  · refine a_iconst (pc := 19) hG dX12_tried_19 (v := (-1 : Int32)) rfl ?_
    exact a_iret (pc := 20) hG hd dX12_tried_20
  refine a_aload_n (pc := 12) hG 0 rfl dX12_tried_12 rfl ?_
  refine a_getI (pc := 13) hG sm_0 cl_X12 ok_X12 29 (by decide) rfl t_1638 dX12_tried_13 ?_
  refine a_goto (pc := 16) hG (tgt := 20) dX12_tried_16 (by decide) ?_
  exact a_iret (pc := 20) hG hd dX12_tried_20
theorem dX12_pay_0 : decode cX12_pay 0 = .ok (.aload_n 0, 1) := by decide +kernel
theorem dX12_pay_1 : decode cX12_pay 1 = .ok (.iconst 0, 1) := by decide +kernel
theorem dX12_pay_2 : decode cX12_pay 2 = .ok (.putfield 1, 3) := by decide +kernel
theorem dX12_pay_5 : decode cX12_pay 5 = .ok (.aload_n 0, 1) := by decide +kernel
theorem dX12_pay_6 : decode cX12_pay 6 = .ok (.iload_n 1, 1) := by decide +kernel
theorem dX12_pay_7 : decode cX12_pay 7 = .ok (.invokevirtual 255, 3) := by decide +kernel
theorem dX12_pay_10 : decode cX12_pay 10 = .ok (.ifCond .ne 5, 3) := by decide +kernel
theorem dX12_pay_13 : decode cX12_pay 13 = .ok (.iconst (-1), 1) := by decide +kernel
theorem dX12_pay_14 : decode cX12_pay 14 = .ok (.ireturn, 1) := by decide +kernel
theorem dX12_pay_15 : decode cX12_pay 15 = .ok (.aload_n 0, 1) := by decide +kernel
theorem dX12_pay_16 : decode cX12_pay 16 = .ok (.iload_n 1, 1) := by decide +kernel
theorem dX12_pay_17 : decode cX12_pay 17 = .ok (.iconst 0, 1) := by decide +kernel
theorem dX12_pay_18 : decode cX12_pay 18 = .ok (.invokevirtual 272, 3) := by decide +kernel
theorem dX12_pay_21 : decode cX12_pay 21 = .ok (.ifCond .eq 12, 3) := by decide +kernel
theorem dX12_pay_24 : decode cX12_pay 24 = .ok (.aload_n 0, 1) := by decide +kernel
theorem dX12_pay_25 : decode cX12_pay 25 = .ok (.iload_n 1, 1) := by decide +kernel
theorem dX12_pay_26 : decode cX12_pay 26 = .ok (.iconst 0, 1) := by decide +kernel
theorem dX12_pay_27 : decode cX12_pay 27 = .ok (.invokevirtual 275, 3) := by decide +kernel
theorem dX12_pay_30 : decode cX12_pay 30 = .ok (.goto 4, 3) := by decide +kernel
theorem dX12_pay_33 : decode cX12_pay 33 = .ok (.iconst 0, 1) := by decide +kernel
theorem dX12_pay_34 : decode cX12_pay 34 = .ok (.ireturn, 1) := by decide +kernel
set_option maxHeartbeats 4000000 in
theorem c_M_pay {ad wad : Nat → Nat} (F : Nat) (a0 : Int32) (h : HS)  (q : Int32 × HS) (hd : f_M_pay F a0 h = some q) : Ctr SHm ad wad yX12_pay cX12_pay 2 (some .int) 7 [.ref (ad 0), .int a0] h (some (.int q.1), q.2) := by
  refine enter (own := RX12) (lv := [(0, .ref (ad 0)), (1, .int a0)]) (by decide +kernel) rfl (Nat.le_of_ble_eq_true rfl) rfl (fun Γ hG => ?_)
  unfold f_M_pay at hd
  refine a_aload_n (pc := 0) hG 0 rfl dX12_pay_0 rfl ?_
  refine a_iconst (pc := 1) hG dX12_pay_1 (v := (nI 0)) rfl ?_
  refine a_putI (pc := 2) hG sm_0 cl_X12 ok_X12 0 (by decide) rfl t_1609 rfl (ty := .int) rfl rfl rfl hd dX12_pay_2 (fun h1 hd => ?_)
  refine a_aload_n (pc := 5) hG 0 rfl dX12_pay_5 rfl ?_
  refine a_iload_n (pc := 6) hG 1 rfl dX12_pay_6 rfl ?_
  refine a_cvI (pc := 7) hG (As := [.int a0]) (st := []) sm_0 cl_X12 mk_X12_isCause t_1830 (by omega) (fun z hz => c_M_isCause a0 _  z hz) rfl (Nat.le_of_ble_eq_true rfl) hd dX12_pay_7 (fun r3 h2 hd => ?_)
  refine a_if_ne (pc := 10) hG (tgt := 15) hd dX12_pay_10 (by decide) (fun hd => ?_) (fun hd => ?_)
  · refine a_aload_n (pc := 15) hG 0 rfl dX12_pay_15 rfl ?_
    refine a_iload_n (pc := 16) hG 1 rfl dX12_pay_16 rfl ?_
    refine a_iconst (pc := 17) hG dX12_pay_17 (v := (nI 0)) rfl ?_
    refine a_cvI (pc := 18) hG (As := [.int a0, .int (nI 0)]) (st := []) sm_0 cl_X12 mk_X12_isSafe t_1889 (by omega) (fun z hz => c_M_isSafe F a0 (nI 0) _  z hz) rfl (Nat.le_of_ble_eq_true rfl) hd dX12_pay_18 (fun r5 h4 hd => ?_)
    refine a_if_eq (pc := 21) hG (tgt := 33) hd dX12_pay_21 (by decide) (fun hd => ?_) (fun hd => ?_)
    · refine a_iconst (pc := 33) hG dX12_pay_33 (v := (nI 0)) rfl ?_
      exact a_iret (pc := 34) hG hd dX12_pay_34
    refine a_aload_n (pc := 24) hG 0 rfl dX12_pay_24 rfl ?_
    refine a_iload_n (pc := 25) hG 1 rfl dX12_pay_25 rfl ?_
    refine a_iconst (pc := 26) hG dX12_pay_26 (v := (nI 0)) rfl ?_
    refine a_cvI (pc := 27) hG (As := [.int a0, .int (nI 0)]) (st := []) sm_0 cl_X12 mk_X12_payOf t_1929 (by omega) (fun z hz => c_M_payOf F a0 (nI 0) _  z hz) rfl (Nat.le_of_ble_eq_true rfl) hd dX12_pay_27 (fun r7 h6 hd => ?_)
    refine a_goto (pc := 30) hG (tgt := 34) dX12_pay_30 (by decide) ?_
    exact a_iret (pc := 34) hG hd dX12_pay_34
  refine a_iconst (pc := 13) hG dX12_pay_13 (v := (-1 : Int32)) rfl ?_
  exact a_iret (pc := 14) hG hd dX12_pay_14
theorem dX12_dies_0 : decode cX12_dies 0 = .ok (.aload_n 0, 1) := by decide +kernel
theorem dX12_dies_1 : decode cX12_dies 1 = .ok (.iconst 0, 1) := by decide +kernel
theorem dX12_dies_2 : decode cX12_dies 2 = .ok (.putfield 1, 3) := by decide +kernel
theorem dX12_dies_5 : decode cX12_dies 5 = .ok (.aload_n 0, 1) := by decide +kernel
theorem dX12_dies_6 : decode cX12_dies 6 = .ok (.iload_n 1, 1) := by decide +kernel
theorem dX12_dies_7 : decode cX12_dies 7 = .ok (.invokevirtual 255, 3) := by decide +kernel
theorem dX12_dies_10 : decode cX12_dies 10 = .ok (.ifCond .ne 5, 3) := by decide +kernel
theorem dX12_dies_13 : decode cX12_dies 13 = .ok (.iconst (-1), 1) := by decide +kernel
theorem dX12_dies_14 : decode cX12_dies 14 = .ok (.ireturn, 1) := by decide +kernel
theorem dX12_dies_15 : decode cX12_dies 15 = .ok (.aload_n 0, 1) := by decide +kernel
theorem dX12_dies_16 : decode cX12_dies 16 = .ok (.getfield 33, 3) := by decide +kernel
theorem dX12_dies_19 : decode cX12_dies 19 = .ok (.bipush 96, 2) := by decide +kernel
theorem dX12_dies_21 : decode cX12_dies 21 = .ok (.iload_n 1, 1) := by decide +kernel
theorem dX12_dies_22 : decode cX12_dies 22 = .ok (.iadd, 1) := by decide +kernel
theorem dX12_dies_23 : decode cX12_dies 23 = .ok (.iaload, 1) := by decide +kernel
theorem dX12_dies_24 : decode cX12_dies 24 = .ok (.tableswitch 58 0 4 #[36, 58, 46, 58, 56], 36) := by decide +kernel
theorem dX12_dies_60 : decode cX12_dies 60 = .ok (.aload_n 0, 1) := by decide +kernel
theorem dX12_dies_61 : decode cX12_dies 61 = .ok (.getfield 33, 3) := by decide +kernel
theorem dX12_dies_64 : decode cX12_dies 64 = .ok (.bipush 90, 2) := by decide +kernel
theorem dX12_dies_66 : decode cX12_dies 66 = .ok (.iload_n 1, 1) := by decide +kernel
theorem dX12_dies_67 : decode cX12_dies 67 = .ok (.iadd, 1) := by decide +kernel
theorem dX12_dies_68 : decode cX12_dies 68 = .ok (.iaload, 1) := by decide +kernel
theorem dX12_dies_69 : decode cX12_dies 69 = .ok (.ireturn, 1) := by decide +kernel
theorem dX12_dies_70 : decode cX12_dies 70 = .ok (.aload_n 0, 1) := by decide +kernel
theorem dX12_dies_71 : decode cX12_dies 71 = .ok (.getfield 33, 3) := by decide +kernel
theorem dX12_dies_74 : decode cX12_dies 74 = .ok (.bipush 90, 2) := by decide +kernel
theorem dX12_dies_76 : decode cX12_dies 76 = .ok (.iload_n 1, 1) := by decide +kernel
theorem dX12_dies_77 : decode cX12_dies 77 = .ok (.iadd, 1) := by decide +kernel
theorem dX12_dies_78 : decode cX12_dies 78 = .ok (.iaload, 1) := by decide +kernel
theorem dX12_dies_79 : decode cX12_dies 79 = .ok (.ireturn, 1) := by decide +kernel
theorem dX12_dies_80 : decode cX12_dies 80 = .ok (.iconst 0, 1) := by decide +kernel
theorem dX12_dies_81 : decode cX12_dies 81 = .ok (.ireturn, 1) := by decide +kernel
theorem dX12_dies_82 : decode cX12_dies 82 = .ok (.iconst (-1), 1) := by decide +kernel
theorem dX12_dies_83 : decode cX12_dies 83 = .ok (.ireturn, 1) := by decide +kernel
set_option maxHeartbeats 4000000 in
theorem c_M_dies {ad wad : Nat → Nat} (a0 : Int32) (h : HS)  (q : Int32 × HS) (hd : f_M_dies a0 h = some q) : Ctr SHm ad wad yX12_dies cX12_dies 2 (some .int) 3 [.ref (ad 0), .int a0] h (some (.int q.1), q.2) := by
  refine enter (own := RX12) (lv := [(0, .ref (ad 0)), (1, .int a0)]) (by decide +kernel) rfl (Nat.le_of_ble_eq_true rfl) rfl (fun Γ hG => ?_)
  unfold f_M_dies at hd
  refine a_aload_n (pc := 0) hG 0 rfl dX12_dies_0 rfl ?_
  refine a_iconst (pc := 1) hG dX12_dies_1 (v := (nI 0)) rfl ?_
  refine a_putI (pc := 2) hG sm_0 cl_X12 ok_X12 0 (by decide) rfl t_1609 rfl (ty := .int) rfl rfl rfl hd dX12_dies_2 (fun h1 hd => ?_)
  refine a_aload_n (pc := 5) hG 0 rfl dX12_dies_5 rfl ?_
  refine a_iload_n (pc := 6) hG 1 rfl dX12_dies_6 rfl ?_
  refine a_cvI (pc := 7) hG (As := [.int a0]) (st := []) sm_0 cl_X12 mk_X12_isCause t_1830 (by omega) (fun z hz => c_M_isCause a0 _  z hz) rfl (Nat.le_of_ble_eq_true rfl) hd dX12_dies_7 (fun r3 h2 hd => ?_)
  refine a_if_ne (pc := 10) hG (tgt := 15) hd dX12_dies_10 (by decide) (fun hd => ?_) (fun hd => ?_)
  · refine a_aload_n (pc := 15) hG 0 rfl dX12_dies_15 rfl ?_
    refine a_getR (pc := 16) hG sm_0 cl_X12 ok_X12 6 (by decide) rfl t_1615 dX12_dies_16 ?_
    refine a_bipush (pc := 19) hG dX12_dies_19 (v := (nI 96)) rfl ?_
    refine a_iload_n (pc := 21) hG 1 rfl dX12_dies_21 rfl ?_
    refine a_iadd (pc := 22) hG dX12_dies_22 ?_
    refine a_iald (pc := 23) hG sm_2 hd dX12_dies_23 (fun hd => ?_)
    refine a_tcase (pc := 24) hG ((nI 0)) (tgt := 60) hd dX12_dies_24 (by decide) (by decide) rfl (by decide) (fun hd => ?_) (fun n0 hd => ?_)
    · refine a_aload_n (pc := 60) hG 0 rfl dX12_dies_60 rfl ?_
      refine a_getR (pc := 61) hG sm_0 cl_X12 ok_X12 6 (by decide) rfl t_1615 dX12_dies_61 ?_
      refine a_bipush (pc := 64) hG dX12_dies_64 (v := (nI 90)) rfl ?_
      refine a_iload_n (pc := 66) hG 1 rfl dX12_dies_66 rfl ?_
      refine a_iadd (pc := 67) hG dX12_dies_67 ?_
      refine a_iald (pc := 68) hG sm_2 hd dX12_dies_68 (fun hd => ?_)
      exact a_iret (pc := 69) hG hd dX12_dies_69
    refine a_tcase (pc := 24) hG ((nI 1)) (tgt := 82) hd dX12_dies_24 (by decide) (by decide) rfl (by decide) (fun hd => ?_) (fun n1 hd => ?_)
    · refine a_iconst (pc := 82) hG dX12_dies_82 (v := (-1 : Int32)) rfl ?_
      exact a_iret (pc := 83) hG hd dX12_dies_83
    refine a_tcase (pc := 24) hG ((nI 2)) (tgt := 70) hd dX12_dies_24 (by decide) (by decide) rfl (by decide) (fun hd => ?_) (fun n2 hd => ?_)
    · refine a_aload_n (pc := 70) hG 0 rfl dX12_dies_70 rfl ?_
      refine a_getR (pc := 71) hG sm_0 cl_X12 ok_X12 6 (by decide) rfl t_1615 dX12_dies_71 ?_
      refine a_bipush (pc := 74) hG dX12_dies_74 (v := (nI 90)) rfl ?_
      refine a_iload_n (pc := 76) hG 1 rfl dX12_dies_76 rfl ?_
      refine a_iadd (pc := 77) hG dX12_dies_77 ?_
      refine a_iald (pc := 78) hG sm_2 hd dX12_dies_78 (fun hd => ?_)
      exact a_iret (pc := 79) hG hd dX12_dies_79
    refine a_tcase (pc := 24) hG ((nI 3)) (tgt := 82) hd dX12_dies_24 (by decide) (by decide) rfl (by decide) (fun hd => ?_) (fun n3 hd => ?_)
    · refine a_iconst (pc := 82) hG dX12_dies_82 (v := (-1 : Int32)) rfl ?_
      exact a_iret (pc := 83) hG hd dX12_dies_83
    refine a_tcase (pc := 24) hG ((nI 4)) (tgt := 80) hd dX12_dies_24 (by decide) (by decide) rfl (by decide) (fun hd => ?_) (fun n4 hd => ?_)
    · refine a_iconst (pc := 80) hG dX12_dies_80 (v := (nI 0)) rfl ?_
      exact a_iret (pc := 81) hG hd dX12_dies_81
    refine a_tdef (pc := 24) hG (tgt := 82) dX12_dies_24 (by have en0 := sw_ne (z := 0) rfl n0; have en1 := sw_ne (z := 1) rfl n1; have en2 := sw_ne (z := 2) rfl n2; have en3 := sw_ne (z := 3) rfl n3; have en4 := sw_ne (z := 4) rfl n4; omega) (by decide) ?_
    refine a_iconst (pc := 82) hG dX12_dies_82 (v := (-1 : Int32)) rfl ?_
    exact a_iret (pc := 83) hG hd dX12_dies_83
  refine a_iconst (pc := 13) hG dX12_dies_13 (v := (-1 : Int32)) rfl ?_
  exact a_iret (pc := 14) hG hd dX12_dies_14
theorem dX12_saddest_0 : decode cX12_saddest 0 = .ok (.aload_n 0, 1) := by decide +kernel
theorem dX12_saddest_1 : decode cX12_saddest 1 = .ok (.iconst 0, 1) := by decide +kernel
theorem dX12_saddest_2 : decode cX12_saddest 2 = .ok (.putfield 1, 3) := by decide +kernel
theorem dX12_saddest_5 : decode cX12_saddest 5 = .ok (.iconst (-1), 1) := by decide +kernel
theorem dX12_saddest_6 : decode cX12_saddest 6 = .ok (.istore_n 1, 1) := by decide +kernel
theorem dX12_saddest_7 : decode cX12_saddest 7 = .ok (.iconst 0, 1) := by decide +kernel
theorem dX12_saddest_8 : decode cX12_saddest 8 = .ok (.istore_n 2, 1) := by decide +kernel
theorem dX12_saddest_9 : decode cX12_saddest 9 = .ok (.iload_n 2, 1) := by decide +kernel
theorem dX12_saddest_10 : decode cX12_saddest 10 = .ok (.aload_n 0, 1) := by decide +kernel
theorem dX12_saddest_11 : decode cX12_saddest 11 = .ok (.getfield 33, 3) := by decide +kernel
theorem dX12_saddest_14 : decode cX12_saddest 14 = .ok (.iconst 0, 1) := by decide +kernel
theorem dX12_saddest_15 : decode cX12_saddest 15 = .ok (.iaload, 1) := by decide +kernel
theorem dX12_saddest_16 : decode cX12_saddest 16 = .ok (.if_icmp .ge 52, 3) := by decide +kernel
theorem dX12_saddest_19 : decode cX12_saddest 19 = .ok (.aload_n 0, 1) := by decide +kernel
theorem dX12_saddest_20 : decode cX12_saddest 20 = .ok (.getfield 33, 3) := by decide +kernel
theorem dX12_saddest_23 : decode cX12_saddest 23 = .ok (.bipush 96, 2) := by decide +kernel
theorem dX12_saddest_25 : decode cX12_saddest 25 = .ok (.iload_n 2, 1) := by decide +kernel
theorem dX12_saddest_26 : decode cX12_saddest 26 = .ok (.iadd, 1) := by decide +kernel
theorem dX12_saddest_27 : decode cX12_saddest 27 = .ok (.iaload, 1) := by decide +kernel
theorem dX12_saddest_28 : decode cX12_saddest 28 = .ok (.iconst 3, 1) := by decide +kernel
theorem dX12_saddest_29 : decode cX12_saddest 29 = .ok (.if_icmp .ge 33, 3) := by decide +kernel
theorem dX12_saddest_32 : decode cX12_saddest 32 = .ok (.aload_n 0, 1) := by decide +kernel
theorem dX12_saddest_33 : decode cX12_saddest 33 = .ok (.iload_n 2, 1) := by decide +kernel
theorem dX12_saddest_34 : decode cX12_saddest 34 = .ok (.iconst 0, 1) := by decide +kernel
theorem dX12_saddest_35 : decode cX12_saddest 35 = .ok (.invokevirtual 272, 3) := by decide +kernel
theorem dX12_saddest_38 : decode cX12_saddest 38 = .ok (.ifCond .eq 24, 3) := by decide +kernel
theorem dX12_saddest_41 : decode cX12_saddest 41 = .ok (.iload_n 1, 1) := by decide +kernel
theorem dX12_saddest_42 : decode cX12_saddest 42 = .ok (.ifCond .lt 18, 3) := by decide +kernel
theorem dX12_saddest_45 : decode cX12_saddest 45 = .ok (.aload_n 0, 1) := by decide +kernel
theorem dX12_saddest_46 : decode cX12_saddest 46 = .ok (.iload_n 2, 1) := by decide +kernel
theorem dX12_saddest_47 : decode cX12_saddest 47 = .ok (.iconst 0, 1) := by decide +kernel
theorem dX12_saddest_48 : decode cX12_saddest 48 = .ok (.invokevirtual 252, 3) := by decide +kernel
theorem dX12_saddest_51 : decode cX12_saddest 51 = .ok (.aload_n 0, 1) := by decide +kernel
theorem dX12_saddest_52 : decode cX12_saddest 52 = .ok (.iload_n 1, 1) := by decide +kernel
theorem dX12_saddest_53 : decode cX12_saddest 53 = .ok (.iconst 0, 1) := by decide +kernel
theorem dX12_saddest_54 : decode cX12_saddest 54 = .ok (.invokevirtual 252, 3) := by decide +kernel
theorem dX12_saddest_57 : decode cX12_saddest 57 = .ok (.if_icmp .le 5, 3) := by decide +kernel
theorem dX12_saddest_60 : decode cX12_saddest 60 = .ok (.iload_n 2, 1) := by decide +kernel
theorem dX12_saddest_61 : decode cX12_saddest 61 = .ok (.istore_n 1, 1) := by decide +kernel
theorem dX12_saddest_62 : decode cX12_saddest 62 = .ok (.iinc 2 1, 3) := by decide +kernel
theorem dX12_saddest_65 : decode cX12_saddest 65 = .ok (.goto (-56), 3) := by decide +kernel
theorem dX12_saddest_68 : decode cX12_saddest 68 = .ok (.iload_n 1, 1) := by decide +kernel
theorem dX12_saddest_69 : decode cX12_saddest 69 = .ok (.ireturn, 1) := by decide +kernel
set_option maxHeartbeats 4000000 in
theorem w_l_M_saddest_0 {ad wad : Nat → Nat} {Γ : Ctx} (F : Nat) {n : Nat} (hn : 6 ≤ n) (hG : Cx SHm ad wad cX12_saddest 3 RX12 (some .int) (n) Γ) {q : Int32 × HS} {g : Nat} {x1 : Int32} {x2 : Int32} {h : HS} (hd : l_M_saddest_0 F g x1 x2 h = some q) : AW SHm ad 3 (some (.int q.1), q.2) Γ 9 [(0, .ref (ad 0)), (1, .int x1), (2, .int x2)] [] h := by
  induction g generalizing x1 x2 h with
  | zero => unfold l_M_saddest_0 at hd; cases hd
  | succ g ih =>
    unfold l_M_saddest_0 at hd
    refine a_iload_n (pc := 9) hG 2 rfl dX12_saddest_9 rfl ?_
    refine a_aload_n (pc := 10) hG 0 rfl dX12_saddest_10 rfl ?_
    refine a_getR (pc := 11) hG sm_0 cl_X12 ok_X12 6 (by decide) rfl t_1615 dX12_saddest_11 ?_
    refine a_iconst (pc := 14) hG dX12_saddest_14 (v := (nI 0)) rfl ?_
    refine a_iald (pc := 15) hG sm_2 hd dX12_saddest_15 (fun hd => ?_)
    refine a_ic_ge (pc := 16) hG (tgt := 68) hd dX12_saddest_16 (by decide) (fun hd => ?_) (fun hd => ?_)
    · refine a_iload_n (pc := 68) hG 1 rfl dX12_saddest_68 rfl ?_
      exact a_iret (pc := 69) hG hd dX12_saddest_69
    refine a_aload_n (pc := 19) hG 0 rfl dX12_saddest_19 rfl ?_
    refine a_getR (pc := 20) hG sm_0 cl_X12 ok_X12 6 (by decide) rfl t_1615 dX12_saddest_20 ?_
    refine a_bipush (pc := 23) hG dX12_saddest_23 (v := (nI 96)) rfl ?_
    refine a_iload_n (pc := 25) hG 2 rfl dX12_saddest_25 rfl ?_
    refine a_iadd (pc := 26) hG dX12_saddest_26 ?_
    refine a_iald (pc := 27) hG sm_2 hd dX12_saddest_27 (fun hd => ?_)
    refine a_iconst (pc := 28) hG dX12_saddest_28 (v := (nI 3)) rfl ?_
    refine a_join hd (Q := fun J : Int32 → HS → Option (Int32 × HS) => ∀ (v5 : Int32) (h6 : HS), J v5 h6 = some q → AW SHm ad 3 (some (.int q.1), q.2) Γ 62 [(0, .ref (ad 0)), (1, .int v5), (2, .int x2)] [] h6) (fun v5 h6 hd => ?_) (fun J4 hJ4 hd => ?_)
    · refine a_iincN (pc := 62) hG (c0 := (nI 1)) 2 rfl hd dX12_saddest_62 rfl (by decide) (lf := fun x => [(2, .int x), (0, .ref (ad 0)), (1, .int v5)]) (fun _ => rfl) (fun v7 hd => ?_)
      refine a_goto (pc := 65) hG (tgt := 9) dX12_saddest_65 (by decide) ?_
      exact AW.sub [1, 2, 0] rfl (ih hd)
    refine a_ic_ge (pc := 29) hG (tgt := 62) hd dX12_saddest_29 (by decide) (fun hd => ?_) (fun hd => ?_)
    · exact AW.sub [0, 1, 2] rfl (hJ4 _ _ hd)
    refine a_aload_n (pc := 32) hG 0 rfl dX12_saddest_32 rfl ?_
    refine a_iload_n (pc := 33) hG 2 rfl dX12_saddest_33 rfl ?_
    refine a_iconst (pc := 34) hG dX12_saddest_34 (v := (nI 0)) rfl ?_
    refine a_cvI (pc := 35) hG (As := [.int x2, .int (nI 0)]) (st := []) sm_0 cl_X12 mk_X12_isSafe t_1889 (by omega) (fun z hz => c_M_isSafe F x2 (nI 0) _  z hz) rfl (Nat.le_of_ble_eq_true rfl) hd dX12_saddest_35 (fun r9 h8 hd => ?_)
    refine a_if_eq (pc := 38) hG (tgt := 62) hd dX12_saddest_38 (by decide) (fun hd => ?_) (fun hd => ?_)
    · exact AW.sub [0, 1, 2] rfl (hJ4 _ _ hd)
    refine a_iload_n (pc := 41) hG 1 rfl dX12_saddest_41 rfl ?_
    refine a_join hd (Q := fun J : HS → Option (Int32 × HS) => ∀  (h11 : HS), J  h11 = some q → AW SHm ad 3 (some (.int q.1), q.2) Γ 60 [(0, .ref (ad 0)), (2, .int x2)] [] h11) (fun  h11 hd => ?_) (fun J10 hJ10 hd => ?_)
    · refine a_iload_n (pc := 60) hG 1 rfl dX12_saddest_60 rfl ?_
      refine a_istore_nN (pc := 61) hG hd dX12_saddest_61 rfl (by decide) (lf := fun x => [(1, .int x), (0, .ref (ad 0)), (2, .int x2)]) (fun _ => rfl) (fun v12 hd => ?_)
      exact AW.sub [1, 0, 2] rfl (hJ4 _ _ hd)
    refine a_if_lt (pc := 42) hG (tgt := 60) hd dX12_saddest_42 (by decide) (fun hd => ?_) (fun hd => ?_)
    · exact AW.sub [0, 2] rfl (hJ10  _ hd)
    refine a_aload_n (pc := 45) hG 0 rfl dX12_saddest_45 rfl ?_
    refine a_iload_n (pc := 46) hG 2 rfl dX12_saddest_46 rfl ?_
    refine a_iconst (pc := 47) hG dX12_saddest_47 (v := (nI 0)) rfl ?_
    refine a_cvI (pc := 48) hG (As := [.int x2, .int (nI 0)]) (st := []) sm_0 cl_X12 mk_X12_nearOf t_1838 (by omega) (fun z hz => c_M_nearOf F x2 (nI 0) _  z hz) rfl (Nat.le_of_ble_eq_true rfl) hd dX12_saddest_48 (fun r14 h13 hd => ?_)
    refine a_aload_n (pc := 51) hG 0 rfl dX12_saddest_51 rfl ?_
    refine a_iload_n (pc := 52) hG 1 rfl dX12_saddest_52 rfl ?_
    refine a_iconst (pc := 53) hG dX12_saddest_53 (v := (nI 0)) rfl ?_
    refine a_cvI (pc := 54) hG (As := [.int x1, .int (nI 0)]) (st := [.int r14]) sm_0 cl_X12 mk_X12_nearOf t_1838 (by omega) (fun z hz => c_M_nearOf F x1 (nI 0) _  z hz) rfl (Nat.le_of_ble_eq_true rfl) hd dX12_saddest_54 (fun r16 h15 hd => ?_)
    refine a_ic_le (pc := 57) hG (tgt := 62) hd dX12_saddest_57 (by decide) (fun hd => ?_) (fun hd => ?_)
    · exact AW.sub [0, 1, 2] rfl (hJ4 _ _ hd)
    exact AW.sub [0, 2] rfl (hJ10  _ hd)
set_option maxHeartbeats 4000000 in
theorem c_M_saddest {ad wad : Nat → Nat} (F : Nat)  (h : HS)  (q : Int32 × HS) (hd : f_M_saddest F  h = some q) : Ctr SHm ad wad yX12_saddest cX12_saddest 3 (some .int) 6 [.ref (ad 0)] h (some (.int q.1), q.2) := by
  refine enter (own := RX12) (lv := [(0, .ref (ad 0))]) (by decide +kernel) rfl (Nat.le_of_ble_eq_true rfl) rfl (fun Γ hG => ?_)
  unfold f_M_saddest at hd
  refine a_aload_n (pc := 0) hG 0 rfl dX12_saddest_0 rfl ?_
  refine a_iconst (pc := 1) hG dX12_saddest_1 (v := (nI 0)) rfl ?_
  refine a_putI (pc := 2) hG sm_0 cl_X12 ok_X12 0 (by decide) rfl t_1609 rfl (ty := .int) rfl rfl rfl hd dX12_saddest_2 (fun h1 hd => ?_)
  refine a_iconst (pc := 5) hG dX12_saddest_5 (v := (-1 : Int32)) rfl ?_
  refine a_istore_nN (pc := 6) hG hd dX12_saddest_6 rfl (by decide) (lf := fun x => [(1, .int x), (0, .ref (ad 0))]) (fun _ => rfl) (fun v2 hd => ?_)
  refine a_iconst (pc := 7) hG dX12_saddest_7 (v := (nI 0)) rfl ?_
  refine a_istore_nN (pc := 8) hG hd dX12_saddest_8 rfl (by decide) (lf := fun x => [(2, .int x), (1, .int v2), (0, .ref (ad 0))]) (fun _ => rfl) (fun v3 hd => ?_)
  refine AW.sub [2, 1, 0] rfl ?_
  exact w_l_M_saddest_0 F (by omega) hG hd
theorem dX12_draw_0 : decode cX12_draw 0 = .ok (.aload_n 0, 1) := by decide +kernel
theorem dX12_draw_1 : decode cX12_draw 1 = .ok (.aload_n 0, 1) := by decide +kernel
theorem dX12_draw_2 : decode cX12_draw 2 = .ok (.getfield 369, 3) := by decide +kernel
theorem dX12_draw_5 : decode cX12_draw 5 = .ok (.ldc_w 372, 3) := by decide +kernel
theorem dX12_draw_8 : decode cX12_draw 8 = .ok (.imul, 1) := by decide +kernel
theorem dX12_draw_9 : decode cX12_draw 9 = .ok (.sipush 12345, 3) := by decide +kernel
theorem dX12_draw_12 : decode cX12_draw 12 = .ok (.iadd, 1) := by decide +kernel
theorem dX12_draw_13 : decode cX12_draw 13 = .ok (.putfield 369, 3) := by decide +kernel
theorem dX12_draw_16 : decode cX12_draw 16 = .ok (.aload_n 0, 1) := by decide +kernel
theorem dX12_draw_17 : decode cX12_draw 17 = .ok (.getfield 369, 3) := by decide +kernel
theorem dX12_draw_20 : decode cX12_draw 20 = .ok (.bipush 8, 2) := by decide +kernel
theorem dX12_draw_22 : decode cX12_draw 22 = .ok (.iushr, 1) := by decide +kernel
theorem dX12_draw_23 : decode cX12_draw 23 = .ok (.iload_n 1, 1) := by decide +kernel
theorem dX12_draw_24 : decode cX12_draw 24 = .ok (.irem, 1) := by decide +kernel
theorem dX12_draw_25 : decode cX12_draw 25 = .ok (.ireturn, 1) := by decide +kernel
set_option maxHeartbeats 4000000 in
theorem c_M_draw {ad wad : Nat → Nat} (a0 : Int32) (h : HS)  (q : Int32 × HS) (hd : f_M_draw a0 h = some q) : Ctr SHm ad wad yX12_draw cX12_draw 2 (some .int) 1 [.ref (ad 0), .int a0] h (some (.int q.1), q.2) := by
  refine enter (own := RX12) (lv := [(0, .ref (ad 0)), (1, .int a0)]) (by decide +kernel) rfl (Nat.le_of_ble_eq_true rfl) rfl (fun Γ hG => ?_)
  unfold f_M_draw at hd
  refine a_aload_n (pc := 0) hG 0 rfl dX12_draw_0 rfl ?_
  refine a_aload_n (pc := 1) hG 0 rfl dX12_draw_1 rfl ?_
  refine a_getI (pc := 2) hG sm_0 cl_X12 ok_X12 31 (by decide) rfl t_1640 dX12_draw_2 ?_
  refine a_ldc_w (pc := 5) hG (v := (nI 1103515245)) t_2104 dX12_draw_5 ?_
  refine a_imul (pc := 8) hG dX12_draw_8 ?_
  refine a_sipush (pc := 9) hG dX12_draw_9 (v := (nI 12345)) rfl ?_
  refine a_iadd (pc := 12) hG dX12_draw_12 ?_
  refine a_putI (pc := 13) hG sm_0 cl_X12 ok_X12 31 (by decide) rfl t_1640 rfl (ty := .int) rfl rfl rfl hd dX12_draw_13 (fun h1 hd => ?_)
  refine a_aload_n (pc := 16) hG 0 rfl dX12_draw_16 rfl ?_
  refine a_getI (pc := 17) hG sm_0 cl_X12 ok_X12 31 (by decide) rfl t_1640 dX12_draw_17 ?_
  refine a_bipush (pc := 20) hG dX12_draw_20 (v := (nI 8)) rfl ?_
  refine a_iushr (pc := 22) hG dX12_draw_22 ?_
  refine a_iload_n (pc := 23) hG 1 rfl dX12_draw_23 rfl ?_
  refine a_irem (pc := 24) hG hd dX12_draw_24 (fun hd => ?_)
  exact a_iret (pc := 25) hG hd dX12_draw_25
theorem dX12_draws_0 : decode cX12_draws 0 = .ok (.aload_n 0, 1) := by decide +kernel
theorem dX12_draws_1 : decode cX12_draws 1 = .ok (.iload_n 2, 1) := by decide +kernel
theorem dX12_draws_2 : decode cX12_draws 2 = .ok (.putfield 369, 3) := by decide +kernel
theorem dX12_draws_5 : decode cX12_draws 5 = .ok (.iconst 0, 1) := by decide +kernel
theorem dX12_draws_6 : decode cX12_draws 6 = .ok (.istore_n 3, 1) := by decide +kernel
theorem dX12_draws_7 : decode cX12_draws 7 = .ok (.iload_n 3, 1) := by decide +kernel
theorem dX12_draws_8 : decode cX12_draws 8 = .ok (.iload_n 1, 1) := by decide +kernel
theorem dX12_draws_9 : decode cX12_draws 9 = .ok (.if_icmp .ge 171, 3) := by decide +kernel
theorem dX12_draws_12 : decode cX12_draws 12 = .ok (.aload_n 0, 1) := by decide +kernel
theorem dX12_draws_13 : decode cX12_draws 13 = .ok (.getfield 33, 3) := by decide +kernel
theorem dX12_draws_16 : decode cX12_draws 16 = .ok (.bipush 72, 2) := by decide +kernel
theorem dX12_draws_18 : decode cX12_draws 18 = .ok (.iaload, 1) := by decide +kernel
theorem dX12_draws_19 : decode cX12_draws 19 = .ok (.sipush 200, 3) := by decide +kernel
theorem dX12_draws_22 : decode cX12_draws 22 = .ok (.if_icmp .ge 158, 3) := by decide +kernel
theorem dX12_draws_25 : decode cX12_draws 25 = .ok (.iconst 0, 1) := by decide +kernel
theorem dX12_draws_26 : decode cX12_draws 26 = .ok (.istore 4, 2) := by decide +kernel
theorem dX12_draws_28 : decode cX12_draws 28 = .ok (.iload 4, 2) := by decide +kernel
theorem dX12_draws_30 : decode cX12_draws 30 = .ok (.aload_n 0, 1) := by decide +kernel
theorem dX12_draws_31 : decode cX12_draws 31 = .ok (.getfield 33, 3) := by decide +kernel
theorem dX12_draws_34 : decode cX12_draws 34 = .ok (.iconst 2, 1) := by decide +kernel
theorem dX12_draws_35 : decode cX12_draws 35 = .ok (.iaload, 1) := by decide +kernel
theorem dX12_draws_36 : decode cX12_draws 36 = .ok (.if_icmp .ge 134, 3) := by decide +kernel
theorem dX12_draws_39 : decode cX12_draws 39 = .ok (.aload_n 0, 1) := by decide +kernel
theorem dX12_draws_40 : decode cX12_draws 40 = .ok (.iconst 3, 1) := by decide +kernel
theorem dX12_draws_41 : decode cX12_draws 41 = .ok (.invokevirtual 373, 3) := by decide +kernel
theorem dX12_draws_44 : decode cX12_draws 44 = .ok (.istore 5, 2) := by decide +kernel
theorem dX12_draws_46 : decode cX12_draws 46 = .ok (.iload 5, 2) := by decide +kernel
theorem dX12_draws_48 : decode cX12_draws 48 = .ok (.ifCond .ne 46, 3) := by decide +kernel
theorem dX12_draws_51 : decode cX12_draws 51 = .ok (.aload_n 0, 1) := by decide +kernel
theorem dX12_draws_52 : decode cX12_draws 52 = .ok (.getfield 33, 3) := by decide +kernel
theorem dX12_draws_55 : decode cX12_draws 55 = .ok (.iconst 0, 1) := by decide +kernel
theorem dX12_draws_56 : decode cX12_draws 56 = .ok (.iaload, 1) := by decide +kernel
theorem dX12_draws_57 : decode cX12_draws 57 = .ok (.ifCond .le 37, 3) := by decide +kernel
theorem dX12_draws_60 : decode cX12_draws 60 = .ok (.aload_n 0, 1) := by decide +kernel
theorem dX12_draws_61 : decode cX12_draws 61 = .ok (.aload_n 0, 1) := by decide +kernel
theorem dX12_draws_62 : decode cX12_draws 62 = .ok (.getfield 33, 3) := by decide +kernel
theorem dX12_draws_65 : decode cX12_draws 65 = .ok (.iconst 0, 1) := by decide +kernel
theorem dX12_draws_66 : decode cX12_draws 66 = .ok (.iaload, 1) := by decide +kernel
theorem dX12_draws_67 : decode cX12_draws 67 = .ok (.invokevirtual 373, 3) := by decide +kernel
theorem dX12_draws_70 : decode cX12_draws 70 = .ok (.istore 6, 2) := by decide +kernel
theorem dX12_draws_72 : decode cX12_draws 72 = .ok (.aload_n 0, 1) := by decide +kernel
theorem dX12_draws_73 : decode cX12_draws 73 = .ok (.iload 4, 2) := by decide +kernel
theorem dX12_draws_75 : decode cX12_draws 75 = .ok (.iload 6, 2) := by decide +kernel
theorem dX12_draws_77 : decode cX12_draws 77 = .ok (.invokevirtual 278, 3) := by decide +kernel
theorem dX12_draws_80 : decode cX12_draws 80 = .ok (.ifCond .ne 11, 3) := by decide +kernel
theorem dX12_draws_83 : decode cX12_draws 83 = .ok (.aload_n 0, 1) := by decide +kernel
theorem dX12_draws_84 : decode cX12_draws 84 = .ok (.iload 4, 2) := by decide +kernel
theorem dX12_draws_86 : decode cX12_draws 86 = .ok (.iload 6, 2) := by decide +kernel
theorem dX12_draws_88 : decode cX12_draws 88 = .ok (.invokevirtual 284, 3) := by decide +kernel
theorem dX12_draws_91 : decode cX12_draws 91 = .ok (.goto 73, 3) := by decide +kernel
theorem dX12_draws_94 : decode cX12_draws 94 = .ok (.iload 5, 2) := by decide +kernel
theorem dX12_draws_96 : decode cX12_draws 96 = .ok (.iconst 1, 1) := by decide +kernel
theorem dX12_draws_97 : decode cX12_draws 97 = .ok (.if_icmp .ne 46, 3) := by decide +kernel
theorem dX12_draws_100 : decode cX12_draws 100 = .ok (.aload_n 0, 1) := by decide +kernel
theorem dX12_draws_101 : decode cX12_draws 101 = .ok (.getfield 33, 3) := by decide +kernel
theorem dX12_draws_104 : decode cX12_draws 104 = .ok (.iconst 1, 1) := by decide +kernel
theorem dX12_draws_105 : decode cX12_draws 105 = .ok (.iaload, 1) := by decide +kernel
theorem dX12_draws_106 : decode cX12_draws 106 = .ok (.ifCond .le 37, 3) := by decide +kernel
theorem dX12_draws_109 : decode cX12_draws 109 = .ok (.aload_n 0, 1) := by decide +kernel
theorem dX12_draws_110 : decode cX12_draws 110 = .ok (.aload_n 0, 1) := by decide +kernel
theorem dX12_draws_111 : decode cX12_draws 111 = .ok (.getfield 33, 3) := by decide +kernel
theorem dX12_draws_114 : decode cX12_draws 114 = .ok (.iconst 1, 1) := by decide +kernel
theorem dX12_draws_115 : decode cX12_draws 115 = .ok (.iaload, 1) := by decide +kernel
theorem dX12_draws_116 : decode cX12_draws 116 = .ok (.invokevirtual 373, 3) := by decide +kernel
theorem dX12_draws_119 : decode cX12_draws 119 = .ok (.istore 6, 2) := by decide +kernel
theorem dX12_draws_121 : decode cX12_draws 121 = .ok (.aload_n 0, 1) := by decide +kernel
theorem dX12_draws_122 : decode cX12_draws 122 = .ok (.iload 4, 2) := by decide +kernel
theorem dX12_draws_124 : decode cX12_draws 124 = .ok (.iload 6, 2) := by decide +kernel
theorem dX12_draws_126 : decode cX12_draws 126 = .ok (.invokevirtual 288, 3) := by decide +kernel
theorem dX12_draws_129 : decode cX12_draws 129 = .ok (.ifCond .ne 11, 3) := by decide +kernel
theorem dX12_draws_132 : decode cX12_draws 132 = .ok (.aload_n 0, 1) := by decide +kernel
theorem dX12_draws_133 : decode cX12_draws 133 = .ok (.iload 4, 2) := by decide +kernel
theorem dX12_draws_135 : decode cX12_draws 135 = .ok (.iload 6, 2) := by decide +kernel
theorem dX12_draws_137 : decode cX12_draws 137 = .ok (.invokevirtual 291, 3) := by decide +kernel
theorem dX12_draws_140 : decode cX12_draws 140 = .ok (.goto 24, 3) := by decide +kernel
theorem dX12_draws_143 : decode cX12_draws 143 = .ok (.iload 5, 2) := by decide +kernel
theorem dX12_draws_145 : decode cX12_draws 145 = .ok (.iconst 2, 1) := by decide +kernel
theorem dX12_draws_146 : decode cX12_draws 146 = .ok (.if_icmp .ne 18, 3) := by decide +kernel
theorem dX12_draws_149 : decode cX12_draws 149 = .ok (.aload_n 0, 1) := by decide +kernel
theorem dX12_draws_150 : decode cX12_draws 150 = .ok (.iload 4, 2) := by decide +kernel
theorem dX12_draws_152 : decode cX12_draws 152 = .ok (.invokevirtual 294, 3) := by decide +kernel
theorem dX12_draws_155 : decode cX12_draws 155 = .ok (.ifCond .ne 9, 3) := by decide +kernel
theorem dX12_draws_158 : decode cX12_draws 158 = .ok (.aload_n 0, 1) := by decide +kernel
theorem dX12_draws_159 : decode cX12_draws 159 = .ok (.iload 4, 2) := by decide +kernel
theorem dX12_draws_161 : decode cX12_draws 161 = .ok (.invokevirtual 298, 3) := by decide +kernel
theorem dX12_draws_164 : decode cX12_draws 164 = .ok (.iinc 4 1, 3) := by decide +kernel
theorem dX12_draws_167 : decode cX12_draws 167 = .ok (.goto (-139), 3) := by decide +kernel
theorem dX12_draws_170 : decode cX12_draws 170 = .ok (.aload_n 0, 1) := by decide +kernel
theorem dX12_draws_171 : decode cX12_draws 171 = .ok (.invokevirtual 307, 3) := by decide +kernel
theorem dX12_draws_174 : decode cX12_draws 174 = .ok (.iinc 3 1, 3) := by decide +kernel
theorem dX12_draws_177 : decode cX12_draws 177 = .ok (.goto (-170), 3) := by decide +kernel
theorem dX12_draws_180 : decode cX12_draws 180 = .ok (.iload_n 3, 1) := by decide +kernel
theorem dX12_draws_181 : decode cX12_draws 181 = .ok (.ireturn, 1) := by decide +kernel
set_option maxHeartbeats 4000000 in
theorem w_l_M_draws_1 {ad wad : Nat → Nat} {Γ : Ctx} (F : Nat) {n : Nat} (hn : 8 ≤ n) (hG : Cx SHm ad wad cX12_draws 7 RX12 (some .int) (n) Γ) {q : Int32 × HS} {x1 : Int32} {x3 : Int32} {K0 : HS → Option (Int32 × HS)} {g : Nat} {x4 : Int32} {h : HS} (hd : l_M_draws_1 F x1 x3 K0 g x4 h = some q) (hK0 : ∀ (z : HS), K0 z = some q → AW SHm ad 7 (some (.int q.1), q.2) Γ 170 [(0, .ref (ad 0)), (1, .int x1), (3, .int x3)] [] z) : AW SHm ad 7 (some (.int q.1), q.2) Γ 28 [(0, .ref (ad 0)), (1, .int x1), (3, .int x3), (4, .int x4)] [] h := by
  induction g generalizing x4 h with
  | zero => unfold l_M_draws_1 at hd; cases hd
  | succ g ih =>
    unfold l_M_draws_1 at hd
    refine a_iload (pc := 28) hG 3 rfl dX12_draws_28 ?_
    refine a_aload_n (pc := 30) hG 0 rfl dX12_draws_30 rfl ?_
    refine a_getR (pc := 31) hG sm_0 cl_X12 ok_X12 6 (by decide) rfl t_1615 dX12_draws_31 ?_
    refine a_iconst (pc := 34) hG dX12_draws_34 (v := (nI 2)) rfl ?_
    refine a_iald (pc := 35) hG sm_2 hd dX12_draws_35 (fun hd => ?_)
    refine a_ic_ge (pc := 36) hG (tgt := 170) hd dX12_draws_36 (by decide) (fun hd => ?_) (fun hd => ?_)
    · exact AW.sub [0, 1, 2] rfl (hK0  _ hd)
    refine a_aload_n (pc := 39) hG 0 rfl dX12_draws_39 rfl ?_
    refine a_iconst (pc := 40) hG dX12_draws_40 (v := (nI 3)) rfl ?_
    refine a_cvI (pc := 41) hG (As := [.int (nI 3)]) (st := []) sm_0 cl_X12 mk_X12_draw t_2100 (by omega) (fun z hz => c_M_draw (nI 3) _  z hz) rfl (Nat.le_of_ble_eq_true rfl) hd dX12_draws_41 (fun r5 h4 hd => ?_)
    refine a_istoreN (pc := 44) hG hd dX12_draws_44 (by decide) (lf := fun x => [(5, .int x), (0, .ref (ad 0)), (1, .int x1), (3, .int x3), (4, .int x4)]) (fun _ => rfl) (fun v6 hd => ?_)
    refine a_iload (pc := 46) hG 0 rfl dX12_draws_46 ?_
    refine a_join hd (Q := fun J : HS → Option (Int32 × HS) => ∀  (h8 : HS), J  h8 = some q → AW SHm ad 7 (some (.int q.1), q.2) Γ 164 [(0, .ref (ad 0)), (1, .int x1), (3, .int x3), (4, .int x4)] [] h8) (fun  h8 hd => ?_) (fun J7 hJ7 hd => ?_)
    · refine a_iincN (pc := 164) hG (c0 := (nI 1)) 3 rfl hd dX12_draws_164 rfl (by decide) (lf := fun x => [(4, .int x), (0, .ref (ad 0)), (1, .int x1), (3, .int x3)]) (fun _ => rfl) (fun v9 hd => ?_)
      refine a_goto (pc := 167) hG (tgt := 28) dX12_draws_167 (by decide) ?_
      exact AW.sub [1, 2, 3, 0] rfl (ih hd)
    refine a_join hd (Q := fun J : HS → Option (Int32 × HS) => ∀  (h11 : HS), J  h11 = some q → AW SHm ad 7 (some (.int q.1), q.2) Γ 94 [(0, .ref (ad 0)), (1, .int x1), (3, .int x3), (4, .int x4), (5, .int v6)] [] h11) (fun  h11 hd => ?_) (fun J10 hJ10 hd => ?_)
    · refine a_iload (pc := 94) hG 4 rfl dX12_draws_94 ?_
      refine a_iconst (pc := 96) hG dX12_draws_96 (v := (nI 1)) rfl ?_
      refine a_join hd (Q := fun J : HS → Option (Int32 × HS) => ∀  (h13 : HS), J  h13 = some q → AW SHm ad 7 (some (.int q.1), q.2) Γ 143 [(0, .ref (ad 0)), (1, .int x1), (3, .int x3), (4, .int x4), (5, .int v6)] [] h13) (fun  h13 hd => ?_) (fun J12 hJ12 hd => ?_)
      · refine a_iload (pc := 143) hG 4 rfl dX12_draws_143 ?_
        refine a_iconst (pc := 145) hG dX12_draws_145 (v := (nI 2)) rfl ?_
        refine a_ic_ne (pc := 146) hG (tgt := 164) hd dX12_draws_146 (by decide) (fun hd => ?_) (fun hd => ?_)
        · exact AW.sub [0, 1, 2, 3] rfl (hJ7  _ hd)
        refine a_aload_n (pc := 149) hG 0 rfl dX12_draws_149 rfl ?_
        refine a_iload (pc := 150) hG 3 rfl dX12_draws_150 ?_
        refine a_cvI (pc := 152) hG (As := [.int x4]) (st := []) sm_0 cl_X12 mk_X12_whyDrop t_1921 (by omega) (fun z hz => c_M_whyDrop x4 _  z hz) rfl (Nat.le_of_ble_eq_true rfl) hd dX12_draws_152 (fun r15 h14 hd => ?_)
        refine a_if_ne (pc := 155) hG (tgt := 164) hd dX12_draws_155 (by decide) (fun hd => ?_) (fun hd => ?_)
        · exact AW.sub [0, 1, 2, 3] rfl (hJ7  _ hd)
        refine a_aload_n (pc := 158) hG 0 rfl dX12_draws_158 rfl ?_
        refine a_iload (pc := 159) hG 3 rfl dX12_draws_159 ?_
        refine a_cvN (pc := 161) hG (As := [.int x4]) (st := []) sm_0 cl_X12 mk_X12_dropping t_1925 (by omega) (fun z hz => c_M_dropping F x4 _  z hz) rfl (Nat.le_of_ble_eq_true rfl) hd dX12_draws_161 (fun _ h16 hd => ?_)
        exact AW.sub [0, 1, 2, 3] rfl (hJ7  _ hd)
      refine a_ic_ne (pc := 97) hG (tgt := 143) hd dX12_draws_97 (by decide) (fun hd => ?_) (fun hd => ?_)
      · exact AW.sub [0, 1, 2, 3, 4] rfl (hJ12  _ hd)
      refine a_aload_n (pc := 100) hG 0 rfl dX12_draws_100 rfl ?_
      refine a_getR (pc := 101) hG sm_0 cl_X12 ok_X12 6 (by decide) rfl t_1615 dX12_draws_101 ?_
      refine a_iconst (pc := 104) hG dX12_draws_104 (v := (nI 1)) rfl ?_
      refine a_iald (pc := 105) hG sm_2 hd dX12_draws_105 (fun hd => ?_)
      refine a_if_le (pc := 106) hG (tgt := 143) hd dX12_draws_106 (by decide) (fun hd => ?_) (fun hd => ?_)
      · exact AW.sub [0, 1, 2, 3, 4] rfl (hJ12  _ hd)
      refine a_aload_n (pc := 109) hG 0 rfl dX12_draws_109 rfl ?_
      refine a_aload_n (pc := 110) hG 0 rfl dX12_draws_110 rfl ?_
      refine a_getR (pc := 111) hG sm_0 cl_X12 ok_X12 6 (by decide) rfl t_1615 dX12_draws_111 ?_
      refine a_iconst (pc := 114) hG dX12_draws_114 (v := (nI 1)) rfl ?_
      refine a_iald (pc := 115) hG sm_2 hd dX12_draws_115 (fun hd => ?_)
      refine a_cvI (pc := 116) hG (As := [.int (h11.1 2 (nI 1).toNatClampNeg)]) (st := []) sm_0 cl_X12 mk_X12_draw t_2100 (by omega) (fun z hz => c_M_draw (h11.1 2 (nI 1).toNatClampNeg) _  z hz) rfl (Nat.le_of_ble_eq_true rfl) hd dX12_draws_116 (fun r18 h17 hd => ?_)
      refine a_istoreN (pc := 119) hG hd dX12_draws_119 (by decide) (lf := fun x => [(6, .int x), (0, .ref (ad 0)), (1, .int x1), (3, .int x3), (4, .int x4), (5, .int v6)]) (fun _ => rfl) (fun v19 hd => ?_)
      refine a_aload_n (pc := 121) hG 1 rfl dX12_draws_121 rfl ?_
      refine a_iload (pc := 122) hG 4 rfl dX12_draws_122 ?_
      refine a_iload (pc := 124) hG 0 rfl dX12_draws_124 ?_
      refine a_cvI (pc := 126) hG (As := [.int x4, .int v19]) (st := []) sm_0 cl_X12 mk_X12_whyAct t_1909 (by omega) (fun z hz => c_M_whyAct x4 v19 _  z hz) rfl (Nat.le_of_ble_eq_true rfl) hd dX12_draws_126 (fun r21 h20 hd => ?_)
      refine a_join hd (Q := fun J : HS → Option (Int32 × HS) => ∀  (h23 : HS), J  h23 = some q → AW SHm ad 7 (some (.int q.1), q.2) Γ 140 [(0, .ref (ad 0)), (1, .int x1), (3, .int x3), (4, .int x4)] [] h23) (fun  h23 hd => ?_) (fun J22 hJ22 hd => ?_)
      · refine a_goto (pc := 140) hG (tgt := 164) dX12_draws_140 (by decide) ?_
        exact AW.sub [0, 1, 2, 3] rfl (hJ7  _ hd)
      refine a_if_ne (pc := 129) hG (tgt := 140) hd dX12_draws_129 (by decide) (fun hd => ?_) (fun hd => ?_)
      · exact AW.sub [1, 2, 3, 4] rfl (hJ22  _ hd)
      refine a_aload_n (pc := 132) hG 1 rfl dX12_draws_132 rfl ?_
      refine a_iload (pc := 133) hG 4 rfl dX12_draws_133 ?_
      refine a_iload (pc := 135) hG 0 rfl dX12_draws_135 ?_
      refine a_cvN (pc := 137) hG (As := [.int x4, .int v19]) (st := []) sm_0 cl_X12 mk_X12_acting t_1913 (by omega) (fun z hz => c_M_acting x4 v19 _  z hz) rfl (Nat.le_of_ble_eq_true rfl) hd dX12_draws_137 (fun _ h24 hd => ?_)
      exact AW.sub [1, 2, 3, 4] rfl (hJ22  _ hd)
    refine a_if_ne (pc := 48) hG (tgt := 94) hd dX12_draws_48 (by decide) (fun hd => ?_) (fun hd => ?_)
    · exact AW.sub [1, 2, 3, 4, 0] rfl (hJ10  _ hd)
    refine a_aload_n (pc := 51) hG 1 rfl dX12_draws_51 rfl ?_
    refine a_getR (pc := 52) hG sm_0 cl_X12 ok_X12 6 (by decide) rfl t_1615 dX12_draws_52 ?_
    refine a_iconst (pc := 55) hG dX12_draws_55 (v := (nI 0)) rfl ?_
    refine a_iald (pc := 56) hG sm_2 hd dX12_draws_56 (fun hd => ?_)
    refine a_if_le (pc := 57) hG (tgt := 94) hd dX12_draws_57 (by decide) (fun hd => ?_) (fun hd => ?_)
    · exact AW.sub [1, 2, 3, 4, 0] rfl (hJ10  _ hd)
    refine a_aload_n (pc := 60) hG 1 rfl dX12_draws_60 rfl ?_
    refine a_aload_n (pc := 61) hG 1 rfl dX12_draws_61 rfl ?_
    refine a_getR (pc := 62) hG sm_0 cl_X12 ok_X12 6 (by decide) rfl t_1615 dX12_draws_62 ?_
    refine a_iconst (pc := 65) hG dX12_draws_65 (v := (nI 0)) rfl ?_
    refine a_iald (pc := 66) hG sm_2 hd dX12_draws_66 (fun hd => ?_)
    refine a_cvI (pc := 67) hG (As := [.int (h4.1 2 (nI 0).toNatClampNeg)]) (st := []) sm_0 cl_X12 mk_X12_draw t_2100 (by omega) (fun z hz => c_M_draw (h4.1 2 (nI 0).toNatClampNeg) _  z hz) rfl (Nat.le_of_ble_eq_true rfl) hd dX12_draws_67 (fun r26 h25 hd => ?_)
    refine a_istoreN (pc := 70) hG hd dX12_draws_70 (by decide) (lf := fun x => [(6, .int x), (5, .int v6), (0, .ref (ad 0)), (1, .int x1), (3, .int x3), (4, .int x4)]) (fun _ => rfl) (fun v27 hd => ?_)
    refine a_aload_n (pc := 72) hG 2 rfl dX12_draws_72 rfl ?_
    refine a_iload (pc := 73) hG 5 rfl dX12_draws_73 ?_
    refine a_iload (pc := 75) hG 0 rfl dX12_draws_75 ?_
    refine a_cvI (pc := 77) hG (As := [.int x4, .int v27]) (st := []) sm_0 cl_X12 mk_X12_whyTake t_1885 (by omega) (fun z hz => c_M_whyTake F x4 v27 _  z hz) rfl (Nat.le_of_ble_eq_true rfl) hd dX12_draws_77 (fun r29 h28 hd => ?_)
    refine a_join hd (Q := fun J : HS → Option (Int32 × HS) => ∀  (h31 : HS), J  h31 = some q → AW SHm ad 7 (some (.int q.1), q.2) Γ 91 [(0, .ref (ad 0)), (1, .int x1), (3, .int x3), (4, .int x4)] [] h31) (fun  h31 hd => ?_) (fun J30 hJ30 hd => ?_)
    · refine a_goto (pc := 91) hG (tgt := 164) dX12_draws_91 (by decide) ?_
      exact AW.sub [0, 1, 2, 3] rfl (hJ7  _ hd)
    refine a_if_ne (pc := 80) hG (tgt := 91) hd dX12_draws_80 (by decide) (fun hd => ?_) (fun hd => ?_)
    · exact AW.sub [2, 3, 4, 5] rfl (hJ30  _ hd)
    refine a_aload_n (pc := 83) hG 2 rfl dX12_draws_83 rfl ?_
    refine a_iload (pc := 84) hG 5 rfl dX12_draws_84 ?_
    refine a_iload (pc := 86) hG 0 rfl dX12_draws_86 ?_
    refine a_cvN (pc := 88) hG (As := [.int x4, .int v27]) (st := []) sm_0 cl_X12 mk_X12_taking t_1901 (by omega) (fun z hz => c_M_taking x4 v27 _  z hz) rfl (Nat.le_of_ble_eq_true rfl) hd dX12_draws_88 (fun _ h32 hd => ?_)
    exact AW.sub [2, 3, 4, 5] rfl (hJ30  _ hd)
set_option maxHeartbeats 4000000 in
theorem w_l_M_draws_0 {ad wad : Nat → Nat} {Γ : Ctx} (F : Nat) {n : Nat} (hn : 8 ≤ n) (hG : Cx SHm ad wad cX12_draws 7 RX12 (some .int) (n) Γ) {q : Int32 × HS} {x1 : Int32} {g : Nat} {x3 : Int32} {h : HS} (hd : l_M_draws_0 F x1 g x3 h = some q) : AW SHm ad 7 (some (.int q.1), q.2) Γ 7 [(0, .ref (ad 0)), (1, .int x1), (3, .int x3)] [] h := by
  induction g generalizing x3 h with
  | zero => unfold l_M_draws_0 at hd; cases hd
  | succ g ih =>
    unfold l_M_draws_0 at hd
    refine a_iload_n (pc := 7) hG 2 rfl dX12_draws_7 rfl ?_
    refine a_iload_n (pc := 8) hG 1 rfl dX12_draws_8 rfl ?_
    refine a_ic_ge (pc := 9) hG (tgt := 180) hd dX12_draws_9 (by decide) (fun hd => ?_) (fun hd => ?_)
    · refine a_iload_n (pc := 180) hG 2 rfl dX12_draws_180 rfl ?_
      exact a_iret (pc := 181) hG hd dX12_draws_181
    refine a_aload_n (pc := 12) hG 0 rfl dX12_draws_12 rfl ?_
    refine a_getR (pc := 13) hG sm_0 cl_X12 ok_X12 6 (by decide) rfl t_1615 dX12_draws_13 ?_
    refine a_bipush (pc := 16) hG dX12_draws_16 (v := (nI 72)) rfl ?_
    refine a_iald (pc := 18) hG sm_2 hd dX12_draws_18 (fun hd => ?_)
    refine a_sipush (pc := 19) hG dX12_draws_19 (v := (nI 200)) rfl ?_
    refine a_ic_ge (pc := 22) hG (tgt := 180) hd dX12_draws_22 (by decide) (fun hd => ?_) (fun hd => ?_)
    · refine a_iload_n (pc := 180) hG 2 rfl dX12_draws_180 rfl ?_
      exact a_iret (pc := 181) hG hd dX12_draws_181
    refine a_iconst (pc := 25) hG dX12_draws_25 (v := (nI 0)) rfl ?_
    refine a_istoreN (pc := 26) hG hd dX12_draws_26 (by decide) (lf := fun x => [(4, .int x), (0, .ref (ad 0)), (1, .int x1), (3, .int x3)]) (fun _ => rfl) (fun v3 hd => ?_)
    refine AW.sub [1, 2, 3, 0] rfl ?_
    refine w_l_M_draws_1 F (by omega) hG hd (fun h33 hd => ?_)
    refine a_aload_n (pc := 170) hG 0 rfl dX12_draws_170 rfl ?_
    refine a_cvN (pc := 171) hG (As := []) (st := []) sm_0 cl_X12 mk_X12_week t_1940 (by omega) (fun z hz => c_M_week F  _  z hz) rfl (Nat.le_of_ble_eq_true rfl) hd dX12_draws_171 (fun _ h34 hd => ?_)
    refine a_iincN (pc := 174) hG (c0 := (nI 1)) 2 rfl hd dX12_draws_174 rfl (by decide) (lf := fun x => [(3, .int x), (0, .ref (ad 0)), (1, .int x1)]) (fun _ => rfl) (fun v35 hd => ?_)
    refine a_goto (pc := 177) hG (tgt := 7) dX12_draws_177 (by decide) ?_
    exact AW.sub [1, 2, 0] rfl (ih hd)
set_option maxHeartbeats 4000000 in
theorem c_M_draws {ad wad : Nat → Nat} (F : Nat) (a0 : Int32) (a1 : Int32) (h : HS)  (q : Int32 × HS) (hd : f_M_draws F a0 a1 h = some q) : Ctr SHm ad wad yX12_draws cX12_draws 7 (some .int) 8 [.ref (ad 0), .int a0, .int a1] h (some (.int q.1), q.2) := by
  refine enter (own := RX12) (lv := [(0, .ref (ad 0)), (1, .int a0), (2, .int a1)]) (by decide +kernel) rfl (Nat.le_of_ble_eq_true rfl) rfl (fun Γ hG => ?_)
  unfold f_M_draws at hd
  refine a_aload_n (pc := 0) hG 0 rfl dX12_draws_0 rfl ?_
  refine a_iload_n (pc := 1) hG 2 rfl dX12_draws_1 rfl ?_
  refine a_putI (pc := 2) hG sm_0 cl_X12 ok_X12 31 (by decide) rfl t_1640 rfl (ty := .int) rfl rfl rfl hd dX12_draws_2 (fun h1 hd => ?_)
  refine a_iconst (pc := 5) hG dX12_draws_5 (v := (nI 0)) rfl ?_
  refine a_istore_nN (pc := 6) hG hd dX12_draws_6 rfl (by decide) (lf := fun x => [(3, .int x), (0, .ref (ad 0)), (1, .int a0), (2, .int a1)]) (fun _ => rfl) (fun v2 hd => ?_)
  refine AW.sub [1, 2, 0] rfl ?_
  exact w_l_M_draws_0 F (by omega) hG hd
theorem dX12_drawn_0 : decode cX12_drawn 0 = .ok (.aload_n 0, 1) := by decide +kernel
theorem dX12_drawn_1 : decode cX12_drawn 1 = .ok (.iconst 0, 1) := by decide +kernel
theorem dX12_drawn_2 : decode cX12_drawn 2 = .ok (.putfield 1, 3) := by decide +kernel
theorem dX12_drawn_5 : decode cX12_drawn 5 = .ok (.iload_n 1, 1) := by decide +kernel
theorem dX12_drawn_6 : decode cX12_drawn 6 = .ok (.iconst 1, 1) := by decide +kernel
theorem dX12_drawn_7 : decode cX12_drawn 7 = .ok (.bipush 50, 2) := by decide +kernel
theorem dX12_drawn_9 : decode cX12_drawn 9 = .ok (.invokestatic 184, 3) := by decide +kernel
theorem dX12_drawn_12 : decode cX12_drawn 12 = .ok (.ifCond .eq 12, 3) := by decide +kernel
theorem dX12_drawn_15 : decode cX12_drawn 15 = .ok (.aload_n 0, 1) := by decide +kernel
theorem dX12_drawn_16 : decode cX12_drawn 16 = .ok (.getfield 33, 3) := by decide +kernel
theorem dX12_drawn_19 : decode cX12_drawn 19 = .ok (.iconst 2, 1) := by decide +kernel
theorem dX12_drawn_20 : decode cX12_drawn 20 = .ok (.iaload, 1) := by decide +kernel
theorem dX12_drawn_21 : decode cX12_drawn 21 = .ok (.ifCond .ne 5, 3) := by decide +kernel
theorem dX12_drawn_24 : decode cX12_drawn 24 = .ok (.iconst (-1), 1) := by decide +kernel
theorem dX12_drawn_25 : decode cX12_drawn 25 = .ok (.ireturn, 1) := by decide +kernel
theorem dX12_drawn_26 : decode cX12_drawn 26 = .ok (.aload_n 0, 1) := by decide +kernel
theorem dX12_drawn_27 : decode cX12_drawn 27 = .ok (.getfield 33, 3) := by decide +kernel
theorem dX12_drawn_30 : decode cX12_drawn 30 = .ok (.bipush 72, 2) := by decide +kernel
theorem dX12_drawn_32 : decode cX12_drawn 32 = .ok (.iaload, 1) := by decide +kernel
theorem dX12_drawn_33 : decode cX12_drawn 33 = .ok (.sipush 200, 3) := by decide +kernel
theorem dX12_drawn_36 : decode cX12_drawn 36 = .ok (.if_icmp .ge 7, 3) := by decide +kernel
theorem dX12_drawn_39 : decode cX12_drawn 39 = .ok (.aload_n 0, 1) := by decide +kernel
theorem dX12_drawn_40 : decode cX12_drawn 40 = .ok (.invokevirtual 281, 3) := by decide +kernel
theorem dX12_drawn_43 : decode cX12_drawn 43 = .ok (.aload_n 0, 1) := by decide +kernel
theorem dX12_drawn_44 : decode cX12_drawn 44 = .ok (.iload_n 1, 1) := by decide +kernel
theorem dX12_drawn_45 : decode cX12_drawn 45 = .ok (.iload_n 2, 1) := by decide +kernel
theorem dX12_drawn_46 : decode cX12_drawn 46 = .ok (.invokevirtual 376, 3) := by decide +kernel
theorem dX12_drawn_49 : decode cX12_drawn 49 = .ok (.ireturn, 1) := by decide +kernel
set_option maxHeartbeats 4000000 in
theorem c_M_drawn {ad wad : Nat → Nat} (F : Nat) (a0 : Int32) (a1 : Int32) (h : HS)  (q : Int32 × HS) (hd : f_M_drawn F a0 a1 h = some q) : Ctr SHm ad wad yX12_drawn cX12_drawn 3 (some .int) 9 [.ref (ad 0), .int a0, .int a1] h (some (.int q.1), q.2) := by
  refine enter (own := RX12) (lv := [(0, .ref (ad 0)), (1, .int a0), (2, .int a1)]) (by decide +kernel) rfl (Nat.le_of_ble_eq_true rfl) rfl (fun Γ hG => ?_)
  unfold f_M_drawn at hd
  refine a_aload_n (pc := 0) hG 0 rfl dX12_drawn_0 rfl ?_
  refine a_iconst (pc := 1) hG dX12_drawn_1 (v := (nI 0)) rfl ?_
  refine a_putI (pc := 2) hG sm_0 cl_X12 ok_X12 0 (by decide) rfl t_1609 rfl (ty := .int) rfl rfl rfl hd dX12_drawn_2 (fun h1 hd => ?_)
  refine a_iload_n (pc := 5) hG 1 rfl dX12_drawn_5 rfl ?_
  refine a_iconst (pc := 6) hG dX12_drawn_6 (v := (nI 1)) rfl ?_
  refine a_bipush (pc := 7) hG dX12_drawn_7 (v := (nI 50)) rfl ?_
  refine a_csI (pc := 9) hG (As := [.int a0, .int (nI 1), .int (nI 50)]) (st := []) mk_X12_isIn t_1795 (by omega) (fun z hz => c_M_isIn a0 (nI 1) (nI 50) _  z hz) rfl (Nat.le_of_ble_eq_true rfl) hd dX12_drawn_9 (fun r3 h2 hd => ?_)
  refine a_if_eq (pc := 12) hG (tgt := 24) hd dX12_drawn_12 (by decide) (fun hd => ?_) (fun hd => ?_)
  · refine a_iconst (pc := 24) hG dX12_drawn_24 (v := (-1 : Int32)) rfl ?_
    exact a_iret (pc := 25) hG hd dX12_drawn_25
  refine a_aload_n (pc := 15) hG 0 rfl dX12_drawn_15 rfl ?_
  refine a_getR (pc := 16) hG sm_0 cl_X12 ok_X12 6 (by decide) rfl t_1615 dX12_drawn_16 ?_
  refine a_iconst (pc := 19) hG dX12_drawn_19 (v := (nI 2)) rfl ?_
  refine a_iald (pc := 20) hG sm_2 hd dX12_drawn_20 (fun hd => ?_)
  refine a_if_ne (pc := 21) hG (tgt := 26) hd dX12_drawn_21 (by decide) (fun hd => ?_) (fun hd => ?_)
  · refine a_aload_n (pc := 26) hG 0 rfl dX12_drawn_26 rfl ?_
    refine a_getR (pc := 27) hG sm_0 cl_X12 ok_X12 6 (by decide) rfl t_1615 dX12_drawn_27 ?_
    refine a_bipush (pc := 30) hG dX12_drawn_30 (v := (nI 72)) rfl ?_
    refine a_iald (pc := 32) hG sm_2 hd dX12_drawn_32 (fun hd => ?_)
    refine a_sipush (pc := 33) hG dX12_drawn_33 (v := (nI 200)) rfl ?_
    refine a_join hd (Q := fun J : HS → Option (Int32 × HS) => ∀  (h5 : HS), J  h5 = some q → AW SHm ad 3 (some (.int q.1), q.2) Γ 43 [(0, .ref (ad 0)), (1, .int a0), (2, .int a1)] [] h5) (fun  h5 hd => ?_) (fun J4 hJ4 hd => ?_)
    · refine a_aload_n (pc := 43) hG 0 rfl dX12_drawn_43 rfl ?_
      refine a_iload_n (pc := 44) hG 1 rfl dX12_drawn_44 rfl ?_
      refine a_iload_n (pc := 45) hG 2 rfl dX12_drawn_45 rfl ?_
      refine a_cvI (pc := 46) hG (As := [.int a0, .int a1]) (st := []) sm_0 cl_X12 mk_X12_draws t_2096 (by omega) (fun z hz => c_M_draws F a0 a1 _  z hz) rfl (Nat.le_of_ble_eq_true rfl) hd dX12_drawn_46 (fun r7 h6 hd => ?_)
      exact a_iret (pc := 49) hG hd dX12_drawn_49
    refine a_ic_ge (pc := 36) hG (tgt := 43) hd dX12_drawn_36 (by decide) (fun hd => ?_) (fun hd => ?_)
    · exact AW.sub [0, 1, 2] rfl (hJ4  _ hd)
    refine a_aload_n (pc := 39) hG 0 rfl dX12_drawn_39 rfl ?_
    refine a_cvN (pc := 40) hG (As := []) (st := []) sm_0 cl_X12 mk_X12_keep t_1897 (by omega) (fun z hz => c_M_keep F  _  z hz) rfl (Nat.le_of_ble_eq_true rfl) hd dX12_drawn_40 (fun _ h8 hd => ?_)
    exact AW.sub [0, 1, 2] rfl (hJ4  _ hd)
  refine a_iconst (pc := 24) hG dX12_drawn_24 (v := (-1 : Int32)) rfl ?_
  exact a_iret (pc := 25) hG hd dX12_drawn_25
theorem dX12_risk_0 : decode cX12_risk 0 = .ok (.aload_n 0, 1) := by decide +kernel
theorem dX12_risk_1 : decode cX12_risk 1 = .ok (.iconst 0, 1) := by decide +kernel
theorem dX12_risk_2 : decode cX12_risk 2 = .ok (.putfield 1, 3) := by decide +kernel
theorem dX12_risk_5 : decode cX12_risk 5 = .ok (.iload_n 1, 1) := by decide +kernel
theorem dX12_risk_6 : decode cX12_risk 6 = .ok (.iconst 1, 1) := by decide +kernel
theorem dX12_risk_7 : decode cX12_risk 7 = .ok (.bipush 40, 2) := by decide +kernel
theorem dX12_risk_9 : decode cX12_risk 9 = .ok (.invokestatic 184, 3) := by decide +kernel
theorem dX12_risk_12 : decode cX12_risk 12 = .ok (.ifCond .eq 12, 3) := by decide +kernel
theorem dX12_risk_15 : decode cX12_risk 15 = .ok (.aload_n 0, 1) := by decide +kernel
theorem dX12_risk_16 : decode cX12_risk 16 = .ok (.getfield 33, 3) := by decide +kernel
theorem dX12_risk_19 : decode cX12_risk 19 = .ok (.iconst 2, 1) := by decide +kernel
theorem dX12_risk_20 : decode cX12_risk 20 = .ok (.iaload, 1) := by decide +kernel
theorem dX12_risk_21 : decode cX12_risk 21 = .ok (.ifCond .ne 5, 3) := by decide +kernel
theorem dX12_risk_24 : decode cX12_risk 24 = .ok (.iconst (-1), 1) := by decide +kernel
theorem dX12_risk_25 : decode cX12_risk 25 = .ok (.ireturn, 1) := by decide +kernel
theorem dX12_risk_26 : decode cX12_risk 26 = .ok (.aload_n 0, 1) := by decide +kernel
theorem dX12_risk_27 : decode cX12_risk 27 = .ok (.invokevirtual 347, 3) := by decide +kernel
theorem dX12_risk_30 : decode cX12_risk 30 = .ok (.iconst 0, 1) := by decide +kernel
theorem dX12_risk_31 : decode cX12_risk 31 = .ok (.istore_n 3, 1) := by decide +kernel
theorem dX12_risk_32 : decode cX12_risk 32 = .ok (.iconst 0, 1) := by decide +kernel
theorem dX12_risk_33 : decode cX12_risk 33 = .ok (.istore 4, 2) := by decide +kernel
theorem dX12_risk_35 : decode cX12_risk 35 = .ok (.iload 4, 2) := by decide +kernel
theorem dX12_risk_37 : decode cX12_risk 37 = .ok (.iload_n 1, 1) := by decide +kernel
theorem dX12_risk_38 : decode cX12_risk 38 = .ok (.if_icmp .ge 53, 3) := by decide +kernel
theorem dX12_risk_41 : decode cX12_risk 41 = .ok (.aload_n 0, 1) := by decide +kernel
theorem dX12_risk_42 : decode cX12_risk 42 = .ok (.getfield 33, 3) := by decide +kernel
theorem dX12_risk_45 : decode cX12_risk 45 = .ok (.bipush 74, 2) := by decide +kernel
theorem dX12_risk_47 : decode cX12_risk 47 = .ok (.iaload, 1) := by decide +kernel
theorem dX12_risk_48 : decode cX12_risk 48 = .ok (.istore 5, 2) := by decide +kernel
theorem dX12_risk_50 : decode cX12_risk 50 = .ok (.aload_n 0, 1) := by decide +kernel
theorem dX12_risk_51 : decode cX12_risk 51 = .ok (.bipush 20, 2) := by decide +kernel
theorem dX12_risk_53 : decode cX12_risk 53 = .ok (.iload_n 2, 1) := by decide +kernel
theorem dX12_risk_54 : decode cX12_risk 54 = .ok (.iload 4, 2) := by decide +kernel
theorem dX12_risk_56 : decode cX12_risk 56 = .ok (.iadd, 1) := by decide +kernel
theorem dX12_risk_57 : decode cX12_risk 57 = .ok (.invokevirtual 376, 3) := by decide +kernel
theorem dX12_risk_60 : decode cX12_risk 60 = .ok (.pop, 1) := by decide +kernel
theorem dX12_risk_61 : decode cX12_risk 61 = .ok (.iload_n 3, 1) := by decide +kernel
theorem dX12_risk_62 : decode cX12_risk 62 = .ok (.aload_n 0, 1) := by decide +kernel
theorem dX12_risk_63 : decode cX12_risk 63 = .ok (.getfield 33, 3) := by decide +kernel
theorem dX12_risk_66 : decode cX12_risk 66 = .ok (.bipush 74, 2) := by decide +kernel
theorem dX12_risk_68 : decode cX12_risk 68 = .ok (.iaload, 1) := by decide +kernel
theorem dX12_risk_69 : decode cX12_risk 69 = .ok (.iload 5, 2) := by decide +kernel
theorem dX12_risk_71 : decode cX12_risk 71 = .ok (.if_icmp .le 7, 3) := by decide +kernel
theorem dX12_risk_74 : decode cX12_risk 74 = .ok (.iconst 1, 1) := by decide +kernel
theorem dX12_risk_75 : decode cX12_risk 75 = .ok (.goto 4, 3) := by decide +kernel
theorem dX12_risk_78 : decode cX12_risk 78 = .ok (.iconst 0, 1) := by decide +kernel
theorem dX12_risk_79 : decode cX12_risk 79 = .ok (.iadd, 1) := by decide +kernel
theorem dX12_risk_80 : decode cX12_risk 80 = .ok (.istore_n 3, 1) := by decide +kernel
theorem dX12_risk_81 : decode cX12_risk 81 = .ok (.aload_n 0, 1) := by decide +kernel
theorem dX12_risk_82 : decode cX12_risk 82 = .ok (.invokevirtual 353, 3) := by decide +kernel
theorem dX12_risk_85 : decode cX12_risk 85 = .ok (.iinc 4 1, 3) := by decide +kernel
theorem dX12_risk_88 : decode cX12_risk 88 = .ok (.goto (-53), 3) := by decide +kernel
theorem dX12_risk_91 : decode cX12_risk 91 = .ok (.iload_n 3, 1) := by decide +kernel
theorem dX12_risk_92 : decode cX12_risk 92 = .ok (.ireturn, 1) := by decide +kernel
set_option maxHeartbeats 4000000 in
theorem w_l_M_risk_0 {ad wad : Nat → Nat} {Γ : Ctx} (F : Nat) {n : Nat} (hn : 9 ≤ n) (hG : Cx SHm ad wad cX12_risk 6 RX12 (some .int) (n) Γ) {q : Int32 × HS} {x1 : Int32} {x2 : Int32} {g : Nat} {x3 : Int32} {x4 : Int32} {h : HS} (hd : l_M_risk_0 F x1 x2 g x3 x4 h = some q) : AW SHm ad 6 (some (.int q.1), q.2) Γ 35 [(0, .ref (ad 0)), (1, .int x1), (2, .int x2), (3, .int x3), (4, .int x4)] [] h := by
  induction g generalizing x3 x4 h with
  | zero => unfold l_M_risk_0 at hd; cases hd
  | succ g ih =>
    unfold l_M_risk_0 at hd
    refine a_iload (pc := 35) hG 4 rfl dX12_risk_35 ?_
    refine a_iload_n (pc := 37) hG 1 rfl dX12_risk_37 rfl ?_
    refine a_ic_ge (pc := 38) hG (tgt := 91) hd dX12_risk_38 (by decide) (fun hd => ?_) (fun hd => ?_)
    · refine a_iload_n (pc := 91) hG 3 rfl dX12_risk_91 rfl ?_
      exact a_iret (pc := 92) hG hd dX12_risk_92
    refine a_aload_n (pc := 41) hG 0 rfl dX12_risk_41 rfl ?_
    refine a_getR (pc := 42) hG sm_0 cl_X12 ok_X12 6 (by decide) rfl t_1615 dX12_risk_42 ?_
    refine a_bipush (pc := 45) hG dX12_risk_45 (v := (nI 74)) rfl ?_
    refine a_iald (pc := 47) hG sm_2 hd dX12_risk_47 (fun hd => ?_)
    refine a_istoreN (pc := 48) hG hd dX12_risk_48 (by decide) (lf := fun x => [(5, .int x), (0, .ref (ad 0)), (1, .int x1), (2, .int x2), (3, .int x3), (4, .int x4)]) (fun _ => rfl) (fun v7 hd => ?_)
    refine a_aload_n (pc := 50) hG 1 rfl dX12_risk_50 rfl ?_
    refine a_bipush (pc := 51) hG dX12_risk_51 (v := (nI 20)) rfl ?_
    refine a_iload_n (pc := 53) hG 3 rfl dX12_risk_53 rfl ?_
    refine a_iload (pc := 54) hG 5 rfl dX12_risk_54 ?_
    refine a_iadd (pc := 56) hG dX12_risk_56 ?_
    refine a_cvI (pc := 57) hG (As := [.int (nI 20), .int (x2 + x4)]) (st := []) sm_0 cl_X12 mk_X12_draws t_2096 (by omega) (fun z hz => c_M_draws F (nI 20) (x2 + x4) _  z hz) rfl (Nat.le_of_ble_eq_true rfl) hd dX12_risk_57 (fun r9 h8 hd => ?_)
    refine a_pop (pc := 60) hG dX12_risk_60 rfl ?_
    refine a_iload_n (pc := 61) hG 4 rfl dX12_risk_61 rfl ?_
    refine a_aload_n (pc := 62) hG 1 rfl dX12_risk_62 rfl ?_
    refine a_getR (pc := 63) hG sm_0 cl_X12 ok_X12 6 (by decide) rfl t_1615 dX12_risk_63 ?_
    refine a_bipush (pc := 66) hG dX12_risk_66 (v := (nI 74)) rfl ?_
    refine a_iald (pc := 68) hG sm_2 hd dX12_risk_68 (fun hd => ?_)
    refine a_iload (pc := 69) hG 0 rfl dX12_risk_69 ?_
    refine a_join hd (Q := fun J : Int32 → HS → Option (Int32 × HS) => ∀ (v11 : Int32) (h12 : HS), J v11 h12 = some q → AW SHm ad 6 (some (.int q.1), q.2) Γ 79 [(0, .ref (ad 0)), (1, .int x1), (2, .int x2), (4, .int x4)] [.int v11, .int x3] h12) (fun v11 h12 hd => ?_) (fun J10 hJ10 hd => ?_)
    · refine a_iadd (pc := 79) hG dX12_risk_79 ?_
      refine a_istore_nN (pc := 80) hG hd dX12_risk_80 rfl (by decide) (lf := fun x => [(3, .int x), (0, .ref (ad 0)), (1, .int x1), (2, .int x2), (4, .int x4)]) (fun _ => rfl) (fun v13 hd => ?_)
      refine a_aload_n (pc := 81) hG 1 rfl dX12_risk_81 rfl ?_
      refine a_cvN (pc := 82) hG (As := []) (st := []) sm_0 cl_X12 mk_X12_back t_2060 (by omega) (fun z hz => c_M_back F  _  z hz) rfl (Nat.le_of_ble_eq_true rfl) hd dX12_risk_82 (fun _ h14 hd => ?_)
      refine a_iincN (pc := 85) hG (c0 := (nI 1)) 4 rfl hd dX12_risk_85 rfl (by decide) (lf := fun x => [(4, .int x), (3, .int v13), (0, .ref (ad 0)), (1, .int x1), (2, .int x2)]) (fun _ => rfl) (fun v15 hd => ?_)
      refine a_goto (pc := 88) hG (tgt := 35) dX12_risk_88 (by decide) ?_
      exact AW.sub [2, 3, 4, 1, 0] rfl (ih hd)
    refine a_ic_le (pc := 71) hG (tgt := 78) hd dX12_risk_71 (by decide) (fun hd => ?_) (fun hd => ?_)
    · refine a_iconst (pc := 78) hG dX12_risk_78 (v := (nI 0)) rfl ?_
      exact AW.sub [1, 2, 3, 5] rfl (hJ10 _ _ hd)
    refine a_iconst (pc := 74) hG dX12_risk_74 (v := (nI 1)) rfl ?_
    refine a_goto (pc := 75) hG (tgt := 79) dX12_risk_75 (by decide) ?_
    exact AW.sub [1, 2, 3, 5] rfl (hJ10 _ _ hd)
set_option maxHeartbeats 4000000 in
theorem c_M_risk {ad wad : Nat → Nat} (F : Nat) (a0 : Int32) (a1 : Int32) (h : HS)  (q : Int32 × HS) (hd : f_M_risk F a0 a1 h = some q) : Ctr SHm ad wad yX12_risk cX12_risk 6 (some .int) 9 [.ref (ad 0), .int a0, .int a1] h (some (.int q.1), q.2) := by
  refine enter (own := RX12) (lv := [(0, .ref (ad 0)), (1, .int a0), (2, .int a1)]) (by decide +kernel) rfl (Nat.le_of_ble_eq_true rfl) rfl (fun Γ hG => ?_)
  unfold f_M_risk at hd
  refine a_aload_n (pc := 0) hG 0 rfl dX12_risk_0 rfl ?_
  refine a_iconst (pc := 1) hG dX12_risk_1 (v := (nI 0)) rfl ?_
  refine a_putI (pc := 2) hG sm_0 cl_X12 ok_X12 0 (by decide) rfl t_1609 rfl (ty := .int) rfl rfl rfl hd dX12_risk_2 (fun h1 hd => ?_)
  refine a_iload_n (pc := 5) hG 1 rfl dX12_risk_5 rfl ?_
  refine a_iconst (pc := 6) hG dX12_risk_6 (v := (nI 1)) rfl ?_
  refine a_bipush (pc := 7) hG dX12_risk_7 (v := (nI 40)) rfl ?_
  refine a_csI (pc := 9) hG (As := [.int a0, .int (nI 1), .int (nI 40)]) (st := []) mk_X12_isIn t_1795 (by omega) (fun z hz => c_M_isIn a0 (nI 1) (nI 40) _  z hz) rfl (Nat.le_of_ble_eq_true rfl) hd dX12_risk_9 (fun r3 h2 hd => ?_)
  refine a_if_eq (pc := 12) hG (tgt := 24) hd dX12_risk_12 (by decide) (fun hd => ?_) (fun hd => ?_)
  · refine a_iconst (pc := 24) hG dX12_risk_24 (v := (-1 : Int32)) rfl ?_
    exact a_iret (pc := 25) hG hd dX12_risk_25
  refine a_aload_n (pc := 15) hG 0 rfl dX12_risk_15 rfl ?_
  refine a_getR (pc := 16) hG sm_0 cl_X12 ok_X12 6 (by decide) rfl t_1615 dX12_risk_16 ?_
  refine a_iconst (pc := 19) hG dX12_risk_19 (v := (nI 2)) rfl ?_
  refine a_iald (pc := 20) hG sm_2 hd dX12_risk_20 (fun hd => ?_)
  refine a_if_ne (pc := 21) hG (tgt := 26) hd dX12_risk_21 (by decide) (fun hd => ?_) (fun hd => ?_)
  · refine a_aload_n (pc := 26) hG 0 rfl dX12_risk_26 rfl ?_
    refine a_cvN (pc := 27) hG (As := []) (st := []) sm_0 cl_X12 mk_X12_tries t_2052 (by omega) (fun z hz => c_M_tries F  _  z hz) rfl (Nat.le_of_ble_eq_true rfl) hd dX12_risk_27 (fun _ h4 hd => ?_)
    refine a_iconst (pc := 30) hG dX12_risk_30 (v := (nI 0)) rfl ?_
    refine a_istore_nN (pc := 31) hG hd dX12_risk_31 rfl (by decide) (lf := fun x => [(3, .int x), (0, .ref (ad 0)), (1, .int a0), (2, .int a1)]) (fun _ => rfl) (fun v5 hd => ?_)
    refine a_iconst (pc := 32) hG dX12_risk_32 (v := (nI 0)) rfl ?_
    refine a_istoreN (pc := 33) hG hd dX12_risk_33 (by decide) (lf := fun x => [(4, .int x), (3, .int v5), (0, .ref (ad 0)), (1, .int a0), (2, .int a1)]) (fun _ => rfl) (fun v6 hd => ?_)
    refine AW.sub [2, 3, 4, 1, 0] rfl ?_
    exact w_l_M_risk_0 F (by omega) hG hd
  refine a_iconst (pc := 24) hG dX12_risk_24 (v := (-1 : Int32)) rfl ?_
  exact a_iret (pc := 25) hG hd dX12_risk_25
theorem dX12_bookLine_0 : decode cX12_bookLine 0 = .ok (.iconst 3, 1) := by decide +kernel
theorem dX12_bookLine_1 : decode cX12_bookLine 1 = .ok (.aload_n 0, 1) := by decide +kernel
theorem dX12_bookLine_2 : decode cX12_bookLine 2 = .ok (.getfield 379, 3) := by decide +kernel
theorem dX12_bookLine_5 : decode cX12_bookLine 5 = .ok (.imul, 1) := by decide +kernel
theorem dX12_bookLine_6 : decode cX12_bookLine 6 = .ok (.istore_n 1, 1) := by decide +kernel
theorem dX12_bookLine_7 : decode cX12_bookLine 7 = .ok (.aload_n 0, 1) := by decide +kernel
theorem dX12_bookLine_8 : decode cX12_bookLine 8 = .ok (.ldc2_w 108, 3) := by decide +kernel
theorem dX12_bookLine_11 : decode cX12_bookLine 11 = .ok (.invokevirtual 209, 3) := by decide +kernel
theorem dX12_bookLine_14 : decode cX12_bookLine 14 = .ok (.ifCond .eq 55, 3) := by decide +kernel
theorem dX12_bookLine_17 : decode cX12_bookLine 17 = .ok (.aload_n 0, 1) := by decide +kernel
theorem dX12_bookLine_18 : decode cX12_bookLine 18 = .ok (.getfield 379, 3) := by decide +kernel
theorem dX12_bookLine_21 : decode cX12_bookLine 21 = .ok (.bipush 40, 2) := by decide +kernel
theorem dX12_bookLine_23 : decode cX12_bookLine 23 = .ok (.if_icmp .ne 9, 3) := by decide +kernel
theorem dX12_bookLine_26 : decode cX12_bookLine 26 = .ok (.aload_n 0, 1) := by decide +kernel
theorem dX12_bookLine_27 : decode cX12_bookLine 27 = .ok (.iconst 4, 1) := by decide +kernel
theorem dX12_bookLine_28 : decode cX12_bookLine 28 = .ok (.invokevirtual 178, 3) := by decide +kernel
theorem dX12_bookLine_31 : decode cX12_bookLine 31 = .ok (.ireturn, 1) := by decide +kernel
theorem dX12_bookLine_32 : decode cX12_bookLine 32 = .ok (.aload_n 0, 1) := by decide +kernel
theorem dX12_bookLine_33 : decode cX12_bookLine 33 = .ok (.invokevirtual 181, 3) := by decide +kernel
theorem dX12_bookLine_36 : decode cX12_bookLine 36 = .ok (.aload_n 0, 1) := by decide +kernel
theorem dX12_bookLine_37 : decode cX12_bookLine 37 = .ok (.iconst 1, 1) := by decide +kernel
theorem dX12_bookLine_38 : decode cX12_bookLine 38 = .ok (.bipush 50, 2) := by decide +kernel
theorem dX12_bookLine_40 : decode cX12_bookLine 40 = .ok (.invokevirtual 199, 3) := by decide +kernel
theorem dX12_bookLine_43 : decode cX12_bookLine 43 = .ok (.ifCond .ne 5, 3) := by decide +kernel
theorem dX12_bookLine_46 : decode cX12_bookLine 46 = .ok (.iconst 0, 1) := by decide +kernel
theorem dX12_bookLine_47 : decode cX12_bookLine 47 = .ok (.ireturn, 1) := by decide +kernel
theorem dX12_bookLine_48 : decode cX12_bookLine 48 = .ok (.aload_n 0, 1) := by decide +kernel
theorem dX12_bookLine_49 : decode cX12_bookLine 49 = .ok (.getfield 40, 3) := by decide +kernel
theorem dX12_bookLine_52 : decode cX12_bookLine 52 = .ok (.iload_n 1, 1) := by decide +kernel
theorem dX12_bookLine_53 : decode cX12_bookLine 53 = .ok (.iconst 3, 1) := by decide +kernel
theorem dX12_bookLine_54 : decode cX12_bookLine 54 = .ok (.iastore, 1) := by decide +kernel
theorem dX12_bookLine_55 : decode cX12_bookLine 55 = .ok (.aload_n 0, 1) := by decide +kernel
theorem dX12_bookLine_56 : decode cX12_bookLine 56 = .ok (.getfield 40, 3) := by decide +kernel
theorem dX12_bookLine_59 : decode cX12_bookLine 59 = .ok (.iload_n 1, 1) := by decide +kernel
theorem dX12_bookLine_60 : decode cX12_bookLine 60 = .ok (.iconst 1, 1) := by decide +kernel
theorem dX12_bookLine_61 : decode cX12_bookLine 61 = .ok (.iadd, 1) := by decide +kernel
theorem dX12_bookLine_62 : decode cX12_bookLine 62 = .ok (.aload_n 0, 1) := by decide +kernel
theorem dX12_bookLine_63 : decode cX12_bookLine 63 = .ok (.getfield 188, 3) := by decide +kernel
theorem dX12_bookLine_66 : decode cX12_bookLine 66 = .ok (.iastore, 1) := by decide +kernel
theorem dX12_bookLine_67 : decode cX12_bookLine 67 = .ok (.iconst 1, 1) := by decide +kernel
theorem dX12_bookLine_68 : decode cX12_bookLine 68 = .ok (.ireturn, 1) := by decide +kernel
theorem dX12_bookLine_69 : decode cX12_bookLine 69 = .ok (.aload_n 0, 1) := by decide +kernel
theorem dX12_bookLine_70 : decode cX12_bookLine 70 = .ok (.bipush 12, 2) := by decide +kernel
theorem dX12_bookLine_72 : decode cX12_bookLine 72 = .ok (.aload_n 0, 1) := by decide +kernel
theorem dX12_bookLine_73 : decode cX12_bookLine 73 = .ok (.getfield 33, 3) := by decide +kernel
theorem dX12_bookLine_76 : decode cX12_bookLine 76 = .ok (.iconst 2, 1) := by decide +kernel
theorem dX12_bookLine_77 : decode cX12_bookLine 77 = .ok (.iaload, 1) := by decide +kernel
theorem dX12_bookLine_78 : decode cX12_bookLine 78 = .ok (.invokevirtual 222, 3) := by decide +kernel
theorem dX12_bookLine_81 : decode cX12_bookLine 81 = .ok (.ifCond .ne 5, 3) := by decide +kernel
theorem dX12_bookLine_84 : decode cX12_bookLine 84 = .ok (.iconst 0, 1) := by decide +kernel
theorem dX12_bookLine_85 : decode cX12_bookLine 85 = .ok (.ireturn, 1) := by decide +kernel
theorem dX12_bookLine_86 : decode cX12_bookLine 86 = .ok (.aload_n 0, 1) := by decide +kernel
theorem dX12_bookLine_87 : decode cX12_bookLine 87 = .ok (.getfield 379, 3) := by decide +kernel
theorem dX12_bookLine_90 : decode cX12_bookLine 90 = .ok (.bipush 40, 2) := by decide +kernel
theorem dX12_bookLine_92 : decode cX12_bookLine 92 = .ok (.if_icmp .ne 9, 3) := by decide +kernel
theorem dX12_bookLine_95 : decode cX12_bookLine 95 = .ok (.aload_n 0, 1) := by decide +kernel
theorem dX12_bookLine_96 : decode cX12_bookLine 96 = .ok (.iconst 4, 1) := by decide +kernel
theorem dX12_bookLine_97 : decode cX12_bookLine 97 = .ok (.invokevirtual 178, 3) := by decide +kernel
theorem dX12_bookLine_100 : decode cX12_bookLine 100 = .ok (.ireturn, 1) := by decide +kernel
theorem dX12_bookLine_101 : decode cX12_bookLine 101 = .ok (.aload_n 0, 1) := by decide +kernel
theorem dX12_bookLine_102 : decode cX12_bookLine 102 = .ok (.getfield 40, 3) := by decide +kernel
theorem dX12_bookLine_105 : decode cX12_bookLine 105 = .ok (.iload_n 1, 1) := by decide +kernel
theorem dX12_bookLine_106 : decode cX12_bookLine 106 = .ok (.iconst 1, 1) := by decide +kernel
theorem dX12_bookLine_107 : decode cX12_bookLine 107 = .ok (.iadd, 1) := by decide +kernel
theorem dX12_bookLine_108 : decode cX12_bookLine 108 = .ok (.aload_n 0, 1) := by decide +kernel
theorem dX12_bookLine_109 : decode cX12_bookLine 109 = .ok (.getfield 188, 3) := by decide +kernel
theorem dX12_bookLine_112 : decode cX12_bookLine 112 = .ok (.iastore, 1) := by decide +kernel
theorem dX12_bookLine_113 : decode cX12_bookLine 113 = .ok (.aload_n 0, 1) := by decide +kernel
theorem dX12_bookLine_114 : decode cX12_bookLine 114 = .ok (.invokevirtual 181, 3) := by decide +kernel
theorem dX12_bookLine_117 : decode cX12_bookLine 117 = .ok (.aload_n 0, 1) := by decide +kernel
theorem dX12_bookLine_118 : decode cX12_bookLine 118 = .ok (.ldc2_w 102, 3) := by decide +kernel
theorem dX12_bookLine_121 : decode cX12_bookLine 121 = .ok (.invokevirtual 209, 3) := by decide +kernel
theorem dX12_bookLine_124 : decode cX12_bookLine 124 = .ok (.ifCond .eq 7, 3) := by decide +kernel
theorem dX12_bookLine_127 : decode cX12_bookLine 127 = .ok (.iconst 0, 1) := by decide +kernel
theorem dX12_bookLine_128 : decode cX12_bookLine 128 = .ok (.goto 32, 3) := by decide +kernel
theorem dX12_bookLine_131 : decode cX12_bookLine 131 = .ok (.aload_n 0, 1) := by decide +kernel
theorem dX12_bookLine_132 : decode cX12_bookLine 132 = .ok (.ldc2_w 104, 3) := by decide +kernel
theorem dX12_bookLine_135 : decode cX12_bookLine 135 = .ok (.invokevirtual 209, 3) := by decide +kernel
theorem dX12_bookLine_138 : decode cX12_bookLine 138 = .ok (.ifCond .eq 7, 3) := by decide +kernel
theorem dX12_bookLine_141 : decode cX12_bookLine 141 = .ok (.iconst 1, 1) := by decide +kernel
theorem dX12_bookLine_142 : decode cX12_bookLine 142 = .ok (.goto 18, 3) := by decide +kernel
theorem dX12_bookLine_145 : decode cX12_bookLine 145 = .ok (.aload_n 0, 1) := by decide +kernel
theorem dX12_bookLine_146 : decode cX12_bookLine 146 = .ok (.ldc2_w 106, 3) := by decide +kernel
theorem dX12_bookLine_149 : decode cX12_bookLine 149 = .ok (.invokevirtual 209, 3) := by decide +kernel
theorem dX12_bookLine_152 : decode cX12_bookLine 152 = .ok (.ifCond .eq 7, 3) := by decide +kernel
theorem dX12_bookLine_155 : decode cX12_bookLine 155 = .ok (.iconst 2, 1) := by decide +kernel
theorem dX12_bookLine_156 : decode cX12_bookLine 156 = .ok (.goto 4, 3) := by decide +kernel
theorem dX12_bookLine_159 : decode cX12_bookLine 159 = .ok (.iconst (-1), 1) := by decide +kernel
theorem dX12_bookLine_160 : decode cX12_bookLine 160 = .ok (.istore_n 2, 1) := by decide +kernel
theorem dX12_bookLine_161 : decode cX12_bookLine 161 = .ok (.iload_n 2, 1) := by decide +kernel
theorem dX12_bookLine_162 : decode cX12_bookLine 162 = .ok (.ifCond .ge 9, 3) := by decide +kernel
theorem dX12_bookLine_165 : decode cX12_bookLine 165 = .ok (.aload_n 0, 1) := by decide +kernel
theorem dX12_bookLine_166 : decode cX12_bookLine 166 = .ok (.iconst 1, 1) := by decide +kernel
theorem dX12_bookLine_167 : decode cX12_bookLine 167 = .ok (.invokevirtual 178, 3) := by decide +kernel
theorem dX12_bookLine_170 : decode cX12_bookLine 170 = .ok (.ireturn, 1) := by decide +kernel
theorem dX12_bookLine_171 : decode cX12_bookLine 171 = .ok (.aload_n 0, 1) := by decide +kernel
theorem dX12_bookLine_172 : decode cX12_bookLine 172 = .ok (.getfield 40, 3) := by decide +kernel
theorem dX12_bookLine_175 : decode cX12_bookLine 175 = .ok (.iload_n 1, 1) := by decide +kernel
theorem dX12_bookLine_176 : decode cX12_bookLine 176 = .ok (.iload_n 2, 1) := by decide +kernel
theorem dX12_bookLine_177 : decode cX12_bookLine 177 = .ok (.iastore, 1) := by decide +kernel
theorem dX12_bookLine_178 : decode cX12_bookLine 178 = .ok (.aload_n 0, 1) := by decide +kernel
theorem dX12_bookLine_179 : decode cX12_bookLine 179 = .ok (.invokevirtual 181, 3) := by decide +kernel
theorem dX12_bookLine_182 : decode cX12_bookLine 182 = .ok (.iload_n 2, 1) := by decide +kernel
theorem dX12_bookLine_183 : decode cX12_bookLine 183 = .ok (.iconst 2, 1) := by decide +kernel
theorem dX12_bookLine_184 : decode cX12_bookLine 184 = .ok (.if_icmp .ne 5, 3) := by decide +kernel
theorem dX12_bookLine_187 : decode cX12_bookLine 187 = .ok (.iconst 1, 1) := by decide +kernel
theorem dX12_bookLine_188 : decode cX12_bookLine 188 = .ok (.ireturn, 1) := by decide +kernel
theorem dX12_bookLine_189 : decode cX12_bookLine 189 = .ok (.aload_n 0, 1) := by decide +kernel
theorem dX12_bookLine_190 : decode cX12_bookLine 190 = .ok (.iload_n 2, 1) := by decide +kernel
theorem dX12_bookLine_191 : decode cX12_bookLine 191 = .ok (.ifCond .ne 7, 3) := by decide +kernel
theorem dX12_bookLine_194 : decode cX12_bookLine 194 = .ok (.iconst 0, 1) := by decide +kernel
theorem dX12_bookLine_195 : decode cX12_bookLine 195 = .ok (.goto 5, 3) := by decide +kernel
theorem dX12_bookLine_198 : decode cX12_bookLine 198 = .ok (.bipush 6, 2) := by decide +kernel
theorem dX12_bookLine_200 : decode cX12_bookLine 200 = .ok (.aload_n 0, 1) := by decide +kernel
theorem dX12_bookLine_201 : decode cX12_bookLine 201 = .ok (.getfield 33, 3) := by decide +kernel
theorem dX12_bookLine_204 : decode cX12_bookLine 204 = .ok (.iload_n 2, 1) := by decide +kernel
theorem dX12_bookLine_205 : decode cX12_bookLine 205 = .ok (.ifCond .ne 7, 3) := by decide +kernel
theorem dX12_bookLine_208 : decode cX12_bookLine 208 = .ok (.iconst 0, 1) := by decide +kernel
theorem dX12_bookLine_209 : decode cX12_bookLine 209 = .ok (.goto 4, 3) := by decide +kernel
theorem dX12_bookLine_212 : decode cX12_bookLine 212 = .ok (.iconst 1, 1) := by decide +kernel
theorem dX12_bookLine_213 : decode cX12_bookLine 213 = .ok (.iaload, 1) := by decide +kernel
theorem dX12_bookLine_214 : decode cX12_bookLine 214 = .ok (.invokevirtual 222, 3) := by decide +kernel
theorem dX12_bookLine_217 : decode cX12_bookLine 217 = .ok (.ifCond .ne 5, 3) := by decide +kernel
theorem dX12_bookLine_220 : decode cX12_bookLine 220 = .ok (.iconst 0, 1) := by decide +kernel
theorem dX12_bookLine_221 : decode cX12_bookLine 221 = .ok (.ireturn, 1) := by decide +kernel
theorem dX12_bookLine_222 : decode cX12_bookLine 222 = .ok (.aload_n 0, 1) := by decide +kernel
theorem dX12_bookLine_223 : decode cX12_bookLine 223 = .ok (.getfield 40, 3) := by decide +kernel
theorem dX12_bookLine_226 : decode cX12_bookLine 226 = .ok (.iload_n 1, 1) := by decide +kernel
theorem dX12_bookLine_227 : decode cX12_bookLine 227 = .ok (.iconst 2, 1) := by decide +kernel
theorem dX12_bookLine_228 : decode cX12_bookLine 228 = .ok (.iadd, 1) := by decide +kernel
theorem dX12_bookLine_229 : decode cX12_bookLine 229 = .ok (.aload_n 0, 1) := by decide +kernel
theorem dX12_bookLine_230 : decode cX12_bookLine 230 = .ok (.getfield 188, 3) := by decide +kernel
theorem dX12_bookLine_233 : decode cX12_bookLine 233 = .ok (.iastore, 1) := by decide +kernel
theorem dX12_bookLine_234 : decode cX12_bookLine 234 = .ok (.aload_n 0, 1) := by decide +kernel
theorem dX12_bookLine_235 : decode cX12_bookLine 235 = .ok (.invokevirtual 181, 3) := by decide +kernel
theorem dX12_bookLine_238 : decode cX12_bookLine 238 = .ok (.iconst 1, 1) := by decide +kernel
theorem dX12_bookLine_239 : decode cX12_bookLine 239 = .ok (.ireturn, 1) := by decide +kernel
set_option maxHeartbeats 4000000 in
theorem c_M_bookLine {ad wad : Nat → Nat} (F : Nat)  (h : HS)  (q : Int32 × HS) (hd : f_M_bookLine F  h = some q) : Ctr SHm ad wad yX12_bookLine cX12_bookLine 3 (some .boolean) 4 [.ref (ad 0)] h (some (.int q.1), q.2) := by
  refine enter (own := RX12) (lv := [(0, .ref (ad 0))]) (by decide +kernel) rfl (Nat.le_of_ble_eq_true rfl) rfl (fun Γ hG => ?_)
  unfold f_M_bookLine at hd
  refine a_iconst (pc := 0) hG dX12_bookLine_0 (v := (nI 3)) rfl ?_
  refine a_aload_n (pc := 1) hG 0 rfl dX12_bookLine_1 rfl ?_
  refine a_getI (pc := 2) hG sm_0 cl_X12 ok_X12 32 (by decide) rfl t_1641 dX12_bookLine_2 ?_
  refine a_imul (pc := 5) hG dX12_bookLine_5 ?_
  refine a_istore_nN (pc := 6) hG hd dX12_bookLine_6 rfl (by decide) (lf := fun x => [(1, .int x), (0, .ref (ad 0))]) (fun _ => rfl) (fun v1 hd => ?_)
  refine a_aload_n (pc := 7) hG 1 rfl dX12_bookLine_7 rfl ?_
  refine a_ldc2_w (pc := 8) hG t_1587 dX12_bookLine_8 ?_
  refine a_cvI (pc := 11) hG (As := [.long (2003133803 : Int64)]) (st := []) sm_0 cl_X12 mk_X12_isWord t_1772 (by omega) (fun z hz => c_M_isWord (2003133803 : Int64) _  z hz) rfl (Nat.le_of_ble_eq_true rfl) hd dX12_bookLine_11 (fun r3 h2 hd => ?_)
  refine a_if_eq (pc := 14) hG (tgt := 69) hd dX12_bookLine_14 (by decide) (fun hd => ?_) (fun hd => ?_)
  · refine a_aload_n (pc := 69) hG 1 rfl dX12_bookLine_69 rfl ?_
    refine a_bipush (pc := 70) hG dX12_bookLine_70 (v := (nI 12)) rfl ?_
    refine a_aload_n (pc := 72) hG 1 rfl dX12_bookLine_72 rfl ?_
    refine a_getR (pc := 73) hG sm_0 cl_X12 ok_X12 6 (by decide) rfl t_1615 dX12_bookLine_73 ?_
    refine a_iconst (pc := 76) hG dX12_bookLine_76 (v := (nI 2)) rfl ?_
    refine a_iald (pc := 77) hG sm_2 hd dX12_bookLine_77 (fun hd => ?_)
    refine a_cvI (pc := 78) hG (As := [.int (nI 12), .int (h2.1 2 (nI 2).toNatClampNeg)]) (st := []) sm_0 cl_X12 mk_X12_looksAt t_1810 (by omega) (fun z hz => c_M_looksAt F (nI 12) (h2.1 2 (nI 2).toNatClampNeg) _  z hz) rfl (Nat.le_of_ble_eq_true rfl) hd dX12_bookLine_78 (fun r5 h4 hd => ?_)
    refine a_if_ne (pc := 81) hG (tgt := 86) hd dX12_bookLine_81 (by decide) (fun hd => ?_) (fun hd => ?_)
    · refine a_aload_n (pc := 86) hG 1 rfl dX12_bookLine_86 rfl ?_
      refine a_getI (pc := 87) hG sm_0 cl_X12 ok_X12 32 (by decide) rfl t_1641 dX12_bookLine_87 ?_
      refine a_bipush (pc := 90) hG dX12_bookLine_90 (v := (nI 40)) rfl ?_
      refine a_ic_ne (pc := 92) hG (tgt := 101) hd dX12_bookLine_92 (by decide) (fun hd => ?_) (fun hd => ?_)
      · refine a_aload_n (pc := 101) hG 1 rfl dX12_bookLine_101 rfl ?_
        refine a_getR (pc := 102) hG sm_0 cl_X12 ok_X12 8 (by decide) rfl t_1617 dX12_bookLine_102 ?_
        refine a_iload_n (pc := 105) hG 0 rfl dX12_bookLine_105 rfl ?_
        refine a_iconst (pc := 106) hG dX12_bookLine_106 (v := (nI 1)) rfl ?_
        refine a_iadd (pc := 107) hG dX12_bookLine_107 ?_
        refine a_aload_n (pc := 108) hG 1 rfl dX12_bookLine_108 rfl ?_
        refine a_getI (pc := 109) hG sm_0 cl_X12 ok_X12 18 (by decide) rfl t_1627 dX12_bookLine_109 ?_
        refine a_iast (pc := 112) hG sm_4 hd dX12_bookLine_112 (fun h6 hd => ?_)
        refine a_aload_n (pc := 113) hG 1 rfl dX12_bookLine_113 rfl ?_
        refine a_cvN (pc := 114) hG (As := []) (st := []) sm_0 cl_X12 mk_X12_next t_1754 (by omega) (fun z hz => c_M_next F  _  z hz) rfl (Nat.le_of_ble_eq_true rfl) hd dX12_bookLine_114 (fun _ h7 hd => ?_)
        refine a_aload_n (pc := 117) hG 1 rfl dX12_bookLine_117 rfl ?_
        refine a_ldc2_w (pc := 118) hG t_1584 dX12_bookLine_118 ?_
        refine a_cvI (pc := 121) hG (As := [.long (499850634611 : Int64)]) (st := []) sm_0 cl_X12 mk_X12_isWord t_1772 (by omega) (fun z hz => c_M_isWord (499850634611 : Int64) _  z hz) rfl (Nat.le_of_ble_eq_true rfl) hd dX12_bookLine_121 (fun r9 h8 hd => ?_)
        refine a_join hd (Q := fun J : Int32 → HS → Option (Int32 × HS) => ∀ (v11 : Int32) (h12 : HS), J v11 h12 = some q → AW SHm ad 3 (some (.int q.1), q.2) Γ 160 [(0, .ref (ad 0)), (1, .int v1)] [.int v11] h12) (fun v11 h12 hd => ?_) (fun J10 hJ10 hd => ?_)
        · refine a_istore_nN (pc := 160) hG hd dX12_bookLine_160 rfl (by decide) (lf := fun x => [(2, .int x), (0, .ref (ad 0)), (1, .int v1)]) (fun _ => rfl) (fun v13 hd => ?_)
          refine a_iload_n (pc := 161) hG 0 rfl dX12_bookLine_161 rfl ?_
          refine a_if_ge (pc := 162) hG (tgt := 171) hd dX12_bookLine_162 (by decide) (fun hd => ?_) (fun hd => ?_)
          · refine a_aload_n (pc := 171) hG 1 rfl dX12_bookLine_171 rfl ?_
            refine a_getR (pc := 172) hG sm_0 cl_X12 ok_X12 8 (by decide) rfl t_1617 dX12_bookLine_172 ?_
            refine a_iload_n (pc := 175) hG 2 rfl dX12_bookLine_175 rfl ?_
            refine a_iload_n (pc := 176) hG 0 rfl dX12_bookLine_176 rfl ?_
            refine a_iast (pc := 177) hG sm_4 hd dX12_bookLine_177 (fun h14 hd => ?_)
            refine a_aload_n (pc := 178) hG 1 rfl dX12_bookLine_178 rfl ?_
            refine a_cvN (pc := 179) hG (As := []) (st := []) sm_0 cl_X12 mk_X12_next t_1754 (by omega) (fun z hz => c_M_next F  _  z hz) rfl (Nat.le_of_ble_eq_true rfl) hd dX12_bookLine_179 (fun _ h15 hd => ?_)
            refine a_iload_n (pc := 182) hG 0 rfl dX12_bookLine_182 rfl ?_
            refine a_iconst (pc := 183) hG dX12_bookLine_183 (v := (nI 2)) rfl ?_
            refine a_ic_ne (pc := 184) hG (tgt := 189) hd dX12_bookLine_184 (by decide) (fun hd => ?_) (fun hd => ?_)
            · refine a_aload_n (pc := 189) hG 1 rfl dX12_bookLine_189 rfl ?_
              refine a_iload_n (pc := 190) hG 0 rfl dX12_bookLine_190 rfl ?_
              refine a_join hd (Q := fun J : Int32 → HS → Option (Int32 × HS) => ∀ (v17 : Int32) (h18 : HS), J v17 h18 = some q → AW SHm ad 3 (some (.int q.1), q.2) Γ 200 [(0, .ref (ad 0)), (1, .int v1), (2, .int v13)] [.int v17, .ref (ad 0)] h18) (fun v17 h18 hd => ?_) (fun J16 hJ16 hd => ?_)
              · refine a_aload_n (pc := 200) hG 0 rfl dX12_bookLine_200 rfl ?_
                refine a_getR (pc := 201) hG sm_0 cl_X12 ok_X12 6 (by decide) rfl t_1615 dX12_bookLine_201 ?_
                refine a_iload_n (pc := 204) hG 2 rfl dX12_bookLine_204 rfl ?_
                refine a_join hd (Q := fun J : Int32 → HS → Option (Int32 × HS) => ∀ (v20 : Int32) (h21 : HS), J v20 h21 = some q → AW SHm ad 3 (some (.int q.1), q.2) Γ 213 [(0, .ref (ad 0)), (1, .int v1)] [.int v20, .ref (ad 2), .int v17, .ref (ad 0)] h21) (fun v20 h21 hd => ?_) (fun J19 hJ19 hd => ?_)
                · refine a_iald (pc := 213) hG sm_2 hd dX12_bookLine_213 (fun hd => ?_)
                  refine a_cvI (pc := 214) hG (As := [.int v17, .int (h21.1 2 v20.toNatClampNeg)]) (st := []) sm_0 cl_X12 mk_X12_looksAt t_1810 (by omega) (fun z hz => c_M_looksAt F v17 (h21.1 2 v20.toNatClampNeg) _  z hz) rfl (Nat.le_of_ble_eq_true rfl) hd dX12_bookLine_214 (fun r23 h22 hd => ?_)
                  refine a_if_ne (pc := 217) hG (tgt := 222) hd dX12_bookLine_217 (by decide) (fun hd => ?_) (fun hd => ?_)
                  · refine a_aload_n (pc := 222) hG 0 rfl dX12_bookLine_222 rfl ?_
                    refine a_getR (pc := 223) hG sm_0 cl_X12 ok_X12 8 (by decide) rfl t_1617 dX12_bookLine_223 ?_
                    refine a_iload_n (pc := 226) hG 1 rfl dX12_bookLine_226 rfl ?_
                    refine a_iconst (pc := 227) hG dX12_bookLine_227 (v := (nI 2)) rfl ?_
                    refine a_iadd (pc := 228) hG dX12_bookLine_228 ?_
                    refine a_aload_n (pc := 229) hG 0 rfl dX12_bookLine_229 rfl ?_
                    refine a_getI (pc := 230) hG sm_0 cl_X12 ok_X12 18 (by decide) rfl t_1627 dX12_bookLine_230 ?_
                    refine a_iast (pc := 233) hG sm_4 hd dX12_bookLine_233 (fun h24 hd => ?_)
                    refine a_aload_n (pc := 234) hG 0 rfl dX12_bookLine_234 rfl ?_
                    refine a_cvN (pc := 235) hG (As := []) (st := []) sm_0 cl_X12 mk_X12_next t_1754 (by omega) (fun z hz => c_M_next F  _  z hz) rfl (Nat.le_of_ble_eq_true rfl) hd dX12_bookLine_235 (fun _ h25 hd => ?_)
                    refine a_iconst (pc := 238) hG dX12_bookLine_238 (v := (nI 1)) rfl ?_
                    exact a_zret (pc := 239) hG hd dX12_bookLine_239
                  refine a_iconst (pc := 220) hG dX12_bookLine_220 (v := (nI 0)) rfl ?_
                  exact a_zret (pc := 221) hG hd dX12_bookLine_221
                refine a_if_ne (pc := 205) hG (tgt := 212) hd dX12_bookLine_205 (by decide) (fun hd => ?_) (fun hd => ?_)
                · refine a_iconst (pc := 212) hG dX12_bookLine_212 (v := (nI 1)) rfl ?_
                  exact AW.sub [0, 1] rfl (hJ19 _ _ hd)
                refine a_iconst (pc := 208) hG dX12_bookLine_208 (v := (nI 0)) rfl ?_
                refine a_goto (pc := 209) hG (tgt := 213) dX12_bookLine_209 (by decide) ?_
                exact AW.sub [0, 1] rfl (hJ19 _ _ hd)
              refine a_if_ne (pc := 191) hG (tgt := 198) hd dX12_bookLine_191 (by decide) (fun hd => ?_) (fun hd => ?_)
              · refine a_bipush (pc := 198) hG dX12_bookLine_198 (v := (nI 6)) rfl ?_
                exact AW.sub [1, 2, 0] rfl (hJ16 _ _ hd)
              refine a_iconst (pc := 194) hG dX12_bookLine_194 (v := (nI 0)) rfl ?_
              refine a_goto (pc := 195) hG (tgt := 200) dX12_bookLine_195 (by decide) ?_
              exact AW.sub [1, 2, 0] rfl (hJ16 _ _ hd)
            refine a_iconst (pc := 187) hG dX12_bookLine_187 (v := (nI 1)) rfl ?_
            exact a_zret (pc := 188) hG hd dX12_bookLine_188
          refine a_aload_n (pc := 165) hG 1 rfl dX12_bookLine_165 rfl ?_
          refine a_iconst (pc := 166) hG dX12_bookLine_166 (v := (nI 1)) rfl ?_
          refine a_cvI (pc := 167) hG (As := [.int (nI 1)]) (st := []) sm_0 cl_X12 mk_X12_bad t_1783 (by omega) (fun z hz => c_M_bad (nI 1) _  z hz) rfl (Nat.le_of_ble_eq_true rfl) hd dX12_bookLine_167 (fun r27 h26 hd => ?_)
          exact a_zret (pc := 170) hG hd dX12_bookLine_170
        refine a_if_eq (pc := 124) hG (tgt := 131) hd dX12_bookLine_124 (by decide) (fun hd => ?_) (fun hd => ?_)
        · refine a_aload_n (pc := 131) hG 1 rfl dX12_bookLine_131 rfl ?_
          refine a_ldc2_w (pc := 132) hG t_1585 dX12_bookLine_132 ?_
          refine a_cvI (pc := 135) hG (As := [.long (1685022067 : Int64)]) (st := []) sm_0 cl_X12 mk_X12_isWord t_1772 (by omega) (fun z hz => c_M_isWord (1685022067 : Int64) _  z hz) rfl (Nat.le_of_ble_eq_true rfl) hd dX12_bookLine_135 (fun r29 h28 hd => ?_)
          refine a_if_eq (pc := 138) hG (tgt := 145) hd dX12_bookLine_138 (by decide) (fun hd => ?_) (fun hd => ?_)
          · refine a_aload_n (pc := 145) hG 1 rfl dX12_bookLine_145 rfl ?_
            refine a_ldc2_w (pc := 146) hG t_1586 dX12_bookLine_146 ?_
            refine a_cvI (pc := 149) hG (As := [.long (431416635507 : Int64)]) (st := []) sm_0 cl_X12 mk_X12_isWord t_1772 (by omega) (fun z hz => c_M_isWord (431416635507 : Int64) _  z hz) rfl (Nat.le_of_ble_eq_true rfl) hd dX12_bookLine_149 (fun r31 h30 hd => ?_)
            refine a_if_eq (pc := 152) hG (tgt := 159) hd dX12_bookLine_152 (by decide) (fun hd => ?_) (fun hd => ?_)
            · refine a_iconst (pc := 159) hG dX12_bookLine_159 (v := (-1 : Int32)) rfl ?_
              exact AW.sub [1, 0] rfl (hJ10 _ _ hd)
            refine a_iconst (pc := 155) hG dX12_bookLine_155 (v := (nI 2)) rfl ?_
            refine a_goto (pc := 156) hG (tgt := 160) dX12_bookLine_156 (by decide) ?_
            exact AW.sub [1, 0] rfl (hJ10 _ _ hd)
          refine a_iconst (pc := 141) hG dX12_bookLine_141 (v := (nI 1)) rfl ?_
          refine a_goto (pc := 142) hG (tgt := 160) dX12_bookLine_142 (by decide) ?_
          exact AW.sub [1, 0] rfl (hJ10 _ _ hd)
        refine a_iconst (pc := 127) hG dX12_bookLine_127 (v := (nI 0)) rfl ?_
        refine a_goto (pc := 128) hG (tgt := 160) dX12_bookLine_128 (by decide) ?_
        exact AW.sub [1, 0] rfl (hJ10 _ _ hd)
      refine a_aload_n (pc := 95) hG 1 rfl dX12_bookLine_95 rfl ?_
      refine a_iconst (pc := 96) hG dX12_bookLine_96 (v := (nI 4)) rfl ?_
      refine a_cvI (pc := 97) hG (As := [.int (nI 4)]) (st := []) sm_0 cl_X12 mk_X12_bad t_1783 (by omega) (fun z hz => c_M_bad (nI 4) _  z hz) rfl (Nat.le_of_ble_eq_true rfl) hd dX12_bookLine_97 (fun r33 h32 hd => ?_)
      exact a_zret (pc := 100) hG hd dX12_bookLine_100
    refine a_iconst (pc := 84) hG dX12_bookLine_84 (v := (nI 0)) rfl ?_
    exact a_zret (pc := 85) hG hd dX12_bookLine_85
  refine a_aload_n (pc := 17) hG 1 rfl dX12_bookLine_17 rfl ?_
  refine a_getI (pc := 18) hG sm_0 cl_X12 ok_X12 32 (by decide) rfl t_1641 dX12_bookLine_18 ?_
  refine a_bipush (pc := 21) hG dX12_bookLine_21 (v := (nI 40)) rfl ?_
  refine a_ic_ne (pc := 23) hG (tgt := 32) hd dX12_bookLine_23 (by decide) (fun hd => ?_) (fun hd => ?_)
  · refine a_aload_n (pc := 32) hG 1 rfl dX12_bookLine_32 rfl ?_
    refine a_cvN (pc := 33) hG (As := []) (st := []) sm_0 cl_X12 mk_X12_next t_1754 (by omega) (fun z hz => c_M_next F  _  z hz) rfl (Nat.le_of_ble_eq_true rfl) hd dX12_bookLine_33 (fun _ h34 hd => ?_)
    refine a_aload_n (pc := 36) hG 1 rfl dX12_bookLine_36 rfl ?_
    refine a_iconst (pc := 37) hG dX12_bookLine_37 (v := (nI 1)) rfl ?_
    refine a_bipush (pc := 38) hG dX12_bookLine_38 (v := (nI 50)) rfl ?_
    refine a_cvI (pc := 40) hG (As := [.int (nI 1), .int (nI 50)]) (st := []) sm_0 cl_X12 mk_X12_takes t_1791 (by omega) (fun z hz => c_M_takes F (nI 1) (nI 50) _  z hz) rfl (Nat.le_of_ble_eq_true rfl) hd dX12_bookLine_40 (fun r36 h35 hd => ?_)
    refine a_if_ne (pc := 43) hG (tgt := 48) hd dX12_bookLine_43 (by decide) (fun hd => ?_) (fun hd => ?_)
    · refine a_aload_n (pc := 48) hG 1 rfl dX12_bookLine_48 rfl ?_
      refine a_getR (pc := 49) hG sm_0 cl_X12 ok_X12 8 (by decide) rfl t_1617 dX12_bookLine_49 ?_
      refine a_iload_n (pc := 52) hG 0 rfl dX12_bookLine_52 rfl ?_
      refine a_iconst (pc := 53) hG dX12_bookLine_53 (v := (nI 3)) rfl ?_
      refine a_iast (pc := 54) hG sm_4 hd dX12_bookLine_54 (fun h37 hd => ?_)
      refine a_aload_n (pc := 55) hG 1 rfl dX12_bookLine_55 rfl ?_
      refine a_getR (pc := 56) hG sm_0 cl_X12 ok_X12 8 (by decide) rfl t_1617 dX12_bookLine_56 ?_
      refine a_iload_n (pc := 59) hG 0 rfl dX12_bookLine_59 rfl ?_
      refine a_iconst (pc := 60) hG dX12_bookLine_60 (v := (nI 1)) rfl ?_
      refine a_iadd (pc := 61) hG dX12_bookLine_61 ?_
      refine a_aload_n (pc := 62) hG 1 rfl dX12_bookLine_62 rfl ?_
      refine a_getI (pc := 63) hG sm_0 cl_X12 ok_X12 18 (by decide) rfl t_1627 dX12_bookLine_63 ?_
      refine a_iast (pc := 66) hG sm_4 hd dX12_bookLine_66 (fun h38 hd => ?_)
      refine a_iconst (pc := 67) hG dX12_bookLine_67 (v := (nI 1)) rfl ?_
      exact a_zret (pc := 68) hG hd dX12_bookLine_68
    refine a_iconst (pc := 46) hG dX12_bookLine_46 (v := (nI 0)) rfl ?_
    exact a_zret (pc := 47) hG hd dX12_bookLine_47
  refine a_aload_n (pc := 26) hG 1 rfl dX12_bookLine_26 rfl ?_
  refine a_iconst (pc := 27) hG dX12_bookLine_27 (v := (nI 4)) rfl ?_
  refine a_cvI (pc := 28) hG (As := [.int (nI 4)]) (st := []) sm_0 cl_X12 mk_X12_bad t_1783 (by omega) (fun z hz => c_M_bad (nI 4) _  z hz) rfl (Nat.le_of_ble_eq_true rfl) hd dX12_bookLine_28 (fun r40 h39 hd => ?_)
  exact a_zret (pc := 31) hG hd dX12_bookLine_31
theorem dX12_books_0 : decode cX12_books 0 = .ok (.aload_n 0, 1) := by decide +kernel
theorem dX12_books_1 : decode cX12_books 1 = .ok (.getfield 40, 3) := by decide +kernel
theorem dX12_books_4 : decode cX12_books 4 = .ok (.iload_n 1, 1) := by decide +kernel
theorem dX12_books_5 : decode cX12_books 5 = .ok (.iconst 1, 1) := by decide +kernel
theorem dX12_books_6 : decode cX12_books 6 = .ok (.iadd, 1) := by decide +kernel
theorem dX12_books_7 : decode cX12_books 7 = .ok (.iaload, 1) := by decide +kernel
theorem dX12_books_8 : decode cX12_books 8 = .ok (.istore_n 2, 1) := by decide +kernel
theorem dX12_books_9 : decode cX12_books 9 = .ok (.aload_n 0, 1) := by decide +kernel
theorem dX12_books_10 : decode cX12_books 10 = .ok (.getfield 40, 3) := by decide +kernel
theorem dX12_books_13 : decode cX12_books 13 = .ok (.iload_n 1, 1) := by decide +kernel
theorem dX12_books_14 : decode cX12_books 14 = .ok (.iconst 2, 1) := by decide +kernel
theorem dX12_books_15 : decode cX12_books 15 = .ok (.iadd, 1) := by decide +kernel
theorem dX12_books_16 : decode cX12_books 16 = .ok (.iaload, 1) := by decide +kernel
theorem dX12_books_17 : decode cX12_books 17 = .ok (.istore_n 3, 1) := by decide +kernel
theorem dX12_books_18 : decode cX12_books 18 = .ok (.iconst 0, 1) := by decide +kernel
theorem dX12_books_19 : decode cX12_books 19 = .ok (.istore 4, 2) := by decide +kernel
theorem dX12_books_21 : decode cX12_books 21 = .ok (.aload_n 0, 1) := by decide +kernel
theorem dX12_books_22 : decode cX12_books 22 = .ok (.getfield 40, 3) := by decide +kernel
theorem dX12_books_25 : decode cX12_books 25 = .ok (.iload_n 1, 1) := by decide +kernel
theorem dX12_books_26 : decode cX12_books 26 = .ok (.iaload, 1) := by decide +kernel
theorem dX12_books_27 : decode cX12_books 27 = .ok (.tableswitch 113 0 2 #[25, 47, 81], 25) := by decide +kernel
theorem dX12_books_52 : decode cX12_books 52 = .ok (.aload_n 0, 1) := by decide +kernel
theorem dX12_books_53 : decode cX12_books 53 = .ok (.iload_n 2, 1) := by decide +kernel
theorem dX12_books_54 : decode cX12_books 54 = .ok (.iload_n 3, 1) := by decide +kernel
theorem dX12_books_55 : decode cX12_books 55 = .ok (.invokevirtual 278, 3) := by decide +kernel
theorem dX12_books_58 : decode cX12_books 58 = .ok (.istore 4, 2) := by decide +kernel
theorem dX12_books_60 : decode cX12_books 60 = .ok (.iload 4, 2) := by decide +kernel
theorem dX12_books_62 : decode cX12_books 62 = .ok (.ifCond .ne 9, 3) := by decide +kernel
theorem dX12_books_65 : decode cX12_books 65 = .ok (.aload_n 0, 1) := by decide +kernel
theorem dX12_books_66 : decode cX12_books 66 = .ok (.iload_n 2, 1) := by decide +kernel
theorem dX12_books_67 : decode cX12_books 67 = .ok (.iload_n 3, 1) := by decide +kernel
theorem dX12_books_68 : decode cX12_books 68 = .ok (.invokevirtual 284, 3) := by decide +kernel
theorem dX12_books_71 : decode cX12_books 71 = .ok (.iload 4, 2) := by decide +kernel
theorem dX12_books_73 : decode cX12_books 73 = .ok (.ireturn, 1) := by decide +kernel
theorem dX12_books_74 : decode cX12_books 74 = .ok (.aload_n 0, 1) := by decide +kernel
theorem dX12_books_75 : decode cX12_books 75 = .ok (.iload_n 2, 1) := by decide +kernel
theorem dX12_books_76 : decode cX12_books 76 = .ok (.iload_n 3, 1) := by decide +kernel
theorem dX12_books_77 : decode cX12_books 77 = .ok (.invokevirtual 288, 3) := by decide +kernel
theorem dX12_books_80 : decode cX12_books 80 = .ok (.istore 4, 2) := by decide +kernel
theorem dX12_books_82 : decode cX12_books 82 = .ok (.iload 4, 2) := by decide +kernel
theorem dX12_books_84 : decode cX12_books 84 = .ok (.ifCond .ne 9, 3) := by decide +kernel
theorem dX12_books_87 : decode cX12_books 87 = .ok (.aload_n 0, 1) := by decide +kernel
theorem dX12_books_88 : decode cX12_books 88 = .ok (.iload_n 2, 1) := by decide +kernel
theorem dX12_books_89 : decode cX12_books 89 = .ok (.iload_n 3, 1) := by decide +kernel
theorem dX12_books_90 : decode cX12_books 90 = .ok (.invokevirtual 291, 3) := by decide +kernel
theorem dX12_books_93 : decode cX12_books 93 = .ok (.iload 4, 2) := by decide +kernel
theorem dX12_books_95 : decode cX12_books 95 = .ok (.ifCond .ne 7, 3) := by decide +kernel
theorem dX12_books_98 : decode cX12_books 98 = .ok (.iconst 0, 1) := by decide +kernel
theorem dX12_books_99 : decode cX12_books 99 = .ok (.goto 8, 3) := by decide +kernel
theorem dX12_books_102 : decode cX12_books 102 = .ok (.bipush 10, 2) := by decide +kernel
theorem dX12_books_104 : decode cX12_books 104 = .ok (.iload 4, 2) := by decide +kernel
theorem dX12_books_106 : decode cX12_books 106 = .ok (.iadd, 1) := by decide +kernel
theorem dX12_books_107 : decode cX12_books 107 = .ok (.ireturn, 1) := by decide +kernel
theorem dX12_books_108 : decode cX12_books 108 = .ok (.aload_n 0, 1) := by decide +kernel
theorem dX12_books_109 : decode cX12_books 109 = .ok (.iload_n 2, 1) := by decide +kernel
theorem dX12_books_110 : decode cX12_books 110 = .ok (.invokevirtual 294, 3) := by decide +kernel
theorem dX12_books_113 : decode cX12_books 113 = .ok (.istore 4, 2) := by decide +kernel
theorem dX12_books_115 : decode cX12_books 115 = .ok (.iload 4, 2) := by decide +kernel
theorem dX12_books_117 : decode cX12_books 117 = .ok (.ifCond .ne 8, 3) := by decide +kernel
theorem dX12_books_120 : decode cX12_books 120 = .ok (.aload_n 0, 1) := by decide +kernel
theorem dX12_books_121 : decode cX12_books 121 = .ok (.iload_n 2, 1) := by decide +kernel
theorem dX12_books_122 : decode cX12_books 122 = .ok (.invokevirtual 298, 3) := by decide +kernel
theorem dX12_books_125 : decode cX12_books 125 = .ok (.iload 4, 2) := by decide +kernel
theorem dX12_books_127 : decode cX12_books 127 = .ok (.ifCond .ne 7, 3) := by decide +kernel
theorem dX12_books_130 : decode cX12_books 130 = .ok (.iconst 0, 1) := by decide +kernel
theorem dX12_books_131 : decode cX12_books 131 = .ok (.goto 8, 3) := by decide +kernel
theorem dX12_books_134 : decode cX12_books 134 = .ok (.bipush 20, 2) := by decide +kernel
theorem dX12_books_136 : decode cX12_books 136 = .ok (.iload 4, 2) := by decide +kernel
theorem dX12_books_138 : decode cX12_books 138 = .ok (.iadd, 1) := by decide +kernel
theorem dX12_books_139 : decode cX12_books 139 = .ok (.ireturn, 1) := by decide +kernel
theorem dX12_books_140 : decode cX12_books 140 = .ok (.aload_n 0, 1) := by decide +kernel
theorem dX12_books_141 : decode cX12_books 141 = .ok (.getfield 33, 3) := by decide +kernel
theorem dX12_books_144 : decode cX12_books 144 = .ok (.bipush 72, 2) := by decide +kernel
theorem dX12_books_146 : decode cX12_books 146 = .ok (.iaload, 1) := by decide +kernel
theorem dX12_books_147 : decode cX12_books 147 = .ok (.iload_n 2, 1) := by decide +kernel
theorem dX12_books_148 : decode cX12_books 148 = .ok (.iadd, 1) := by decide +kernel
theorem dX12_books_149 : decode cX12_books 149 = .ok (.sipush 200, 3) := by decide +kernel
theorem dX12_books_152 : decode cX12_books 152 = .ok (.if_icmp .le 6, 3) := by decide +kernel
theorem dX12_books_155 : decode cX12_books 155 = .ok (.bipush 31, 2) := by decide +kernel
theorem dX12_books_157 : decode cX12_books 157 = .ok (.ireturn, 1) := by decide +kernel
theorem dX12_books_158 : decode cX12_books 158 = .ok (.iconst 0, 1) := by decide +kernel
theorem dX12_books_159 : decode cX12_books 159 = .ok (.istore 5, 2) := by decide +kernel
theorem dX12_books_161 : decode cX12_books 161 = .ok (.iload 5, 2) := by decide +kernel
theorem dX12_books_163 : decode cX12_books 163 = .ok (.iload_n 2, 1) := by decide +kernel
theorem dX12_books_164 : decode cX12_books 164 = .ok (.if_icmp .ge 13, 3) := by decide +kernel
theorem dX12_books_167 : decode cX12_books 167 = .ok (.aload_n 0, 1) := by decide +kernel
theorem dX12_books_168 : decode cX12_books 168 = .ok (.invokevirtual 307, 3) := by decide +kernel
theorem dX12_books_171 : decode cX12_books 171 = .ok (.iinc 5 1, 3) := by decide +kernel
theorem dX12_books_174 : decode cX12_books 174 = .ok (.goto (-13), 3) := by decide +kernel
theorem dX12_books_177 : decode cX12_books 177 = .ok (.iconst 0, 1) := by decide +kernel
theorem dX12_books_178 : decode cX12_books 178 = .ok (.ireturn, 1) := by decide +kernel
set_option maxHeartbeats 4000000 in
theorem w_l_M_books_0 {ad wad : Nat → Nat} {Γ : Ctx} (F : Nat) {n : Nat} (hn : 8 ≤ n) (hG : Cx SHm ad wad cX12_books 6 RX12 (some .int) (n) Γ) {q : Int32 × HS} {x2 : Int32} {g : Nat} {x5 : Int32} {h : HS} (hd : l_M_books_0 F x2 g x5 h = some q) : AW SHm ad 6 (some (.int q.1), q.2) Γ 161 [(0, .ref (ad 0)), (2, .int x2), (5, .int x5)] [] h := by
  induction g generalizing x5 h with
  | zero => unfold l_M_books_0 at hd; cases hd
  | succ g ih =>
    unfold l_M_books_0 at hd
    refine a_iload (pc := 161) hG 2 rfl dX12_books_161 ?_
    refine a_iload_n (pc := 163) hG 1 rfl dX12_books_163 rfl ?_
    refine a_ic_ge (pc := 164) hG (tgt := 177) hd dX12_books_164 (by decide) (fun hd => ?_) (fun hd => ?_)
    · refine a_iconst (pc := 177) hG dX12_books_177 (v := (nI 0)) rfl ?_
      exact a_iret (pc := 178) hG hd dX12_books_178
    refine a_aload_n (pc := 167) hG 0 rfl dX12_books_167 rfl ?_
    refine a_cvN (pc := 168) hG (As := []) (st := []) sm_0 cl_X12 mk_X12_week t_1940 (by omega) (fun z hz => c_M_week F  _  z hz) rfl (Nat.le_of_ble_eq_true rfl) hd dX12_books_168 (fun _ h21 hd => ?_)
    refine a_iincN (pc := 171) hG (c0 := (nI 1)) 2 rfl hd dX12_books_171 rfl (by decide) (lf := fun x => [(5, .int x), (0, .ref (ad 0)), (2, .int x2)]) (fun _ => rfl) (fun v22 hd => ?_)
    refine a_goto (pc := 174) hG (tgt := 161) dX12_books_174 (by decide) ?_
    exact AW.sub [1, 2, 0] rfl (ih hd)
set_option maxHeartbeats 4000000 in
theorem c_M_books {ad wad : Nat → Nat} (F : Nat) (a0 : Int32) (h : HS)  (q : Int32 × HS) (hd : f_M_books F a0 h = some q) : Ctr SHm ad wad yX12_books cX12_books 6 (some .int) 8 [.ref (ad 0), .int a0] h (some (.int q.1), q.2) := by
  refine enter (own := RX12) (lv := [(0, .ref (ad 0)), (1, .int a0)]) (by decide +kernel) rfl (Nat.le_of_ble_eq_true rfl) rfl (fun Γ hG => ?_)
  unfold f_M_books at hd
  refine a_aload_n (pc := 0) hG 0 rfl dX12_books_0 rfl ?_
  refine a_getR (pc := 1) hG sm_0 cl_X12 ok_X12 8 (by decide) rfl t_1617 dX12_books_1 ?_
  refine a_iload_n (pc := 4) hG 1 rfl dX12_books_4 rfl ?_
  refine a_iconst (pc := 5) hG dX12_books_5 (v := (nI 1)) rfl ?_
  refine a_iadd (pc := 6) hG dX12_books_6 ?_
  refine a_iald (pc := 7) hG sm_4 hd dX12_books_7 (fun hd => ?_)
  refine a_istore_nN (pc := 8) hG hd dX12_books_8 rfl (by decide) (lf := fun x => [(2, .int x), (0, .ref (ad 0)), (1, .int a0)]) (fun _ => rfl) (fun v1 hd => ?_)
  refine a_aload_n (pc := 9) hG 1 rfl dX12_books_9 rfl ?_
  refine a_getR (pc := 10) hG sm_0 cl_X12 ok_X12 8 (by decide) rfl t_1617 dX12_books_10 ?_
  refine a_iload_n (pc := 13) hG 2 rfl dX12_books_13 rfl ?_
  refine a_iconst (pc := 14) hG dX12_books_14 (v := (nI 2)) rfl ?_
  refine a_iadd (pc := 15) hG dX12_books_15 ?_
  refine a_iald (pc := 16) hG sm_4 hd dX12_books_16 (fun hd => ?_)
  refine a_istore_nN (pc := 17) hG hd dX12_books_17 rfl (by decide) (lf := fun x => [(3, .int x), (2, .int v1), (0, .ref (ad 0)), (1, .int a0)]) (fun _ => rfl) (fun v2 hd => ?_)
  refine a_iconst (pc := 18) hG dX12_books_18 (v := (nI 0)) rfl ?_
  refine a_istoreN (pc := 19) hG hd dX12_books_19 (by decide) (lf := fun x => [(4, .int x), (3, .int v2), (2, .int v1), (0, .ref (ad 0)), (1, .int a0)]) (fun _ => rfl) (fun v3 hd => ?_)
  refine a_aload_n (pc := 21) hG 3 rfl dX12_books_21 rfl ?_
  refine a_getR (pc := 22) hG sm_0 cl_X12 ok_X12 8 (by decide) rfl t_1617 dX12_books_22 ?_
  refine a_iload_n (pc := 25) hG 4 rfl dX12_books_25 rfl ?_
  refine a_iald (pc := 26) hG sm_4 hd dX12_books_26 (fun hd => ?_)
  refine a_tcase (pc := 27) hG ((nI 0)) (tgt := 52) hd dX12_books_27 (by decide) (by decide) rfl (by decide) (fun hd => ?_) (fun n0 hd => ?_)
  · refine a_aload_n (pc := 52) hG 3 rfl dX12_books_52 rfl ?_
    refine a_iload_n (pc := 53) hG 2 rfl dX12_books_53 rfl ?_
    refine a_iload_n (pc := 54) hG 1 rfl dX12_books_54 rfl ?_
    refine a_cvI (pc := 55) hG (As := [.int v1, .int v2]) (st := []) sm_0 cl_X12 mk_X12_whyTake t_1885 (by omega) (fun z hz => c_M_whyTake F v1 v2 _  z hz) rfl (Nat.le_of_ble_eq_true rfl) hd dX12_books_55 (fun r5 h4 hd => ?_)
    refine a_istoreN (pc := 58) hG hd dX12_books_58 (by decide) (lf := fun x => [(4, .int x), (3, .int v2), (2, .int v1), (0, .ref (ad 0)), (1, .int a0)]) (fun _ => rfl) (fun v6 hd => ?_)
    refine a_iload (pc := 60) hG 0 rfl dX12_books_60 ?_
    refine a_if_ne (pc := 62) hG (tgt := 71) hd dX12_books_62 (by decide) (fun hd => ?_) (fun hd => ?_)
    · refine a_iload (pc := 71) hG 0 rfl dX12_books_71 ?_
      exact a_iret (pc := 73) hG hd dX12_books_73
    refine a_aload_n (pc := 65) hG 3 rfl dX12_books_65 rfl ?_
    refine a_iload_n (pc := 66) hG 2 rfl dX12_books_66 rfl ?_
    refine a_iload_n (pc := 67) hG 1 rfl dX12_books_67 rfl ?_
    refine a_cvN (pc := 68) hG (As := [.int v1, .int v2]) (st := []) sm_0 cl_X12 mk_X12_taking t_1901 (by omega) (fun z hz => c_M_taking v1 v2 _  z hz) rfl (Nat.le_of_ble_eq_true rfl) hd dX12_books_68 (fun _ h7 hd => ?_)
    refine a_iload (pc := 71) hG 0 rfl dX12_books_71 ?_
    exact a_iret (pc := 73) hG hd dX12_books_73
  refine a_tcase (pc := 27) hG ((nI 1)) (tgt := 74) hd dX12_books_27 (by decide) (by decide) rfl (by decide) (fun hd => ?_) (fun n1 hd => ?_)
  · refine a_aload_n (pc := 74) hG 3 rfl dX12_books_74 rfl ?_
    refine a_iload_n (pc := 75) hG 2 rfl dX12_books_75 rfl ?_
    refine a_iload_n (pc := 76) hG 1 rfl dX12_books_76 rfl ?_
    refine a_cvI (pc := 77) hG (As := [.int v1, .int v2]) (st := []) sm_0 cl_X12 mk_X12_whyAct t_1909 (by omega) (fun z hz => c_M_whyAct v1 v2 _  z hz) rfl (Nat.le_of_ble_eq_true rfl) hd dX12_books_77 (fun r9 h8 hd => ?_)
    refine a_istoreN (pc := 80) hG hd dX12_books_80 (by decide) (lf := fun x => [(4, .int x), (3, .int v2), (2, .int v1), (0, .ref (ad 0)), (1, .int a0)]) (fun _ => rfl) (fun v10 hd => ?_)
    refine a_iload (pc := 82) hG 0 rfl dX12_books_82 ?_
    refine a_join hd (Q := fun J : HS → Option (Int32 × HS) => ∀  (h12 : HS), J  h12 = some q → AW SHm ad 6 (some (.int q.1), q.2) Γ 93 [(4, .int v10)] [] h12) (fun  h12 hd => ?_) (fun J11 hJ11 hd => ?_)
    · refine a_iload (pc := 93) hG 0 rfl dX12_books_93 ?_
      refine a_if_ne (pc := 95) hG (tgt := 102) hd dX12_books_95 (by decide) (fun hd => ?_) (fun hd => ?_)
      · refine a_bipush (pc := 102) hG dX12_books_102 (v := (nI 10)) rfl ?_
        refine a_iload (pc := 104) hG 0 rfl dX12_books_104 ?_
        refine a_iadd (pc := 106) hG dX12_books_106 ?_
        exact a_iret (pc := 107) hG hd dX12_books_107
      refine a_iconst (pc := 98) hG dX12_books_98 (v := (nI 0)) rfl ?_
      refine a_goto (pc := 99) hG (tgt := 107) dX12_books_99 (by decide) ?_
      exact a_iret (pc := 107) hG hd dX12_books_107
    refine a_if_ne (pc := 84) hG (tgt := 93) hd dX12_books_84 (by decide) (fun hd => ?_) (fun hd => ?_)
    · exact AW.sub [0] rfl (hJ11  _ hd)
    refine a_aload_n (pc := 87) hG 3 rfl dX12_books_87 rfl ?_
    refine a_iload_n (pc := 88) hG 2 rfl dX12_books_88 rfl ?_
    refine a_iload_n (pc := 89) hG 1 rfl dX12_books_89 rfl ?_
    refine a_cvN (pc := 90) hG (As := [.int v1, .int v2]) (st := []) sm_0 cl_X12 mk_X12_acting t_1913 (by omega) (fun z hz => c_M_acting v1 v2 _  z hz) rfl (Nat.le_of_ble_eq_true rfl) hd dX12_books_90 (fun _ h13 hd => ?_)
    exact AW.sub [0] rfl (hJ11  _ hd)
  refine a_tcase (pc := 27) hG ((nI 2)) (tgt := 108) hd dX12_books_27 (by decide) (by decide) rfl (by decide) (fun hd => ?_) (fun n2 hd => ?_)
  · refine a_aload_n (pc := 108) hG 3 rfl dX12_books_108 rfl ?_
    refine a_iload_n (pc := 109) hG 2 rfl dX12_books_109 rfl ?_
    refine a_cvI (pc := 110) hG (As := [.int v1]) (st := []) sm_0 cl_X12 mk_X12_whyDrop t_1921 (by omega) (fun z hz => c_M_whyDrop v1 _  z hz) rfl (Nat.le_of_ble_eq_true rfl) hd dX12_books_110 (fun r15 h14 hd => ?_)
    refine a_istoreN (pc := 113) hG hd dX12_books_113 (by decide) (lf := fun x => [(4, .int x), (3, .int v2), (2, .int v1), (0, .ref (ad 0)), (1, .int a0)]) (fun _ => rfl) (fun v16 hd => ?_)
    refine a_iload (pc := 115) hG 0 rfl dX12_books_115 ?_
    refine a_join hd (Q := fun J : HS → Option (Int32 × HS) => ∀  (h18 : HS), J  h18 = some q → AW SHm ad 6 (some (.int q.1), q.2) Γ 125 [(4, .int v16)] [] h18) (fun  h18 hd => ?_) (fun J17 hJ17 hd => ?_)
    · refine a_iload (pc := 125) hG 0 rfl dX12_books_125 ?_
      refine a_if_ne (pc := 127) hG (tgt := 134) hd dX12_books_127 (by decide) (fun hd => ?_) (fun hd => ?_)
      · refine a_bipush (pc := 134) hG dX12_books_134 (v := (nI 20)) rfl ?_
        refine a_iload (pc := 136) hG 0 rfl dX12_books_136 ?_
        refine a_iadd (pc := 138) hG dX12_books_138 ?_
        exact a_iret (pc := 139) hG hd dX12_books_139
      refine a_iconst (pc := 130) hG dX12_books_130 (v := (nI 0)) rfl ?_
      refine a_goto (pc := 131) hG (tgt := 139) dX12_books_131 (by decide) ?_
      exact a_iret (pc := 139) hG hd dX12_books_139
    refine a_if_ne (pc := 117) hG (tgt := 125) hd dX12_books_117 (by decide) (fun hd => ?_) (fun hd => ?_)
    · exact AW.sub [0] rfl (hJ17  _ hd)
    refine a_aload_n (pc := 120) hG 3 rfl dX12_books_120 rfl ?_
    refine a_iload_n (pc := 121) hG 2 rfl dX12_books_121 rfl ?_
    refine a_cvN (pc := 122) hG (As := [.int v1]) (st := []) sm_0 cl_X12 mk_X12_dropping t_1925 (by omega) (fun z hz => c_M_dropping F v1 _  z hz) rfl (Nat.le_of_ble_eq_true rfl) hd dX12_books_122 (fun _ h19 hd => ?_)
    exact AW.sub [0] rfl (hJ17  _ hd)
  refine a_tdef (pc := 27) hG (tgt := 140) dX12_books_27 (by have en0 := sw_ne (z := 0) rfl n0; have en1 := sw_ne (z := 1) rfl n1; have en2 := sw_ne (z := 2) rfl n2; omega) (by decide) ?_
  refine a_aload_n (pc := 140) hG 3 rfl dX12_books_140 rfl ?_
  refine a_getR (pc := 141) hG sm_0 cl_X12 ok_X12 6 (by decide) rfl t_1615 dX12_books_141 ?_
  refine a_bipush (pc := 144) hG dX12_books_144 (v := (nI 72)) rfl ?_
  refine a_iald (pc := 146) hG sm_2 hd dX12_books_146 (fun hd => ?_)
  refine a_iload_n (pc := 147) hG 2 rfl dX12_books_147 rfl ?_
  refine a_iadd (pc := 148) hG dX12_books_148 ?_
  refine a_sipush (pc := 149) hG dX12_books_149 (v := (nI 200)) rfl ?_
  refine a_ic_le (pc := 152) hG (tgt := 158) hd dX12_books_152 (by decide) (fun hd => ?_) (fun hd => ?_)
  · refine a_iconst (pc := 158) hG dX12_books_158 (v := (nI 0)) rfl ?_
    refine a_istoreN (pc := 159) hG hd dX12_books_159 (by decide) (lf := fun x => [(5, .int x), (4, .int v3), (3, .int v2), (2, .int v1), (0, .ref (ad 0)), (1, .int a0)]) (fun _ => rfl) (fun v20 hd => ?_)
    refine AW.sub [4, 3, 0] rfl ?_
    exact w_l_M_books_0 F (by omega) hG hd
  refine a_bipush (pc := 155) hG dX12_books_155 (v := (nI 31)) rfl ?_
  exact a_iret (pc := 157) hG hd dX12_books_157
theorem dX12_ledger_0 : decode cX12_ledger 0 = .ok (.aload_n 0, 1) := by decide +kernel
theorem dX12_ledger_1 : decode cX12_ledger 1 = .ok (.iconst 0, 1) := by decide +kernel
theorem dX12_ledger_2 : decode cX12_ledger 2 = .ok (.putfield 1, 3) := by decide +kernel
theorem dX12_ledger_5 : decode cX12_ledger 5 = .ok (.iload_n 1, 1) := by decide +kernel
theorem dX12_ledger_6 : decode cX12_ledger 6 = .ok (.iconst 0, 1) := by decide +kernel
theorem dX12_ledger_7 : decode cX12_ledger 7 = .ok (.iconst 1, 1) := by decide +kernel
theorem dX12_ledger_8 : decode cX12_ledger 8 = .ok (.invokestatic 184, 3) := by decide +kernel
theorem dX12_ledger_11 : decode cX12_ledger 11 = .ok (.ifCond .ne 7, 3) := by decide +kernel
theorem dX12_ledger_14 : decode cX12_ledger 14 = .ok (.sipush (-1000), 3) := by decide +kernel
theorem dX12_ledger_17 : decode cX12_ledger 17 = .ok (.ireturn, 1) := by decide +kernel
theorem dX12_ledger_18 : decode cX12_ledger 18 = .ok (.aload_n 0, 1) := by decide +kernel
theorem dX12_ledger_19 : decode cX12_ledger 19 = .ok (.sipush 400, 3) := by decide +kernel
theorem dX12_ledger_22 : decode cX12_ledger 22 = .ok (.invokevirtual 225, 3) := by decide +kernel
theorem dX12_ledger_25 : decode cX12_ledger 25 = .ok (.aload_n 0, 1) := by decide +kernel
theorem dX12_ledger_26 : decode cX12_ledger 26 = .ok (.iconst 0, 1) := by decide +kernel
theorem dX12_ledger_27 : decode cX12_ledger 27 = .ok (.putfield 169, 3) := by decide +kernel
theorem dX12_ledger_30 : decode cX12_ledger 30 = .ok (.aload_n 0, 1) := by decide +kernel
theorem dX12_ledger_31 : decode cX12_ledger 31 = .ok (.iconst 0, 1) := by decide +kernel
theorem dX12_ledger_32 : decode cX12_ledger 32 = .ok (.putfield 379, 3) := by decide +kernel
theorem dX12_ledger_35 : decode cX12_ledger 35 = .ok (.aload_n 0, 1) := by decide +kernel
theorem dX12_ledger_36 : decode cX12_ledger 36 = .ok (.invokevirtual 181, 3) := by decide +kernel
theorem dX12_ledger_39 : decode cX12_ledger 39 = .ok (.aload_n 0, 1) := by decide +kernel
theorem dX12_ledger_40 : decode cX12_ledger 40 = .ok (.getfield 152, 3) := by decide +kernel
theorem dX12_ledger_43 : decode cX12_ledger 43 = .ok (.ifCond .eq 40, 3) := by decide +kernel
theorem dX12_ledger_46 : decode cX12_ledger 46 = .ok (.aload_n 0, 1) := by decide +kernel
theorem dX12_ledger_47 : decode cX12_ledger 47 = .ok (.invokevirtual 382, 3) := by decide +kernel
theorem dX12_ledger_50 : decode cX12_ledger 50 = .ok (.ifCond .eq 12, 3) := by decide +kernel
theorem dX12_ledger_53 : decode cX12_ledger 53 = .ok (.aload_n 0, 1) := by decide +kernel
theorem dX12_ledger_54 : decode cX12_ledger 54 = .ok (.bipush 59, 2) := by decide +kernel
theorem dX12_ledger_56 : decode cX12_ledger 56 = .ok (.invokevirtual 234, 3) := by decide +kernel
theorem dX12_ledger_59 : decode cX12_ledger 59 = .ok (.ifCond .ne 11, 3) := by decide +kernel
theorem dX12_ledger_62 : decode cX12_ledger 62 = .ok (.bipush (-2), 2) := by decide +kernel
theorem dX12_ledger_64 : decode cX12_ledger 64 = .ok (.aload_n 0, 1) := by decide +kernel
theorem dX12_ledger_65 : decode cX12_ledger 65 = .ok (.getfield 172, 3) := by decide +kernel
theorem dX12_ledger_68 : decode cX12_ledger 68 = .ok (.isub, 1) := by decide +kernel
theorem dX12_ledger_69 : decode cX12_ledger 69 = .ok (.ireturn, 1) := by decide +kernel
theorem dX12_ledger_70 : decode cX12_ledger 70 = .ok (.aload_n 0, 1) := by decide +kernel
theorem dX12_ledger_71 : decode cX12_ledger 71 = .ok (.dup, 1) := by decide +kernel
theorem dX12_ledger_72 : decode cX12_ledger 72 = .ok (.getfield 379, 3) := by decide +kernel
theorem dX12_ledger_75 : decode cX12_ledger 75 = .ok (.iconst 1, 1) := by decide +kernel
theorem dX12_ledger_76 : decode cX12_ledger 76 = .ok (.iadd, 1) := by decide +kernel
theorem dX12_ledger_77 : decode cX12_ledger 77 = .ok (.putfield 379, 3) := by decide +kernel
theorem dX12_ledger_80 : decode cX12_ledger 80 = .ok (.goto (-41), 3) := by decide +kernel
theorem dX12_ledger_83 : decode cX12_ledger 83 = .ok (.aload_n 0, 1) := by decide +kernel
theorem dX12_ledger_84 : decode cX12_ledger 84 = .ok (.invokevirtual 347, 3) := by decide +kernel
theorem dX12_ledger_87 : decode cX12_ledger 87 = .ok (.iconst 0, 1) := by decide +kernel
theorem dX12_ledger_88 : decode cX12_ledger 88 = .ok (.istore_n 2, 1) := by decide +kernel
theorem dX12_ledger_89 : decode cX12_ledger 89 = .ok (.iload_n 2, 1) := by decide +kernel
theorem dX12_ledger_90 : decode cX12_ledger 90 = .ok (.iconst 4, 1) := by decide +kernel
theorem dX12_ledger_91 : decode cX12_ledger 91 = .ok (.if_icmp .ge 16, 3) := by decide +kernel
theorem dX12_ledger_94 : decode cX12_ledger 94 = .ok (.aload_n 0, 1) := by decide +kernel
theorem dX12_ledger_95 : decode cX12_ledger 95 = .ok (.getfield 71, 3) := by decide +kernel
theorem dX12_ledger_98 : decode cX12_ledger 98 = .ok (.iload_n 2, 1) := by decide +kernel
theorem dX12_ledger_99 : decode cX12_ledger 99 = .ok (.iconst 0, 1) := by decide +kernel
theorem dX12_ledger_100 : decode cX12_ledger 100 = .ok (.iastore, 1) := by decide +kernel
theorem dX12_ledger_101 : decode cX12_ledger 101 = .ok (.iinc 2 1, 3) := by decide +kernel
theorem dX12_ledger_104 : decode cX12_ledger 104 = .ok (.goto (-15), 3) := by decide +kernel
theorem dX12_ledger_107 : decode cX12_ledger 107 = .ok (.aload_n 0, 1) := by decide +kernel
theorem dX12_ledger_108 : decode cX12_ledger 108 = .ok (.getfield 33, 3) := by decide +kernel
theorem dX12_ledger_111 : decode cX12_ledger 111 = .ok (.bipush 74, 2) := by decide +kernel
theorem dX12_ledger_113 : decode cX12_ledger 113 = .ok (.iaload, 1) := by decide +kernel
theorem dX12_ledger_114 : decode cX12_ledger 114 = .ok (.istore_n 2, 1) := by decide +kernel
theorem dX12_ledger_115 : decode cX12_ledger 115 = .ok (.iconst (-1), 1) := by decide +kernel
theorem dX12_ledger_116 : decode cX12_ledger 116 = .ok (.istore_n 3, 1) := by decide +kernel
theorem dX12_ledger_117 : decode cX12_ledger 117 = .ok (.iconst 0, 1) := by decide +kernel
theorem dX12_ledger_118 : decode cX12_ledger 118 = .ok (.istore 4, 2) := by decide +kernel
theorem dX12_ledger_120 : decode cX12_ledger 120 = .ok (.iload 4, 2) := by decide +kernel
theorem dX12_ledger_122 : decode cX12_ledger 122 = .ok (.aload_n 0, 1) := by decide +kernel
theorem dX12_ledger_123 : decode cX12_ledger 123 = .ok (.getfield 379, 3) := by decide +kernel
theorem dX12_ledger_126 : decode cX12_ledger 126 = .ok (.if_icmp .ge 52, 3) := by decide +kernel
theorem dX12_ledger_129 : decode cX12_ledger 129 = .ok (.iload_n 3, 1) := by decide +kernel
theorem dX12_ledger_130 : decode cX12_ledger 130 = .ok (.ifCond .ge 48, 3) := by decide +kernel
theorem dX12_ledger_133 : decode cX12_ledger 133 = .ok (.aload_n 0, 1) := by decide +kernel
theorem dX12_ledger_134 : decode cX12_ledger 134 = .ok (.getfield 71, 3) := by decide +kernel
theorem dX12_ledger_137 : decode cX12_ledger 137 = .ok (.iconst 0, 1) := by decide +kernel
theorem dX12_ledger_138 : decode cX12_ledger 138 = .ok (.aload_n 0, 1) := by decide +kernel
theorem dX12_ledger_139 : decode cX12_ledger 139 = .ok (.iconst 3, 1) := by decide +kernel
theorem dX12_ledger_140 : decode cX12_ledger 140 = .ok (.iload 4, 2) := by decide +kernel
theorem dX12_ledger_142 : decode cX12_ledger 142 = .ok (.imul, 1) := by decide +kernel
theorem dX12_ledger_143 : decode cX12_ledger 143 = .ok (.invokevirtual 385, 3) := by decide +kernel
theorem dX12_ledger_146 : decode cX12_ledger 146 = .ok (.iastore, 1) := by decide +kernel
theorem dX12_ledger_147 : decode cX12_ledger 147 = .ok (.aload_n 0, 1) := by decide +kernel
theorem dX12_ledger_148 : decode cX12_ledger 148 = .ok (.getfield 71, 3) := by decide +kernel
theorem dX12_ledger_151 : decode cX12_ledger 151 = .ok (.iconst 0, 1) := by decide +kernel
theorem dX12_ledger_152 : decode cX12_ledger 152 = .ok (.iaload, 1) := by decide +kernel
theorem dX12_ledger_153 : decode cX12_ledger 153 = .ok (.ifCond .le 9, 3) := by decide +kernel
theorem dX12_ledger_156 : decode cX12_ledger 156 = .ok (.iload 4, 2) := by decide +kernel
theorem dX12_ledger_158 : decode cX12_ledger 158 = .ok (.istore_n 3, 1) := by decide +kernel
theorem dX12_ledger_159 : decode cX12_ledger 159 = .ok (.goto 13, 3) := by decide +kernel
theorem dX12_ledger_162 : decode cX12_ledger 162 = .ok (.aload_n 0, 1) := by decide +kernel
theorem dX12_ledger_163 : decode cX12_ledger 163 = .ok (.getfield 71, 3) := by decide +kernel
theorem dX12_ledger_166 : decode cX12_ledger 166 = .ok (.iconst 1, 1) := by decide +kernel
theorem dX12_ledger_167 : decode cX12_ledger 167 = .ok (.dup2, 1) := by decide +kernel
theorem dX12_ledger_168 : decode cX12_ledger 168 = .ok (.iaload, 1) := by decide +kernel
theorem dX12_ledger_169 : decode cX12_ledger 169 = .ok (.iconst 1, 1) := by decide +kernel
theorem dX12_ledger_170 : decode cX12_ledger 170 = .ok (.iadd, 1) := by decide +kernel
theorem dX12_ledger_171 : decode cX12_ledger 171 = .ok (.iastore, 1) := by decide +kernel
theorem dX12_ledger_172 : decode cX12_ledger 172 = .ok (.iinc 4 1, 3) := by decide +kernel
theorem dX12_ledger_175 : decode cX12_ledger 175 = .ok (.goto (-55), 3) := by decide +kernel
theorem dX12_ledger_178 : decode cX12_ledger 178 = .ok (.aload_n 0, 1) := by decide +kernel
theorem dX12_ledger_179 : decode cX12_ledger 179 = .ok (.getfield 71, 3) := by decide +kernel
theorem dX12_ledger_182 : decode cX12_ledger 182 = .ok (.iconst 2, 1) := by decide +kernel
theorem dX12_ledger_183 : decode cX12_ledger 183 = .ok (.aload_n 0, 1) := by decide +kernel
theorem dX12_ledger_184 : decode cX12_ledger 184 = .ok (.getfield 33, 3) := by decide +kernel
theorem dX12_ledger_187 : decode cX12_ledger 187 = .ok (.bipush 73, 2) := by decide +kernel
theorem dX12_ledger_189 : decode cX12_ledger 189 = .ok (.iaload, 1) := by decide +kernel
theorem dX12_ledger_190 : decode cX12_ledger 190 = .ok (.iastore, 1) := by decide +kernel
theorem dX12_ledger_191 : decode cX12_ledger 191 = .ok (.aload_n 0, 1) := by decide +kernel
theorem dX12_ledger_192 : decode cX12_ledger 192 = .ok (.getfield 71, 3) := by decide +kernel
theorem dX12_ledger_195 : decode cX12_ledger 195 = .ok (.iconst 3, 1) := by decide +kernel
theorem dX12_ledger_196 : decode cX12_ledger 196 = .ok (.aload_n 0, 1) := by decide +kernel
theorem dX12_ledger_197 : decode cX12_ledger 197 = .ok (.getfield 33, 3) := by decide +kernel
theorem dX12_ledger_200 : decode cX12_ledger 200 = .ok (.bipush 74, 2) := by decide +kernel
theorem dX12_ledger_202 : decode cX12_ledger 202 = .ok (.iaload, 1) := by decide +kernel
theorem dX12_ledger_203 : decode cX12_ledger 203 = .ok (.iload_n 2, 1) := by decide +kernel
theorem dX12_ledger_204 : decode cX12_ledger 204 = .ok (.isub, 1) := by decide +kernel
theorem dX12_ledger_205 : decode cX12_ledger 205 = .ok (.iastore, 1) := by decide +kernel
theorem dX12_ledger_206 : decode cX12_ledger 206 = .ok (.aload_n 0, 1) := by decide +kernel
theorem dX12_ledger_207 : decode cX12_ledger 207 = .ok (.iconst 1, 1) := by decide +kernel
theorem dX12_ledger_208 : decode cX12_ledger 208 = .ok (.putfield 388, 3) := by decide +kernel
theorem dX12_ledger_211 : decode cX12_ledger 211 = .ok (.iload_n 1, 1) := by decide +kernel
theorem dX12_ledger_212 : decode cX12_ledger 212 = .ok (.iconst 1, 1) := by decide +kernel
theorem dX12_ledger_213 : decode cX12_ledger 213 = .ok (.if_icmp .ne 56, 3) := by decide +kernel
theorem dX12_ledger_216 : decode cX12_ledger 216 = .ok (.aload_n 0, 1) := by decide +kernel
theorem dX12_ledger_217 : decode cX12_ledger 217 = .ok (.getfield 71, 3) := by decide +kernel
theorem dX12_ledger_220 : decode cX12_ledger 220 = .ok (.iconst 1, 1) := by decide +kernel
theorem dX12_ledger_221 : decode cX12_ledger 221 = .ok (.iaload, 1) := by decide +kernel
theorem dX12_ledger_222 : decode cX12_ledger 222 = .ok (.ifCond .le 47, 3) := by decide +kernel
theorem dX12_ledger_225 : decode cX12_ledger 225 = .ok (.aload_n 0, 1) := by decide +kernel
theorem dX12_ledger_226 : decode cX12_ledger 226 = .ok (.invokevirtual 281, 3) := by decide +kernel
theorem dX12_ledger_229 : decode cX12_ledger 229 = .ok (.iconst 0, 1) := by decide +kernel
theorem dX12_ledger_230 : decode cX12_ledger 230 = .ok (.istore 4, 2) := by decide +kernel
theorem dX12_ledger_232 : decode cX12_ledger 232 = .ok (.iload 4, 2) := by decide +kernel
theorem dX12_ledger_234 : decode cX12_ledger 234 = .ok (.bipush 79, 2) := by decide +kernel
theorem dX12_ledger_236 : decode cX12_ledger 236 = .ok (.if_icmp .ge 33, 3) := by decide +kernel
theorem dX12_ledger_239 : decode cX12_ledger 239 = .ok (.aload_n 0, 1) := by decide +kernel
theorem dX12_ledger_240 : decode cX12_ledger 240 = .ok (.getfield 50, 3) := by decide +kernel
theorem dX12_ledger_243 : decode cX12_ledger 243 = .ok (.bipush 79, 2) := by decide +kernel
theorem dX12_ledger_245 : decode cX12_ledger 245 = .ok (.aload_n 0, 1) := by decide +kernel
theorem dX12_ledger_246 : decode cX12_ledger 246 = .ok (.getfield 237, 3) := by decide +kernel
theorem dX12_ledger_249 : decode cX12_ledger 249 = .ok (.iconst 1, 1) := by decide +kernel
theorem dX12_ledger_250 : decode cX12_ledger 250 = .ok (.isub, 1) := by decide +kernel
theorem dX12_ledger_251 : decode cX12_ledger 251 = .ok (.imul, 1) := by decide +kernel
theorem dX12_ledger_252 : decode cX12_ledger 252 = .ok (.iload 4, 2) := by decide +kernel
theorem dX12_ledger_254 : decode cX12_ledger 254 = .ok (.iadd, 1) := by decide +kernel
theorem dX12_ledger_255 : decode cX12_ledger 255 = .ok (.aload_n 0, 1) := by decide +kernel
theorem dX12_ledger_256 : decode cX12_ledger 256 = .ok (.getfield 53, 3) := by decide +kernel
theorem dX12_ledger_259 : decode cX12_ledger 259 = .ok (.iload 4, 2) := by decide +kernel
theorem dX12_ledger_261 : decode cX12_ledger 261 = .ok (.iaload, 1) := by decide +kernel
theorem dX12_ledger_262 : decode cX12_ledger 262 = .ok (.iastore, 1) := by decide +kernel
theorem dX12_ledger_263 : decode cX12_ledger 263 = .ok (.iinc 4 1, 3) := by decide +kernel
theorem dX12_ledger_266 : decode cX12_ledger 266 = .ok (.goto (-34), 3) := by decide +kernel
theorem dX12_ledger_269 : decode cX12_ledger 269 = .ok (.iload_n 1, 1) := by decide +kernel
theorem dX12_ledger_270 : decode cX12_ledger 270 = .ok (.ifCond .ne 7, 3) := by decide +kernel
theorem dX12_ledger_273 : decode cX12_ledger 273 = .ok (.aload_n 0, 1) := by decide +kernel
theorem dX12_ledger_274 : decode cX12_ledger 274 = .ok (.invokevirtual 353, 3) := by decide +kernel
theorem dX12_ledger_277 : decode cX12_ledger 277 = .ok (.iload_n 3, 1) := by decide +kernel
theorem dX12_ledger_278 : decode cX12_ledger 278 = .ok (.ireturn, 1) := by decide +kernel
set_option maxHeartbeats 4000000 in
theorem w_l_M_ledger_0 {ad wad : Nat → Nat} {Γ : Ctx} (F : Nat) {n : Nat} (hn : 9 ≤ n) (hG : Cx SHm ad wad cX12_ledger 5 RX12 (some .int) (n) Γ) {q : Int32 × HS} {x1 : Int32} {K0 : HS → Option (Int32 × HS)} {g : Nat}  {h : HS} (hd : l_M_ledger_0 F x1 K0 g  h = some q) (hK0 : ∀ (z : HS), K0 z = some q → AW SHm ad 5 (some (.int q.1), q.2) Γ 83 [(0, .ref (ad 0)), (1, .int x1)] [] z) : AW SHm ad 5 (some (.int q.1), q.2) Γ 39 [(0, .ref (ad 0)), (1, .int x1)] [] h := by
  induction g generalizing h with
  | zero => unfold l_M_ledger_0 at hd; cases hd
  | succ g ih =>
    unfold l_M_ledger_0 at hd
    refine a_aload_n (pc := 39) hG 0 rfl dX12_ledger_39 rfl ?_
    refine a_getI (pc := 40) hG sm_0 cl_X12 ok_X12 11 (by decide) rfl t_1620 dX12_ledger_40 ?_
    refine a_if_eq (pc := 43) hG (tgt := 83) hd dX12_ledger_43 (by decide) (fun hd => ?_) (fun hd => ?_)
    · exact AW.sub [0, 1] rfl (hK0  _ hd)
    refine a_aload_n (pc := 46) hG 0 rfl dX12_ledger_46 rfl ?_
    refine a_cvI (pc := 47) hG (As := []) (st := []) sm_0 cl_X12 mk_X12_bookLine t_2113 (by omega) (fun z hz => c_M_bookLine F  _  z hz) rfl (Nat.le_of_ble_eq_true rfl) hd dX12_ledger_47 (fun r9 h8 hd => ?_)
    refine a_if_eq (pc := 50) hG (tgt := 62) hd dX12_ledger_50 (by decide) (fun hd => ?_) (fun hd => ?_)
    · refine a_bipush (pc := 62) hG dX12_ledger_62 (v := (-2 : Int32)) rfl ?_
      refine a_aload_n (pc := 64) hG 0 rfl dX12_ledger_64 rfl ?_
      refine a_getI (pc := 65) hG sm_0 cl_X12 ok_X12 16 (by decide) rfl t_1625 dX12_ledger_65 ?_
      refine a_isub (pc := 68) hG dX12_ledger_68 ?_
      exact a_iret (pc := 69) hG hd dX12_ledger_69
    refine a_aload_n (pc := 53) hG 0 rfl dX12_ledger_53 rfl ?_
    refine a_bipush (pc := 54) hG dX12_ledger_54 (v := (nI 59)) rfl ?_
    refine a_cvI (pc := 56) hG (As := [.int (nI 59)]) (st := []) sm_0 cl_X12 mk_X12_sign t_1814 (by omega) (fun z hz => c_M_sign F (nI 59) _  z hz) rfl (Nat.le_of_ble_eq_true rfl) hd dX12_ledger_56 (fun r11 h10 hd => ?_)
    refine a_if_ne (pc := 59) hG (tgt := 70) hd dX12_ledger_59 (by decide) (fun hd => ?_) (fun hd => ?_)
    · refine a_aload_n (pc := 70) hG 0 rfl dX12_ledger_70 rfl ?_
      refine a_dup (pc := 71) hG dX12_ledger_71 rfl ?_
      refine a_getI (pc := 72) hG sm_0 cl_X12 ok_X12 32 (by decide) rfl t_1641 dX12_ledger_72 ?_
      refine a_iconst (pc := 75) hG dX12_ledger_75 (v := (nI 1)) rfl ?_
      refine a_iadd (pc := 76) hG dX12_ledger_76 ?_
      refine a_putI (pc := 77) hG sm_0 cl_X12 ok_X12 32 (by decide) rfl t_1641 rfl (ty := .int) rfl rfl rfl hd dX12_ledger_77 (fun h12 hd => ?_)
      refine a_goto (pc := 80) hG (tgt := 39) dX12_ledger_80 (by decide) ?_
      exact AW.sub [0, 1] rfl (ih hd)
    refine a_bipush (pc := 62) hG dX12_ledger_62 (v := (-2 : Int32)) rfl ?_
    refine a_aload_n (pc := 64) hG 0 rfl dX12_ledger_64 rfl ?_
    refine a_getI (pc := 65) hG sm_0 cl_X12 ok_X12 16 (by decide) rfl t_1625 dX12_ledger_65 ?_
    refine a_isub (pc := 68) hG dX12_ledger_68 ?_
    exact a_iret (pc := 69) hG hd dX12_ledger_69
set_option maxHeartbeats 4000000 in
theorem w_l_M_ledger_1 {ad wad : Nat → Nat} {Γ : Ctx} (F : Nat) {n : Nat} (hn : 9 ≤ n) (hG : Cx SHm ad wad cX12_ledger 5 RX12 (some .int) (n) Γ) {q : Int32 × HS} {x1 : Int32} {K0 : HS → Option (Int32 × HS)} {g : Nat} {x2 : Int32} {h : HS} (hd : l_M_ledger_1 F x1 K0 g x2 h = some q) (hK0 : ∀ (z : HS), K0 z = some q → AW SHm ad 5 (some (.int q.1), q.2) Γ 107 [(0, .ref (ad 0)), (1, .int x1)] [] z) : AW SHm ad 5 (some (.int q.1), q.2) Γ 89 [(0, .ref (ad 0)), (1, .int x1), (2, .int x2)] [] h := by
  induction g generalizing x2 h with
  | zero => unfold l_M_ledger_1 at hd; cases hd
  | succ g ih =>
    unfold l_M_ledger_1 at hd
    refine a_iload_n (pc := 89) hG 2 rfl dX12_ledger_89 rfl ?_
    refine a_iconst (pc := 90) hG dX12_ledger_90 (v := (nI 4)) rfl ?_
    refine a_ic_ge (pc := 91) hG (tgt := 107) hd dX12_ledger_91 (by decide) (fun hd => ?_) (fun hd => ?_)
    · exact AW.sub [0, 1] rfl (hK0  _ hd)
    refine a_aload_n (pc := 94) hG 0 rfl dX12_ledger_94 rfl ?_
    refine a_getR (pc := 95) hG sm_0 cl_X12 ok_X12 33 (by decide) rfl t_1642 dX12_ledger_95 ?_
    refine a_iload_n (pc := 98) hG 2 rfl dX12_ledger_98 rfl ?_
    refine a_iconst (pc := 99) hG dX12_ledger_99 (v := (nI 0)) rfl ?_
    refine a_iast (pc := 100) hG sm_13 hd dX12_ledger_100 (fun h16 hd => ?_)
    refine a_iincN (pc := 101) hG (c0 := (nI 1)) 2 rfl hd dX12_ledger_101 rfl (by decide) (lf := fun x => [(2, .int x), (0, .ref (ad 0)), (1, .int x1)]) (fun _ => rfl) (fun v17 hd => ?_)
    refine a_goto (pc := 104) hG (tgt := 89) dX12_ledger_104 (by decide) ?_
    exact AW.sub [1, 2, 0] rfl (ih hd)
set_option maxHeartbeats 4000000 in
theorem w_l_M_ledger_2 {ad wad : Nat → Nat} {Γ : Ctx} (F : Nat) {n : Nat} (hn : 9 ≤ n) (hG : Cx SHm ad wad cX12_ledger 5 RX12 (some .int) (n) Γ) {q : Int32 × HS} {x1 : Int32} {x2 : Int32} {K0 : Int32 → HS → Option (Int32 × HS)} {g : Nat} {x3 : Int32} {x4 : Int32} {h : HS} (hd : l_M_ledger_2 F x1 x2 K0 g x3 x4 h = some q) (hK0 : ∀ (y3 : Int32) (z : HS), K0 y3 z = some q → AW SHm ad 5 (some (.int q.1), q.2) Γ 178 [(0, .ref (ad 0)), (1, .int x1), (2, .int x2), (3, .int y3)] [] z) : AW SHm ad 5 (some (.int q.1), q.2) Γ 120 [(0, .ref (ad 0)), (1, .int x1), (2, .int x2), (3, .int x3), (4, .int x4)] [] h := by
  induction g generalizing x3 x4 h with
  | zero => unfold l_M_ledger_2 at hd; cases hd
  | succ g ih =>
    unfold l_M_ledger_2 at hd
    refine a_iload (pc := 120) hG 4 rfl dX12_ledger_120 ?_
    refine a_aload_n (pc := 122) hG 0 rfl dX12_ledger_122 rfl ?_
    refine a_getI (pc := 123) hG sm_0 cl_X12 ok_X12 32 (by decide) rfl t_1641 dX12_ledger_123 ?_
    refine a_ic_ge (pc := 126) hG (tgt := 178) hd dX12_ledger_126 (by decide) (fun hd => ?_) (fun hd => ?_)
    · exact AW.sub [0, 1, 2, 3] rfl (hK0 _ _ hd)
    refine a_iload_n (pc := 129) hG 3 rfl dX12_ledger_129 rfl ?_
    refine a_if_ge (pc := 130) hG (tgt := 178) hd dX12_ledger_130 (by decide) (fun hd => ?_) (fun hd => ?_)
    · exact AW.sub [0, 1, 2, 3] rfl (hK0 _ _ hd)
    refine a_aload_n (pc := 133) hG 0 rfl dX12_ledger_133 rfl ?_
    refine a_getR (pc := 134) hG sm_0 cl_X12 ok_X12 33 (by decide) rfl t_1642 dX12_ledger_134 ?_
    refine a_iconst (pc := 137) hG dX12_ledger_137 (v := (nI 0)) rfl ?_
    refine a_aload_n (pc := 138) hG 0 rfl dX12_ledger_138 rfl ?_
    refine a_iconst (pc := 139) hG dX12_ledger_139 (v := (nI 3)) rfl ?_
    refine a_iload (pc := 140) hG 4 rfl dX12_ledger_140 ?_
    refine a_imul (pc := 142) hG dX12_ledger_142 ?_
    refine a_cvI (pc := 143) hG (As := [.int ((nI 3) * x4)]) (st := [.int (nI 0), .ref (ad 13)]) sm_0 cl_X12 mk_X12_books t_2117 (by omega) (fun z hz => c_M_books F ((nI 3) * x4) _  z hz) rfl (Nat.le_of_ble_eq_true rfl) hd dX12_ledger_143 (fun r23 h22 hd => ?_)
    refine a_iast (pc := 146) hG sm_13 hd dX12_ledger_146 (fun h24 hd => ?_)
    refine a_aload_n (pc := 147) hG 0 rfl dX12_ledger_147 rfl ?_
    refine a_getR (pc := 148) hG sm_0 cl_X12 ok_X12 33 (by decide) rfl t_1642 dX12_ledger_148 ?_
    refine a_iconst (pc := 151) hG dX12_ledger_151 (v := (nI 0)) rfl ?_
    refine a_iald (pc := 152) hG sm_13 hd dX12_ledger_152 (fun hd => ?_)
    refine a_join hd (Q := fun J : Int32 → HS → Option (Int32 × HS) => ∀ (v26 : Int32) (h27 : HS), J v26 h27 = some q → AW SHm ad 5 (some (.int q.1), q.2) Γ 172 [(0, .ref (ad 0)), (1, .int x1), (2, .int x2), (3, .int v26), (4, .int x4)] [] h27) (fun v26 h27 hd => ?_) (fun J25 hJ25 hd => ?_)
    · refine a_iincN (pc := 172) hG (c0 := (nI 1)) 4 rfl hd dX12_ledger_172 rfl (by decide) (lf := fun x => [(4, .int x), (0, .ref (ad 0)), (1, .int x1), (2, .int x2), (3, .int v26)]) (fun _ => rfl) (fun v28 hd => ?_)
      refine a_goto (pc := 175) hG (tgt := 120) dX12_ledger_175 (by decide) ?_
      exact AW.sub [1, 2, 3, 4, 0] rfl (ih hd)
    refine a_if_le (pc := 153) hG (tgt := 162) hd dX12_ledger_153 (by decide) (fun hd => ?_) (fun hd => ?_)
    · refine a_aload_n (pc := 162) hG 0 rfl dX12_ledger_162 rfl ?_
      refine a_getR (pc := 163) hG sm_0 cl_X12 ok_X12 33 (by decide) rfl t_1642 dX12_ledger_163 ?_
      refine a_iconst (pc := 166) hG dX12_ledger_166 (v := (nI 1)) rfl ?_
      refine a_dup2 (pc := 167) hG dX12_ledger_167 rfl rfl ?_
      refine a_iald (pc := 168) hG sm_13 hd dX12_ledger_168 (fun hd => ?_)
      refine a_iconst (pc := 169) hG dX12_ledger_169 (v := (nI 1)) rfl ?_
      refine a_iadd (pc := 170) hG dX12_ledger_170 ?_
      refine a_iast (pc := 171) hG sm_13 hd dX12_ledger_171 (fun h29 hd => ?_)
      exact AW.sub [0, 1, 2, 3, 4] rfl (hJ25 _ _ hd)
    refine a_iload (pc := 156) hG 4 rfl dX12_ledger_156 ?_
    refine a_istore_nN (pc := 158) hG hd dX12_ledger_158 rfl (by decide) (lf := fun x => [(3, .int x), (0, .ref (ad 0)), (1, .int x1), (2, .int x2), (4, .int x4)]) (fun _ => rfl) (fun v30 hd => ?_)
    refine a_goto (pc := 159) hG (tgt := 172) dX12_ledger_159 (by decide) ?_
    exact AW.sub [1, 2, 3, 0, 4] rfl (hJ25 _ _ hd)
set_option maxHeartbeats 4000000 in
theorem w_l_M_ledger_3 {ad wad : Nat → Nat} {Γ : Ctx} (F : Nat) {n : Nat} (hn : 9 ≤ n) (hG : Cx SHm ad wad cX12_ledger 5 RX12 (some .int) (n) Γ) {q : Int32 × HS} {x1 : Int32} {x3 : Int32} {K0 : HS → Option (Int32 × HS)} {g : Nat} {x4 : Int32} {h : HS} (hd : l_M_ledger_3 F x1 x3 K0 g x4 h = some q) (hK0 : ∀ (z : HS), K0 z = some q → AW SHm ad 5 (some (.int q.1), q.2) Γ 269 [(0, .ref (ad 0)), (1, .int x1), (3, .int x3)] [] z) : AW SHm ad 5 (some (.int q.1), q.2) Γ 232 [(0, .ref (ad 0)), (1, .int x1), (3, .int x3), (4, .int x4)] [] h := by
  induction g generalizing x4 h with
  | zero => unfold l_M_ledger_3 at hd; cases hd
  | succ g ih =>
    unfold l_M_ledger_3 at hd
    refine a_iload (pc := 232) hG 3 rfl dX12_ledger_232 ?_
    refine a_bipush (pc := 234) hG dX12_ledger_234 (v := (nI 79)) rfl ?_
    refine a_ic_ge (pc := 236) hG (tgt := 269) hd dX12_ledger_236 (by decide) (fun hd => ?_) (fun hd => ?_)
    · exact AW.sub [0, 1, 2] rfl (hK0  _ hd)
    refine a_aload_n (pc := 239) hG 0 rfl dX12_ledger_239 rfl ?_
    refine a_getR (pc := 240) hG sm_0 cl_X12 ok_X12 21 (by decide) rfl t_1630 dX12_ledger_240 ?_
    refine a_bipush (pc := 243) hG dX12_ledger_243 (v := (nI 79)) rfl ?_
    refine a_aload_n (pc := 245) hG 0 rfl dX12_ledger_245 rfl ?_
    refine a_getI (pc := 246) hG sm_0 cl_X12 ok_X12 23 (by decide) rfl t_1632 dX12_ledger_246 ?_
    refine a_iconst (pc := 249) hG dX12_ledger_249 (v := (nI 1)) rfl ?_
    refine a_isub (pc := 250) hG dX12_ledger_250 ?_
    refine a_imul (pc := 251) hG dX12_ledger_251 ?_
    refine a_iload (pc := 252) hG 3 rfl dX12_ledger_252 ?_
    refine a_iadd (pc := 254) hG dX12_ledger_254 ?_
    refine a_aload_n (pc := 255) hG 0 rfl dX12_ledger_255 rfl ?_
    refine a_getR (pc := 256) hG sm_0 cl_X12 ok_X12 22 (by decide) rfl t_1631 dX12_ledger_256 ?_
    refine a_iload (pc := 259) hG 3 rfl dX12_ledger_259 ?_
    refine a_iald (pc := 261) hG sm_8 hd dX12_ledger_261 (fun hd => ?_)
    refine a_iast (pc := 262) hG sm_7 hd dX12_ledger_262 (fun h41 hd => ?_)
    refine a_iincN (pc := 263) hG (c0 := (nI 1)) 3 rfl hd dX12_ledger_263 rfl (by decide) (lf := fun x => [(4, .int x), (0, .ref (ad 0)), (1, .int x1), (3, .int x3)]) (fun _ => rfl) (fun v42 hd => ?_)
    refine a_goto (pc := 266) hG (tgt := 232) dX12_ledger_266 (by decide) ?_
    exact AW.sub [1, 2, 3, 0] rfl (ih hd)
set_option maxHeartbeats 4000000 in
theorem c_M_ledger {ad wad : Nat → Nat} (F : Nat) (a0 : Int32) (h : HS)  (q : Int32 × HS) (hd : f_M_ledger F a0 h = some q) : Ctr SHm ad wad yX12_ledger cX12_ledger 5 (some .int) 9 [.ref (ad 0), .int a0] h (some (.int q.1), q.2) := by
  refine enter (own := RX12) (lv := [(0, .ref (ad 0)), (1, .int a0)]) (by decide +kernel) rfl (Nat.le_of_ble_eq_true rfl) rfl (fun Γ hG => ?_)
  unfold f_M_ledger at hd
  refine a_aload_n (pc := 0) hG 0 rfl dX12_ledger_0 rfl ?_
  refine a_iconst (pc := 1) hG dX12_ledger_1 (v := (nI 0)) rfl ?_
  refine a_putI (pc := 2) hG sm_0 cl_X12 ok_X12 0 (by decide) rfl t_1609 rfl (ty := .int) rfl rfl rfl hd dX12_ledger_2 (fun h1 hd => ?_)
  refine a_iload_n (pc := 5) hG 1 rfl dX12_ledger_5 rfl ?_
  refine a_iconst (pc := 6) hG dX12_ledger_6 (v := (nI 0)) rfl ?_
  refine a_iconst (pc := 7) hG dX12_ledger_7 (v := (nI 1)) rfl ?_
  refine a_csI (pc := 8) hG (As := [.int a0, .int (nI 0), .int (nI 1)]) (st := []) mk_X12_isIn t_1795 (by omega) (fun z hz => c_M_isIn a0 (nI 0) (nI 1) _  z hz) rfl (Nat.le_of_ble_eq_true rfl) hd dX12_ledger_8 (fun r3 h2 hd => ?_)
  refine a_if_ne (pc := 11) hG (tgt := 18) hd dX12_ledger_11 (by decide) (fun hd => ?_) (fun hd => ?_)
  · refine a_aload_n (pc := 18) hG 0 rfl dX12_ledger_18 rfl ?_
    refine a_sipush (pc := 19) hG dX12_ledger_19 (v := (nI 400)) rfl ?_
    refine a_cvN (pc := 22) hG (As := [.int (nI 400)]) (st := []) sm_0 cl_X12 mk_X12_taken t_1750 (by omega) (fun z hz => c_M_taken (nI 400) _  z hz) rfl (Nat.le_of_ble_eq_true rfl) hd dX12_ledger_22 (fun _ h4 hd => ?_)
    refine a_aload_n (pc := 25) hG 0 rfl dX12_ledger_25 rfl ?_
    refine a_iconst (pc := 26) hG dX12_ledger_26 (v := (nI 0)) rfl ?_
    refine a_putI (pc := 27) hG sm_0 cl_X12 ok_X12 15 (by decide) rfl t_1624 rfl (ty := .int) rfl rfl rfl hd dX12_ledger_27 (fun h5 hd => ?_)
    refine a_aload_n (pc := 30) hG 0 rfl dX12_ledger_30 rfl ?_
    refine a_iconst (pc := 31) hG dX12_ledger_31 (v := (nI 0)) rfl ?_
    refine a_putI (pc := 32) hG sm_0 cl_X12 ok_X12 32 (by decide) rfl t_1641 rfl (ty := .int) rfl rfl rfl hd dX12_ledger_32 (fun h6 hd => ?_)
    refine a_aload_n (pc := 35) hG 0 rfl dX12_ledger_35 rfl ?_
    refine a_cvN (pc := 36) hG (As := []) (st := []) sm_0 cl_X12 mk_X12_next t_1754 (by omega) (fun z hz => c_M_next F  _  z hz) rfl (Nat.le_of_ble_eq_true rfl) hd dX12_ledger_36 (fun _ h7 hd => ?_)
    refine AW.sub [0, 1] rfl ?_
    refine w_l_M_ledger_0 F (by omega) hG hd (fun h13 hd => ?_)
    refine a_aload_n (pc := 83) hG 0 rfl dX12_ledger_83 rfl ?_
    refine a_cvN (pc := 84) hG (As := []) (st := []) sm_0 cl_X12 mk_X12_tries t_2052 (by omega) (fun z hz => c_M_tries F  _  z hz) rfl (Nat.le_of_ble_eq_true rfl) hd dX12_ledger_84 (fun _ h14 hd => ?_)
    refine a_iconst (pc := 87) hG dX12_ledger_87 (v := (nI 0)) rfl ?_
    refine a_istore_nN (pc := 88) hG hd dX12_ledger_88 rfl (by decide) (lf := fun x => [(2, .int x), (0, .ref (ad 0)), (1, .int a0)]) (fun _ => rfl) (fun v15 hd => ?_)
    refine AW.sub [1, 2, 0] rfl ?_
    refine w_l_M_ledger_1 F (by omega) hG hd (fun h18 hd => ?_)
    refine a_aload_n (pc := 107) hG 0 rfl dX12_ledger_107 rfl ?_
    refine a_getR (pc := 108) hG sm_0 cl_X12 ok_X12 6 (by decide) rfl t_1615 dX12_ledger_108 ?_
    refine a_bipush (pc := 111) hG dX12_ledger_111 (v := (nI 74)) rfl ?_
    refine a_iald (pc := 113) hG sm_2 hd dX12_ledger_113 (fun hd => ?_)
    refine a_istore_nN (pc := 114) hG hd dX12_ledger_114 rfl (by decide) (lf := fun x => [(2, .int x), (0, .ref (ad 0)), (1, .int a0)]) (fun _ => rfl) (fun v19 hd => ?_)
    refine a_iconst (pc := 115) hG dX12_ledger_115 (v := (-1 : Int32)) rfl ?_
    refine a_istore_nN (pc := 116) hG hd dX12_ledger_116 rfl (by decide) (lf := fun x => [(3, .int x), (2, .int v19), (0, .ref (ad 0)), (1, .int a0)]) (fun _ => rfl) (fun v20 hd => ?_)
    refine a_iconst (pc := 117) hG dX12_ledger_117 (v := (nI 0)) rfl ?_
    refine a_istoreN (pc := 118) hG hd dX12_ledger_118 (by decide) (lf := fun x => [(4, .int x), (3, .int v20), (2, .int v19), (0, .ref (ad 0)), (1, .int a0)]) (fun _ => rfl) (fun v21 hd => ?_)
    refine AW.sub [3, 4, 2, 1, 0] rfl ?_
    refine w_l_M_ledger_2 F (by omega) hG hd (fun v31 h32 hd => ?_)
    refine a_aload_n (pc := 178) hG 0 rfl dX12_ledger_178 rfl ?_
    refine a_getR (pc := 179) hG sm_0 cl_X12 ok_X12 33 (by decide) rfl t_1642 dX12_ledger_179 ?_
    refine a_iconst (pc := 182) hG dX12_ledger_182 (v := (nI 2)) rfl ?_
    refine a_aload_n (pc := 183) hG 0 rfl dX12_ledger_183 rfl ?_
    refine a_getR (pc := 184) hG sm_0 cl_X12 ok_X12 6 (by decide) rfl t_1615 dX12_ledger_184 ?_
    refine a_bipush (pc := 187) hG dX12_ledger_187 (v := (nI 73)) rfl ?_
    refine a_iald (pc := 189) hG sm_2 hd dX12_ledger_189 (fun hd => ?_)
    refine a_iast (pc := 190) hG sm_13 hd dX12_ledger_190 (fun h33 hd => ?_)
    refine a_aload_n (pc := 191) hG 0 rfl dX12_ledger_191 rfl ?_
    refine a_getR (pc := 192) hG sm_0 cl_X12 ok_X12 33 (by decide) rfl t_1642 dX12_ledger_192 ?_
    refine a_iconst (pc := 195) hG dX12_ledger_195 (v := (nI 3)) rfl ?_
    refine a_aload_n (pc := 196) hG 0 rfl dX12_ledger_196 rfl ?_
    refine a_getR (pc := 197) hG sm_0 cl_X12 ok_X12 6 (by decide) rfl t_1615 dX12_ledger_197 ?_
    refine a_bipush (pc := 200) hG dX12_ledger_200 (v := (nI 74)) rfl ?_
    refine a_iald (pc := 202) hG sm_2 hd dX12_ledger_202 (fun hd => ?_)
    refine a_iload_n (pc := 203) hG 2 rfl dX12_ledger_203 rfl ?_
    refine a_isub (pc := 204) hG dX12_ledger_204 ?_
    refine a_iast (pc := 205) hG sm_13 hd dX12_ledger_205 (fun h34 hd => ?_)
    refine a_aload_n (pc := 206) hG 0 rfl dX12_ledger_206 rfl ?_
    refine a_iconst (pc := 207) hG dX12_ledger_207 (v := (nI 1)) rfl ?_
    refine a_putI (pc := 208) hG sm_0 cl_X12 ok_X12 34 (by decide) rfl t_1643 rfl (ty := .boolean) rfl rfl rfl hd dX12_ledger_208 (fun h35 hd => ?_)
    refine a_iload_n (pc := 211) hG 1 rfl dX12_ledger_211 rfl ?_
    refine a_iconst (pc := 212) hG dX12_ledger_212 (v := (nI 1)) rfl ?_
    refine a_join hd (Q := fun J : HS → Option (Int32 × HS) => ∀  (h37 : HS), J  h37 = some q → AW SHm ad 5 (some (.int q.1), q.2) Γ 269 [(0, .ref (ad 0)), (1, .int a0), (3, .int v31)] [] h37) (fun  h37 hd => ?_) (fun J36 hJ36 hd => ?_)
    · refine a_iload_n (pc := 269) hG 1 rfl dX12_ledger_269 rfl ?_
      refine a_if_ne (pc := 270) hG (tgt := 277) hd dX12_ledger_270 (by decide) (fun hd => ?_) (fun hd => ?_)
      · refine a_iload_n (pc := 277) hG 2 rfl dX12_ledger_277 rfl ?_
        exact a_iret (pc := 278) hG hd dX12_ledger_278
      refine a_aload_n (pc := 273) hG 0 rfl dX12_ledger_273 rfl ?_
      refine a_cvN (pc := 274) hG (As := []) (st := []) sm_0 cl_X12 mk_X12_back t_2060 (by omega) (fun z hz => c_M_back F  _  z hz) rfl (Nat.le_of_ble_eq_true rfl) hd dX12_ledger_274 (fun _ h38 hd => ?_)
      refine a_iload_n (pc := 277) hG 2 rfl dX12_ledger_277 rfl ?_
      exact a_iret (pc := 278) hG hd dX12_ledger_278
    refine a_ic_ne (pc := 213) hG (tgt := 269) hd dX12_ledger_213 (by decide) (fun hd => ?_) (fun hd => ?_)
    · exact AW.sub [0, 1, 3] rfl (hJ36  _ hd)
    refine a_aload_n (pc := 216) hG 0 rfl dX12_ledger_216 rfl ?_
    refine a_getR (pc := 217) hG sm_0 cl_X12 ok_X12 33 (by decide) rfl t_1642 dX12_ledger_217 ?_
    refine a_iconst (pc := 220) hG dX12_ledger_220 (v := (nI 1)) rfl ?_
    refine a_iald (pc := 221) hG sm_13 hd dX12_ledger_221 (fun hd => ?_)
    refine a_if_le (pc := 222) hG (tgt := 269) hd dX12_ledger_222 (by decide) (fun hd => ?_) (fun hd => ?_)
    · exact AW.sub [0, 1, 3] rfl (hJ36  _ hd)
    refine a_aload_n (pc := 225) hG 0 rfl dX12_ledger_225 rfl ?_
    refine a_cvN (pc := 226) hG (As := []) (st := []) sm_0 cl_X12 mk_X12_keep t_1897 (by omega) (fun z hz => c_M_keep F  _  z hz) rfl (Nat.le_of_ble_eq_true rfl) hd dX12_ledger_226 (fun _ h39 hd => ?_)
    refine a_iconst (pc := 229) hG dX12_ledger_229 (v := (nI 0)) rfl ?_
    refine a_istoreN (pc := 230) hG hd dX12_ledger_230 (by decide) (lf := fun x => [(4, .int x), (0, .ref (ad 0)), (1, .int a0), (2, .int v19), (3, .int v31)]) (fun _ => rfl) (fun v40 hd => ?_)
    refine AW.sub [1, 2, 4, 0] rfl ?_
    refine w_l_M_ledger_3 F (by omega) hG hd (fun h43 hd => ?_)
    exact AW.sub [0, 1, 2] rfl (hJ36  _ hd)
  refine a_sipush (pc := 14) hG dX12_ledger_14 (v := (-1000 : Int32)) rfl ?_
  exact a_iret (pc := 17) hG hd dX12_ledger_17
theorem dX12_booked_0 : decode cX12_booked 0 = .ok (.aload_n 0, 1) := by decide +kernel
theorem dX12_booked_1 : decode cX12_booked 1 = .ok (.iconst 0, 1) := by decide +kernel
theorem dX12_booked_2 : decode cX12_booked 2 = .ok (.putfield 1, 3) := by decide +kernel
theorem dX12_booked_5 : decode cX12_booked 5 = .ok (.aload_n 0, 1) := by decide +kernel
theorem dX12_booked_6 : decode cX12_booked 6 = .ok (.getfield 388, 3) := by decide +kernel
theorem dX12_booked_9 : decode cX12_booked 9 = .ok (.ifCond .eq 21, 3) := by decide +kernel
theorem dX12_booked_12 : decode cX12_booked 12 = .ok (.iload_n 1, 1) := by decide +kernel
theorem dX12_booked_13 : decode cX12_booked 13 = .ok (.iconst 0, 1) := by decide +kernel
theorem dX12_booked_14 : decode cX12_booked 14 = .ok (.iconst 3, 1) := by decide +kernel
theorem dX12_booked_15 : decode cX12_booked 15 = .ok (.invokestatic 184, 3) := by decide +kernel
theorem dX12_booked_18 : decode cX12_booked 18 = .ok (.ifCond .eq 12, 3) := by decide +kernel
theorem dX12_booked_21 : decode cX12_booked 21 = .ok (.aload_n 0, 1) := by decide +kernel
theorem dX12_booked_22 : decode cX12_booked 22 = .ok (.getfield 71, 3) := by decide +kernel
theorem dX12_booked_25 : decode cX12_booked 25 = .ok (.iload_n 1, 1) := by decide +kernel
theorem dX12_booked_26 : decode cX12_booked 26 = .ok (.iaload, 1) := by decide +kernel
theorem dX12_booked_27 : decode cX12_booked 27 = .ok (.goto 4, 3) := by decide +kernel
theorem dX12_booked_30 : decode cX12_booked 30 = .ok (.iconst (-1), 1) := by decide +kernel
theorem dX12_booked_31 : decode cX12_booked 31 = .ok (.ireturn, 1) := by decide +kernel
set_option maxHeartbeats 4000000 in
theorem c_M_booked {ad wad : Nat → Nat} (a0 : Int32) (h : HS)  (q : Int32 × HS) (hd : f_M_booked a0 h = some q) : Ctr SHm ad wad yX12_booked cX12_booked 2 (some .int) 2 [.ref (ad 0), .int a0] h (some (.int q.1), q.2) := by
  refine enter (own := RX12) (lv := [(0, .ref (ad 0)), (1, .int a0)]) (by decide +kernel) rfl (Nat.le_of_ble_eq_true rfl) rfl (fun Γ hG => ?_)
  unfold f_M_booked at hd
  refine a_aload_n (pc := 0) hG 0 rfl dX12_booked_0 rfl ?_
  refine a_iconst (pc := 1) hG dX12_booked_1 (v := (nI 0)) rfl ?_
  refine a_putI (pc := 2) hG sm_0 cl_X12 ok_X12 0 (by decide) rfl t_1609 rfl (ty := .int) rfl rfl rfl hd dX12_booked_2 (fun h1 hd => ?_)
  refine a_aload_n (pc := 5) hG 0 rfl dX12_booked_5 rfl ?_
  refine a_getI (pc := 6) hG sm_0 cl_X12 ok_X12 34 (by decide) rfl t_1643 dX12_booked_6 ?_
  refine a_if_eq (pc := 9) hG (tgt := 30) hd dX12_booked_9 (by decide) (fun hd => ?_) (fun hd => ?_)
  · refine a_iconst (pc := 30) hG dX12_booked_30 (v := (-1 : Int32)) rfl ?_
    exact a_iret (pc := 31) hG hd dX12_booked_31
  refine a_iload_n (pc := 12) hG 1 rfl dX12_booked_12 rfl ?_
  refine a_iconst (pc := 13) hG dX12_booked_13 (v := (nI 0)) rfl ?_
  refine a_iconst (pc := 14) hG dX12_booked_14 (v := (nI 3)) rfl ?_
  refine a_csI (pc := 15) hG (As := [.int a0, .int (nI 0), .int (nI 3)]) (st := []) mk_X12_isIn t_1795 (by omega) (fun z hz => c_M_isIn a0 (nI 0) (nI 3) _  z hz) rfl (Nat.le_of_ble_eq_true rfl) hd dX12_booked_15 (fun r3 h2 hd => ?_)
  refine a_if_eq (pc := 18) hG (tgt := 30) hd dX12_booked_18 (by decide) (fun hd => ?_) (fun hd => ?_)
  · refine a_iconst (pc := 30) hG dX12_booked_30 (v := (-1 : Int32)) rfl ?_
    exact a_iret (pc := 31) hG hd dX12_booked_31
  refine a_aload_n (pc := 21) hG 0 rfl dX12_booked_21 rfl ?_
  refine a_getR (pc := 22) hG sm_0 cl_X12 ok_X12 33 (by decide) rfl t_1642 dX12_booked_22 ?_
  refine a_iload_n (pc := 25) hG 1 rfl dX12_booked_25 rfl ?_
  refine a_iald (pc := 26) hG sm_13 hd dX12_booked_26 (fun hd => ?_)
  refine a_goto (pc := 27) hG (tgt := 31) dX12_booked_27 (by decide) ?_
  exact a_iret (pc := 31) hG hd dX12_booked_31
theorem dX12_leafOf_0 : decode cX12_leafOf 0 = .ok (.aload_n 0, 1) := by decide +kernel
theorem dX12_leafOf_1 : decode cX12_leafOf 1 = .ok (.ldc2_w 116, 3) := by decide +kernel
theorem dX12_leafOf_4 : decode cX12_leafOf 4 = .ok (.invokevirtual 209, 3) := by decide +kernel
theorem dX12_leafOf_7 : decode cX12_leafOf 7 = .ok (.ifCond .eq 7, 3) := by decide +kernel
theorem dX12_leafOf_10 : decode cX12_leafOf 10 = .ok (.iconst 0, 1) := by decide +kernel
theorem dX12_leafOf_11 : decode cX12_leafOf 11 = .ok (.goto 134, 3) := by decide +kernel
theorem dX12_leafOf_14 : decode cX12_leafOf 14 = .ok (.aload_n 0, 1) := by decide +kernel
theorem dX12_leafOf_15 : decode cX12_leafOf 15 = .ok (.ldc2_w 118, 3) := by decide +kernel
theorem dX12_leafOf_18 : decode cX12_leafOf 18 = .ok (.invokevirtual 209, 3) := by decide +kernel
theorem dX12_leafOf_21 : decode cX12_leafOf 21 = .ok (.ifCond .eq 7, 3) := by decide +kernel
theorem dX12_leafOf_24 : decode cX12_leafOf 24 = .ok (.iconst 1, 1) := by decide +kernel
theorem dX12_leafOf_25 : decode cX12_leafOf 25 = .ok (.goto 120, 3) := by decide +kernel
theorem dX12_leafOf_28 : decode cX12_leafOf 28 = .ok (.aload_n 0, 1) := by decide +kernel
theorem dX12_leafOf_29 : decode cX12_leafOf 29 = .ok (.ldc2_w 120, 3) := by decide +kernel
theorem dX12_leafOf_32 : decode cX12_leafOf 32 = .ok (.invokevirtual 209, 3) := by decide +kernel
theorem dX12_leafOf_35 : decode cX12_leafOf 35 = .ok (.ifCond .eq 7, 3) := by decide +kernel
theorem dX12_leafOf_38 : decode cX12_leafOf 38 = .ok (.iconst 2, 1) := by decide +kernel
theorem dX12_leafOf_39 : decode cX12_leafOf 39 = .ok (.goto 106, 3) := by decide +kernel
theorem dX12_leafOf_42 : decode cX12_leafOf 42 = .ok (.aload_n 0, 1) := by decide +kernel
theorem dX12_leafOf_43 : decode cX12_leafOf 43 = .ok (.ldc2_w 122, 3) := by decide +kernel
theorem dX12_leafOf_46 : decode cX12_leafOf 46 = .ok (.invokevirtual 209, 3) := by decide +kernel
theorem dX12_leafOf_49 : decode cX12_leafOf 49 = .ok (.ifCond .eq 7, 3) := by decide +kernel
theorem dX12_leafOf_52 : decode cX12_leafOf 52 = .ok (.iconst 3, 1) := by decide +kernel
theorem dX12_leafOf_53 : decode cX12_leafOf 53 = .ok (.goto 92, 3) := by decide +kernel
theorem dX12_leafOf_56 : decode cX12_leafOf 56 = .ok (.aload_n 0, 1) := by decide +kernel
theorem dX12_leafOf_57 : decode cX12_leafOf 57 = .ok (.ldc2_w 124, 3) := by decide +kernel
theorem dX12_leafOf_60 : decode cX12_leafOf 60 = .ok (.invokevirtual 209, 3) := by decide +kernel
theorem dX12_leafOf_63 : decode cX12_leafOf 63 = .ok (.ifCond .eq 7, 3) := by decide +kernel
theorem dX12_leafOf_66 : decode cX12_leafOf 66 = .ok (.iconst 4, 1) := by decide +kernel
theorem dX12_leafOf_67 : decode cX12_leafOf 67 = .ok (.goto 78, 3) := by decide +kernel
theorem dX12_leafOf_70 : decode cX12_leafOf 70 = .ok (.aload_n 0, 1) := by decide +kernel
theorem dX12_leafOf_71 : decode cX12_leafOf 71 = .ok (.ldc2_w 126, 3) := by decide +kernel
theorem dX12_leafOf_74 : decode cX12_leafOf 74 = .ok (.invokevirtual 209, 3) := by decide +kernel
theorem dX12_leafOf_77 : decode cX12_leafOf 77 = .ok (.ifCond .eq 7, 3) := by decide +kernel
theorem dX12_leafOf_80 : decode cX12_leafOf 80 = .ok (.iconst 5, 1) := by decide +kernel
theorem dX12_leafOf_81 : decode cX12_leafOf 81 = .ok (.goto 64, 3) := by decide +kernel
theorem dX12_leafOf_84 : decode cX12_leafOf 84 = .ok (.aload_n 0, 1) := by decide +kernel
theorem dX12_leafOf_85 : decode cX12_leafOf 85 = .ok (.ldc2_w 128, 3) := by decide +kernel
theorem dX12_leafOf_88 : decode cX12_leafOf 88 = .ok (.invokevirtual 209, 3) := by decide +kernel
theorem dX12_leafOf_91 : decode cX12_leafOf 91 = .ok (.ifCond .eq 8, 3) := by decide +kernel
theorem dX12_leafOf_94 : decode cX12_leafOf 94 = .ok (.bipush 6, 2) := by decide +kernel
theorem dX12_leafOf_96 : decode cX12_leafOf 96 = .ok (.goto 49, 3) := by decide +kernel
theorem dX12_leafOf_99 : decode cX12_leafOf 99 = .ok (.aload_n 0, 1) := by decide +kernel
theorem dX12_leafOf_100 : decode cX12_leafOf 100 = .ok (.ldc2_w 130, 3) := by decide +kernel
theorem dX12_leafOf_103 : decode cX12_leafOf 103 = .ok (.invokevirtual 209, 3) := by decide +kernel
theorem dX12_leafOf_106 : decode cX12_leafOf 106 = .ok (.ifCond .eq 8, 3) := by decide +kernel
theorem dX12_leafOf_109 : decode cX12_leafOf 109 = .ok (.bipush 7, 2) := by decide +kernel
theorem dX12_leafOf_111 : decode cX12_leafOf 111 = .ok (.goto 34, 3) := by decide +kernel
theorem dX12_leafOf_114 : decode cX12_leafOf 114 = .ok (.aload_n 0, 1) := by decide +kernel
theorem dX12_leafOf_115 : decode cX12_leafOf 115 = .ok (.ldc2_w 132, 3) := by decide +kernel
theorem dX12_leafOf_118 : decode cX12_leafOf 118 = .ok (.invokevirtual 209, 3) := by decide +kernel
theorem dX12_leafOf_121 : decode cX12_leafOf 121 = .ok (.ifCond .eq 8, 3) := by decide +kernel
theorem dX12_leafOf_124 : decode cX12_leafOf 124 = .ok (.bipush 8, 2) := by decide +kernel
theorem dX12_leafOf_126 : decode cX12_leafOf 126 = .ok (.goto 19, 3) := by decide +kernel
theorem dX12_leafOf_129 : decode cX12_leafOf 129 = .ok (.aload_n 0, 1) := by decide +kernel
theorem dX12_leafOf_130 : decode cX12_leafOf 130 = .ok (.ldc2_w 134, 3) := by decide +kernel
theorem dX12_leafOf_133 : decode cX12_leafOf 133 = .ok (.invokevirtual 209, 3) := by decide +kernel
theorem dX12_leafOf_136 : decode cX12_leafOf 136 = .ok (.ifCond .eq 8, 3) := by decide +kernel
theorem dX12_leafOf_139 : decode cX12_leafOf 139 = .ok (.bipush 9, 2) := by decide +kernel
theorem dX12_leafOf_141 : decode cX12_leafOf 141 = .ok (.goto 4, 3) := by decide +kernel
theorem dX12_leafOf_144 : decode cX12_leafOf 144 = .ok (.iconst (-1), 1) := by decide +kernel
theorem dX12_leafOf_145 : decode cX12_leafOf 145 = .ok (.ireturn, 1) := by decide +kernel
set_option maxHeartbeats 4000000 in
theorem c_M_leafOf {ad wad : Nat → Nat}  (h : HS)  (q : Int32 × HS) (hd : f_M_leafOf  h = some q) : Ctr SHm ad wad yX12_leafOf cX12_leafOf 1 (some .int) 2 [.ref (ad 0)] h (some (.int q.1), q.2) := by
  refine enter (own := RX12) (lv := [(0, .ref (ad 0))]) (by decide +kernel) rfl (Nat.le_of_ble_eq_true rfl) rfl (fun Γ hG => ?_)
  unfold f_M_leafOf at hd
  refine a_aload_n (pc := 0) hG 0 rfl dX12_leafOf_0 rfl ?_
  refine a_ldc2_w (pc := 1) hG t_1591 dX12_leafOf_1 ?_
  refine a_cvI (pc := 4) hG (As := [.long (1869636974 : Int64)]) (st := []) sm_0 cl_X12 mk_X12_isWord t_1772 (by omega) (fun z hz => c_M_isWord (1869636974 : Int64) _  z hz) rfl (Nat.le_of_ble_eq_true rfl) hd dX12_leafOf_4 (fun r2 h1 hd => ?_)
  refine a_if_eq (pc := 7) hG (tgt := 14) hd dX12_leafOf_7 (by decide) (fun hd => ?_) (fun hd => ?_)
  · refine a_aload_n (pc := 14) hG 0 rfl dX12_leafOf_14 rfl ?_
    refine a_ldc2_w (pc := 15) hG t_1592 dX12_leafOf_15 ?_
    refine a_cvI (pc := 18) hG (As := [.long (499850634606 : Int64)]) (st := []) sm_0 cl_X12 mk_X12_isWord t_1772 (by omega) (fun z hz => c_M_isWord (499850634606 : Int64) _  z hz) rfl (Nat.le_of_ble_eq_true rfl) hd dX12_leafOf_18 (fun r4 h3 hd => ?_)
    refine a_if_eq (pc := 21) hG (tgt := 28) hd dX12_leafOf_21 (by decide) (fun hd => ?_) (fun hd => ?_)
    · refine a_aload_n (pc := 28) hG 0 rfl dX12_leafOf_28 rfl ?_
      refine a_ldc2_w (pc := 29) hG t_1593 dX12_leafOf_29 ?_
      refine a_cvI (pc := 32) hG (As := [.long (28273320624416100 : Int64)]) (st := []) sm_0 cl_X12 mk_X12_isWord t_1772 (by omega) (fun z hz => c_M_isWord (28273320624416100 : Int64) _  z hz) rfl (Nat.le_of_ble_eq_true rfl) hd dX12_leafOf_32 (fun r6 h5 hd => ?_)
      refine a_if_eq (pc := 35) hG (tgt := 42) hd dX12_leafOf_35 (by decide) (fun hd => ?_) (fun hd => ?_)
      · refine a_aload_n (pc := 42) hG 0 rfl dX12_leafOf_42 rfl ?_
        refine a_ldc2_w (pc := 43) hG t_1594 dX12_leafOf_43 ?_
        refine a_cvI (pc := 46) hG (As := [.long (7827310 : Int64)]) (st := []) sm_0 cl_X12 mk_X12_isWord t_1772 (by omega) (fun z hz => c_M_isWord (7827310 : Int64) _  z hz) rfl (Nat.le_of_ble_eq_true rfl) hd dX12_leafOf_46 (fun r8 h7 hd => ?_)
        refine a_if_eq (pc := 49) hG (tgt := 56) hd dX12_leafOf_49 (by decide) (fun hd => ?_) (fun hd => ?_)
        · refine a_aload_n (pc := 56) hG 0 rfl dX12_leafOf_56 rfl ?_
          refine a_ldc2_w (pc := 57) hG t_1595 dX12_leafOf_57 ?_
          refine a_cvI (pc := 60) hG (As := [.long (1684365668 : Int64)]) (st := []) sm_0 cl_X12 mk_X12_isWord t_1772 (by omega) (fun z hz => c_M_isWord (1684365668 : Int64) _  z hz) rfl (Nat.le_of_ble_eq_true rfl) hd dX12_leafOf_60 (fun r10 h9 hd => ?_)
          refine a_if_eq (pc := 63) hG (tgt := 70) hd dX12_leafOf_63 (by decide) (fun hd => ?_) (fun hd => ?_)
          · refine a_aload_n (pc := 70) hG 0 rfl dX12_leafOf_70 rfl ?_
            refine a_ldc2_w (pc := 71) hG t_1596 dX12_leafOf_71 ?_
            refine a_cvI (pc := 74) hG (As := [.long (6840676 : Int64)]) (st := []) sm_0 cl_X12 mk_X12_isWord t_1772 (by omega) (fun z hz => c_M_isWord (6840676 : Int64) _  z hz) rfl (Nat.le_of_ble_eq_true rfl) hd dX12_leafOf_74 (fun r12 h11 hd => ?_)
            refine a_if_eq (pc := 77) hG (tgt := 84) hd dX12_leafOf_77 (by decide) (fun hd => ?_) (fun hd => ?_)
            · refine a_aload_n (pc := 84) hG 0 rfl dX12_leafOf_84 rfl ?_
              refine a_ldc2_w (pc := 85) hG t_1597 dX12_leafOf_85 ?_
              refine a_cvI (pc := 88) hG (As := [.long (1852137842 : Int64)]) (st := []) sm_0 cl_X12 mk_X12_isWord t_1772 (by omega) (fun z hz => c_M_isWord (1852137842 : Int64) _  z hz) rfl (Nat.le_of_ble_eq_true rfl) hd dX12_leafOf_88 (fun r14 h13 hd => ?_)
              refine a_if_eq (pc := 91) hG (tgt := 99) hd dX12_leafOf_91 (by decide) (fun hd => ?_) (fun hd => ?_)
              · refine a_aload_n (pc := 99) hG 0 rfl dX12_leafOf_99 rfl ?_
                refine a_ldc2_w (pc := 100) hG t_1598 dX12_leafOf_100 ?_
                refine a_cvI (pc := 103) hG (As := [.long (483006772069 : Int64)]) (st := []) sm_0 cl_X12 mk_X12_isWord t_1772 (by omega) (fun z hz => c_M_isWord (483006772069 : Int64) _  z hz) rfl (Nat.le_of_ble_eq_true rfl) hd dX12_leafOf_103 (fun r16 h15 hd => ?_)
                refine a_if_eq (pc := 106) hG (tgt := 114) hd dX12_leafOf_106 (by decide) (fun hd => ?_) (fun hd => ?_)
                · refine a_aload_n (pc := 114) hG 0 rfl dX12_leafOf_114 rfl ?_
                  refine a_ldc2_w (pc := 115) hG t_1599 dX12_leafOf_115 ?_
                  refine a_cvI (pc := 118) hG (As := [.long (108187750065510 : Int64)]) (st := []) sm_0 cl_X12 mk_X12_isWord t_1772 (by omega) (fun z hz => c_M_isWord (108187750065510 : Int64) _  z hz) rfl (Nat.le_of_ble_eq_true rfl) hd dX12_leafOf_118 (fun r18 h17 hd => ?_)
                  refine a_if_eq (pc := 121) hG (tgt := 129) hd dX12_leafOf_121 (by decide) (fun hd => ?_) (fun hd => ?_)
                  · refine a_aload_n (pc := 129) hG 0 rfl dX12_leafOf_129 rfl ?_
                    refine a_ldc2_w (pc := 130) hG t_1600 dX12_leafOf_130 ?_
                    refine a_cvI (pc := 133) hG (As := [.long (121450625394034 : Int64)]) (st := []) sm_0 cl_X12 mk_X12_isWord t_1772 (by omega) (fun z hz => c_M_isWord (121450625394034 : Int64) _  z hz) rfl (Nat.le_of_ble_eq_true rfl) hd dX12_leafOf_133 (fun r20 h19 hd => ?_)
                    refine a_if_eq (pc := 136) hG (tgt := 144) hd dX12_leafOf_136 (by decide) (fun hd => ?_) (fun hd => ?_)
                    · refine a_iconst (pc := 144) hG dX12_leafOf_144 (v := (-1 : Int32)) rfl ?_
                      exact a_iret (pc := 145) hG hd dX12_leafOf_145
                    refine a_bipush (pc := 139) hG dX12_leafOf_139 (v := (nI 9)) rfl ?_
                    refine a_goto (pc := 141) hG (tgt := 145) dX12_leafOf_141 (by decide) ?_
                    exact a_iret (pc := 145) hG hd dX12_leafOf_145
                  refine a_bipush (pc := 124) hG dX12_leafOf_124 (v := (nI 8)) rfl ?_
                  refine a_goto (pc := 126) hG (tgt := 145) dX12_leafOf_126 (by decide) ?_
                  exact a_iret (pc := 145) hG hd dX12_leafOf_145
                refine a_bipush (pc := 109) hG dX12_leafOf_109 (v := (nI 7)) rfl ?_
                refine a_goto (pc := 111) hG (tgt := 145) dX12_leafOf_111 (by decide) ?_
                exact a_iret (pc := 145) hG hd dX12_leafOf_145
              refine a_bipush (pc := 94) hG dX12_leafOf_94 (v := (nI 6)) rfl ?_
              refine a_goto (pc := 96) hG (tgt := 145) dX12_leafOf_96 (by decide) ?_
              exact a_iret (pc := 145) hG hd dX12_leafOf_145
            refine a_iconst (pc := 80) hG dX12_leafOf_80 (v := (nI 5)) rfl ?_
            refine a_goto (pc := 81) hG (tgt := 145) dX12_leafOf_81 (by decide) ?_
            exact a_iret (pc := 145) hG hd dX12_leafOf_145
          refine a_iconst (pc := 66) hG dX12_leafOf_66 (v := (nI 4)) rfl ?_
          refine a_goto (pc := 67) hG (tgt := 145) dX12_leafOf_67 (by decide) ?_
          exact a_iret (pc := 145) hG hd dX12_leafOf_145
        refine a_iconst (pc := 52) hG dX12_leafOf_52 (v := (nI 3)) rfl ?_
        refine a_goto (pc := 53) hG (tgt := 145) dX12_leafOf_53 (by decide) ?_
        exact a_iret (pc := 145) hG hd dX12_leafOf_145
      refine a_iconst (pc := 38) hG dX12_leafOf_38 (v := (nI 2)) rfl ?_
      refine a_goto (pc := 39) hG (tgt := 145) dX12_leafOf_39 (by decide) ?_
      exact a_iret (pc := 145) hG hd dX12_leafOf_145
    refine a_iconst (pc := 24) hG dX12_leafOf_24 (v := (nI 1)) rfl ?_
    refine a_goto (pc := 25) hG (tgt := 145) dX12_leafOf_25 (by decide) ?_
    exact a_iret (pc := 145) hG hd dX12_leafOf_145
  refine a_iconst (pc := 10) hG dX12_leafOf_10 (v := (nI 0)) rfl ?_
  refine a_goto (pc := 11) hG (tgt := 145) dX12_leafOf_11 (by decide) ?_
  exact a_iret (pc := 145) hG hd dX12_leafOf_145
theorem dX12_code_0 : decode cX12_code 0 = .ok (.aload_n 0, 1) := by decide +kernel
theorem dX12_code_1 : decode cX12_code 1 = .ok (.getfield 40, 3) := by decide +kernel
theorem dX12_code_4 : decode cX12_code 4 = .ok (.iconst 3, 1) := by decide +kernel
theorem dX12_code_5 : decode cX12_code 5 = .ok (.aload_n 0, 1) := by decide +kernel
theorem dX12_code_6 : decode cX12_code 6 = .ok (.getfield 391, 3) := by decide +kernel
theorem dX12_code_9 : decode cX12_code 9 = .ok (.imul, 1) := by decide +kernel
theorem dX12_code_10 : decode cX12_code 10 = .ok (.iload_n 1, 1) := by decide +kernel
theorem dX12_code_11 : decode cX12_code 11 = .ok (.iastore, 1) := by decide +kernel
theorem dX12_code_12 : decode cX12_code 12 = .ok (.aload_n 0, 1) := by decide +kernel
theorem dX12_code_13 : decode cX12_code 13 = .ok (.getfield 40, 3) := by decide +kernel
theorem dX12_code_16 : decode cX12_code 16 = .ok (.iconst 3, 1) := by decide +kernel
theorem dX12_code_17 : decode cX12_code 17 = .ok (.aload_n 0, 1) := by decide +kernel
theorem dX12_code_18 : decode cX12_code 18 = .ok (.getfield 391, 3) := by decide +kernel
theorem dX12_code_21 : decode cX12_code 21 = .ok (.imul, 1) := by decide +kernel
theorem dX12_code_22 : decode cX12_code 22 = .ok (.iconst 1, 1) := by decide +kernel
theorem dX12_code_23 : decode cX12_code 23 = .ok (.iadd, 1) := by decide +kernel
theorem dX12_code_24 : decode cX12_code 24 = .ok (.iload_n 2, 1) := by decide +kernel
theorem dX12_code_25 : decode cX12_code 25 = .ok (.iastore, 1) := by decide +kernel
theorem dX12_code_26 : decode cX12_code 26 = .ok (.aload_n 0, 1) := by decide +kernel
theorem dX12_code_27 : decode cX12_code 27 = .ok (.getfield 40, 3) := by decide +kernel
theorem dX12_code_30 : decode cX12_code 30 = .ok (.iconst 3, 1) := by decide +kernel
theorem dX12_code_31 : decode cX12_code 31 = .ok (.aload_n 0, 1) := by decide +kernel
theorem dX12_code_32 : decode cX12_code 32 = .ok (.getfield 391, 3) := by decide +kernel
theorem dX12_code_35 : decode cX12_code 35 = .ok (.imul, 1) := by decide +kernel
theorem dX12_code_36 : decode cX12_code 36 = .ok (.iconst 2, 1) := by decide +kernel
theorem dX12_code_37 : decode cX12_code 37 = .ok (.iadd, 1) := by decide +kernel
theorem dX12_code_38 : decode cX12_code 38 = .ok (.iload_n 3, 1) := by decide +kernel
theorem dX12_code_39 : decode cX12_code 39 = .ok (.iastore, 1) := by decide +kernel
theorem dX12_code_40 : decode cX12_code 40 = .ok (.aload_n 0, 1) := by decide +kernel
theorem dX12_code_41 : decode cX12_code 41 = .ok (.dup, 1) := by decide +kernel
theorem dX12_code_42 : decode cX12_code 42 = .ok (.getfield 391, 3) := by decide +kernel
theorem dX12_code_45 : decode cX12_code 45 = .ok (.iconst 1, 1) := by decide +kernel
theorem dX12_code_46 : decode cX12_code 46 = .ok (.iadd, 1) := by decide +kernel
theorem dX12_code_47 : decode cX12_code 47 = .ok (.putfield 391, 3) := by decide +kernel
theorem dX12_code_50 : decode cX12_code 50 = .ok (.return_, 1) := by decide +kernel
set_option maxHeartbeats 4000000 in
theorem c_M_code {ad wad : Nat → Nat} (a0 : Int32) (a1 : Int32) (a2 : Int32) (h : HS)  (q : Unit × HS) (hd : f_M_code a0 a1 a2 h = some q) : Ctr SHm ad wad yX12_code cX12_code 4 none 1 [.ref (ad 0), .int a0, .int a1, .int a2] h (none, q.2) := by
  refine enter (own := RX12) (lv := [(0, .ref (ad 0)), (1, .int a0), (2, .int a1), (3, .int a2)]) (by decide +kernel) rfl (Nat.le_of_ble_eq_true rfl) rfl (fun Γ hG => ?_)
  unfold f_M_code at hd
  refine a_aload_n (pc := 0) hG 0 rfl dX12_code_0 rfl ?_
  refine a_getR (pc := 1) hG sm_0 cl_X12 ok_X12 8 (by decide) rfl t_1617 dX12_code_1 ?_
  refine a_iconst (pc := 4) hG dX12_code_4 (v := (nI 3)) rfl ?_
  refine a_aload_n (pc := 5) hG 0 rfl dX12_code_5 rfl ?_
  refine a_getI (pc := 6) hG sm_0 cl_X12 ok_X12 36 (by decide) rfl t_1645 dX12_code_6 ?_
  refine a_imul (pc := 9) hG dX12_code_9 ?_
  refine a_iload_n (pc := 10) hG 1 rfl dX12_code_10 rfl ?_
  refine a_iast (pc := 11) hG sm_4 hd dX12_code_11 (fun h1 hd => ?_)
  refine a_aload_n (pc := 12) hG 0 rfl dX12_code_12 rfl ?_
  refine a_getR (pc := 13) hG sm_0 cl_X12 ok_X12 8 (by decide) rfl t_1617 dX12_code_13 ?_
  refine a_iconst (pc := 16) hG dX12_code_16 (v := (nI 3)) rfl ?_
  refine a_aload_n (pc := 17) hG 0 rfl dX12_code_17 rfl ?_
  refine a_getI (pc := 18) hG sm_0 cl_X12 ok_X12 36 (by decide) rfl t_1645 dX12_code_18 ?_
  refine a_imul (pc := 21) hG dX12_code_21 ?_
  refine a_iconst (pc := 22) hG dX12_code_22 (v := (nI 1)) rfl ?_
  refine a_iadd (pc := 23) hG dX12_code_23 ?_
  refine a_iload_n (pc := 24) hG 2 rfl dX12_code_24 rfl ?_
  refine a_iast (pc := 25) hG sm_4 hd dX12_code_25 (fun h2 hd => ?_)
  refine a_aload_n (pc := 26) hG 0 rfl dX12_code_26 rfl ?_
  refine a_getR (pc := 27) hG sm_0 cl_X12 ok_X12 8 (by decide) rfl t_1617 dX12_code_27 ?_
  refine a_iconst (pc := 30) hG dX12_code_30 (v := (nI 3)) rfl ?_
  refine a_aload_n (pc := 31) hG 0 rfl dX12_code_31 rfl ?_
  refine a_getI (pc := 32) hG sm_0 cl_X12 ok_X12 36 (by decide) rfl t_1645 dX12_code_32 ?_
  refine a_imul (pc := 35) hG dX12_code_35 ?_
  refine a_iconst (pc := 36) hG dX12_code_36 (v := (nI 2)) rfl ?_
  refine a_iadd (pc := 37) hG dX12_code_37 ?_
  refine a_iload_n (pc := 38) hG 3 rfl dX12_code_38 rfl ?_
  refine a_iast (pc := 39) hG sm_4 hd dX12_code_39 (fun h3 hd => ?_)
  refine a_aload_n (pc := 40) hG 0 rfl dX12_code_40 rfl ?_
  refine a_dup (pc := 41) hG dX12_code_41 rfl ?_
  refine a_getI (pc := 42) hG sm_0 cl_X12 ok_X12 36 (by decide) rfl t_1645 dX12_code_42 ?_
  refine a_iconst (pc := 45) hG dX12_code_45 (v := (nI 1)) rfl ?_
  refine a_iadd (pc := 46) hG dX12_code_46 ?_
  refine a_putI (pc := 47) hG sm_0 cl_X12 ok_X12 36 (by decide) rfl t_1645 rfl (ty := .int) rfl rfl rfl hd dX12_code_47 (fun h4 hd => ?_)
  exact a_vret (pc := 50) hG hd dX12_code_50
theorem dX12_operand_0 : decode cX12_operand 0 = .ok (.aload_n 0, 1) := by decide +kernel
theorem dX12_operand_1 : decode cX12_operand 1 = .ok (.ldc2_w 114, 3) := by decide +kernel
theorem dX12_operand_4 : decode cX12_operand 4 = .ok (.invokevirtual 209, 3) := by decide +kernel
theorem dX12_operand_7 : decode cX12_operand 7 = .ok (.istore_n 1, 1) := by decide +kernel
theorem dX12_operand_8 : decode cX12_operand 8 = .ok (.aload_n 0, 1) := by decide +kernel
theorem dX12_operand_9 : decode cX12_operand 9 = .ok (.bipush 40, 2) := by decide +kernel
theorem dX12_operand_11 : decode cX12_operand 11 = .ok (.invokevirtual 175, 3) := by decide +kernel
theorem dX12_operand_14 : decode cX12_operand 14 = .ok (.istore_n 2, 1) := by decide +kernel
theorem dX12_operand_15 : decode cX12_operand 15 = .ok (.aload_n 0, 1) := by decide +kernel
theorem dX12_operand_16 : decode cX12_operand 16 = .ok (.invokevirtual 404, 3) := by decide +kernel
theorem dX12_operand_19 : decode cX12_operand 19 = .ok (.istore_n 3, 1) := by decide +kernel
theorem dX12_operand_20 : decode cX12_operand 20 = .ok (.iload_n 1, 1) := by decide +kernel
theorem dX12_operand_21 : decode cX12_operand 21 = .ok (.ifCond .ne 17, 3) := by decide +kernel
theorem dX12_operand_24 : decode cX12_operand 24 = .ok (.iload_n 2, 1) := by decide +kernel
theorem dX12_operand_25 : decode cX12_operand 25 = .ok (.ifCond .ne 13, 3) := by decide +kernel
theorem dX12_operand_28 : decode cX12_operand 28 = .ok (.iload_n 3, 1) := by decide +kernel
theorem dX12_operand_29 : decode cX12_operand 29 = .ok (.ifCond .ge 9, 3) := by decide +kernel
theorem dX12_operand_32 : decode cX12_operand 32 = .ok (.aload_n 0, 1) := by decide +kernel
theorem dX12_operand_33 : decode cX12_operand 33 = .ok (.iconst 1, 1) := by decide +kernel
theorem dX12_operand_34 : decode cX12_operand 34 = .ok (.invokevirtual 178, 3) := by decide +kernel
theorem dX12_operand_37 : decode cX12_operand 37 = .ok (.ireturn, 1) := by decide +kernel
theorem dX12_operand_38 : decode cX12_operand 38 = .ok (.aload_n 0, 1) := by decide +kernel
theorem dX12_operand_39 : decode cX12_operand 39 = .ok (.getfield 407, 3) := by decide +kernel
theorem dX12_operand_42 : decode cX12_operand 42 = .ok (.bipush 20, 2) := by decide +kernel
theorem dX12_operand_44 : decode cX12_operand 44 = .ok (.if_icmp .eq 12, 3) := by decide +kernel
theorem dX12_operand_47 : decode cX12_operand 47 = .ok (.aload_n 0, 1) := by decide +kernel
theorem dX12_operand_48 : decode cX12_operand 48 = .ok (.getfield 401, 3) := by decide +kernel
theorem dX12_operand_51 : decode cX12_operand 51 = .ok (.bipush 8, 2) := by decide +kernel
theorem dX12_operand_53 : decode cX12_operand 53 = .ok (.if_icmp .le 9, 3) := by decide +kernel
theorem dX12_operand_56 : decode cX12_operand 56 = .ok (.aload_n 0, 1) := by decide +kernel
theorem dX12_operand_57 : decode cX12_operand 57 = .ok (.iconst 4, 1) := by decide +kernel
theorem dX12_operand_58 : decode cX12_operand 58 = .ok (.invokevirtual 178, 3) := by decide +kernel
theorem dX12_operand_61 : decode cX12_operand 61 = .ok (.ireturn, 1) := by decide +kernel
theorem dX12_operand_62 : decode cX12_operand 62 = .ok (.aload_n 0, 1) := by decide +kernel
theorem dX12_operand_63 : decode cX12_operand 63 = .ok (.dup, 1) := by decide +kernel
theorem dX12_operand_64 : decode cX12_operand 64 = .ok (.getfield 407, 3) := by decide +kernel
theorem dX12_operand_67 : decode cX12_operand 67 = .ok (.iconst 1, 1) := by decide +kernel
theorem dX12_operand_68 : decode cX12_operand 68 = .ok (.iadd, 1) := by decide +kernel
theorem dX12_operand_69 : decode cX12_operand 69 = .ok (.putfield 407, 3) := by decide +kernel
theorem dX12_operand_72 : decode cX12_operand 72 = .ok (.aload_n 0, 1) := by decide +kernel
theorem dX12_operand_73 : decode cX12_operand 73 = .ok (.invokevirtual 181, 3) := by decide +kernel
theorem dX12_operand_76 : decode cX12_operand 76 = .ok (.iload_n 1, 1) := by decide +kernel
theorem dX12_operand_77 : decode cX12_operand 77 = .ok (.ifCond .ne 7, 3) := by decide +kernel
theorem dX12_operand_80 : decode cX12_operand 80 = .ok (.iload_n 2, 1) := by decide +kernel
theorem dX12_operand_81 : decode cX12_operand 81 = .ok (.ifCond .eq 45, 3) := by decide +kernel
theorem dX12_operand_84 : decode cX12_operand 84 = .ok (.aload_n 0, 1) := by decide +kernel
theorem dX12_operand_85 : decode cX12_operand 85 = .ok (.getfield 74, 3) := by decide +kernel
theorem dX12_operand_88 : decode cX12_operand 88 = .ok (.aload_n 0, 1) := by decide +kernel
theorem dX12_operand_89 : decode cX12_operand 89 = .ok (.getfield 394, 3) := by decide +kernel
theorem dX12_operand_92 : decode cX12_operand 92 = .ok (.iload_n 1, 1) := by decide +kernel
theorem dX12_operand_93 : decode cX12_operand 93 = .ok (.ifCond .eq 8, 3) := by decide +kernel
theorem dX12_operand_96 : decode cX12_operand 96 = .ok (.bipush 20, 2) := by decide +kernel
theorem dX12_operand_98 : decode cX12_operand 98 = .ok (.goto 5, 3) := by decide +kernel
theorem dX12_operand_101 : decode cX12_operand 101 = .ok (.bipush 23, 2) := by decide +kernel
theorem dX12_operand_103 : decode cX12_operand 103 = .ok (.iastore, 1) := by decide +kernel
theorem dX12_operand_104 : decode cX12_operand 104 = .ok (.aload_n 0, 1) := by decide +kernel
theorem dX12_operand_105 : decode cX12_operand 105 = .ok (.dup, 1) := by decide +kernel
theorem dX12_operand_106 : decode cX12_operand 106 = .ok (.getfield 394, 3) := by decide +kernel
theorem dX12_operand_109 : decode cX12_operand 109 = .ok (.iconst 1, 1) := by decide +kernel
theorem dX12_operand_110 : decode cX12_operand 110 = .ok (.iadd, 1) := by decide +kernel
theorem dX12_operand_111 : decode cX12_operand 111 = .ok (.putfield 394, 3) := by decide +kernel
theorem dX12_operand_114 : decode cX12_operand 114 = .ok (.aload_n 0, 1) := by decide +kernel
theorem dX12_operand_115 : decode cX12_operand 115 = .ok (.dup, 1) := by decide +kernel
theorem dX12_operand_116 : decode cX12_operand 116 = .ok (.getfield 401, 3) := by decide +kernel
theorem dX12_operand_119 : decode cX12_operand 119 = .ok (.iconst 1, 1) := by decide +kernel
theorem dX12_operand_120 : decode cX12_operand 120 = .ok (.iadd, 1) := by decide +kernel
theorem dX12_operand_121 : decode cX12_operand 121 = .ok (.putfield 401, 3) := by decide +kernel
theorem dX12_operand_124 : decode cX12_operand 124 = .ok (.iconst 1, 1) := by decide +kernel
theorem dX12_operand_125 : decode cX12_operand 125 = .ok (.ireturn, 1) := by decide +kernel
theorem dX12_operand_126 : decode cX12_operand 126 = .ok (.aload_n 0, 1) := by decide +kernel
theorem dX12_operand_127 : decode cX12_operand 127 = .ok (.iconst 1, 1) := by decide +kernel
theorem dX12_operand_128 : decode cX12_operand 128 = .ok (.putfield 410, 3) := by decide +kernel
theorem dX12_operand_131 : decode cX12_operand 131 = .ok (.iload_n 3, 1) := by decide +kernel
theorem dX12_operand_132 : decode cX12_operand 132 = .ok (.iconst 5, 1) := by decide +kernel
theorem dX12_operand_133 : decode cX12_operand 133 = .ok (.if_icmp .ge 12, 3) := by decide +kernel
theorem dX12_operand_136 : decode cX12_operand 136 = .ok (.aload_n 0, 1) := by decide +kernel
theorem dX12_operand_137 : decode cX12_operand 137 = .ok (.iload_n 3, 1) := by decide +kernel
theorem dX12_operand_138 : decode cX12_operand 138 = .ok (.iconst 0, 1) := by decide +kernel
theorem dX12_operand_139 : decode cX12_operand 139 = .ok (.iconst 0, 1) := by decide +kernel
theorem dX12_operand_140 : decode cX12_operand 140 = .ok (.invokevirtual 397, 3) := by decide +kernel
theorem dX12_operand_143 : decode cX12_operand 143 = .ok (.iconst 1, 1) := by decide +kernel
theorem dX12_operand_144 : decode cX12_operand 144 = .ok (.ireturn, 1) := by decide +kernel
theorem dX12_operand_145 : decode cX12_operand 145 = .ok (.iload_n 3, 1) := by decide +kernel
theorem dX12_operand_146 : decode cX12_operand 146 = .ok (.iconst 5, 1) := by decide +kernel
theorem dX12_operand_147 : decode cX12_operand 147 = .ok (.if_icmp .ne 36, 3) := by decide +kernel
theorem dX12_operand_150 : decode cX12_operand 150 = .ok (.aload_n 0, 1) := by decide +kernel
theorem dX12_operand_151 : decode cX12_operand 151 = .ok (.bipush 6, 2) := by decide +kernel
theorem dX12_operand_153 : decode cX12_operand 153 = .ok (.aload_n 0, 1) := by decide +kernel
theorem dX12_operand_154 : decode cX12_operand 154 = .ok (.getfield 33, 3) := by decide +kernel
theorem dX12_operand_157 : decode cX12_operand 157 = .ok (.iconst 1, 1) := by decide +kernel
theorem dX12_operand_158 : decode cX12_operand 158 = .ok (.iaload, 1) := by decide +kernel
theorem dX12_operand_159 : decode cX12_operand 159 = .ok (.invokevirtual 222, 3) := by decide +kernel
theorem dX12_operand_162 : decode cX12_operand 162 = .ok (.ifCond .ne 5, 3) := by decide +kernel
theorem dX12_operand_165 : decode cX12_operand 165 = .ok (.iconst 0, 1) := by decide +kernel
theorem dX12_operand_166 : decode cX12_operand 166 = .ok (.ireturn, 1) := by decide +kernel
theorem dX12_operand_167 : decode cX12_operand 167 = .ok (.aload_n 0, 1) := by decide +kernel
theorem dX12_operand_168 : decode cX12_operand 168 = .ok (.iload_n 3, 1) := by decide +kernel
theorem dX12_operand_169 : decode cX12_operand 169 = .ok (.iconst 0, 1) := by decide +kernel
theorem dX12_operand_170 : decode cX12_operand 170 = .ok (.aload_n 0, 1) := by decide +kernel
theorem dX12_operand_171 : decode cX12_operand 171 = .ok (.getfield 188, 3) := by decide +kernel
theorem dX12_operand_174 : decode cX12_operand 174 = .ok (.invokevirtual 397, 3) := by decide +kernel
theorem dX12_operand_177 : decode cX12_operand 177 = .ok (.aload_n 0, 1) := by decide +kernel
theorem dX12_operand_178 : decode cX12_operand 178 = .ok (.invokevirtual 181, 3) := by decide +kernel
theorem dX12_operand_181 : decode cX12_operand 181 = .ok (.iconst 1, 1) := by decide +kernel
theorem dX12_operand_182 : decode cX12_operand 182 = .ok (.ireturn, 1) := by decide +kernel
theorem dX12_operand_183 : decode cX12_operand 183 = .ok (.aload_n 0, 1) := by decide +kernel
theorem dX12_operand_184 : decode cX12_operand 184 = .ok (.getfield 152, 3) := by decide +kernel
theorem dX12_operand_187 : decode cX12_operand 187 = .ok (.iconst 3, 1) := by decide +kernel
theorem dX12_operand_188 : decode cX12_operand 188 = .ok (.if_icmp .ne 21, 3) := by decide +kernel
theorem dX12_operand_191 : decode cX12_operand 191 = .ok (.aload_n 0, 1) := by decide +kernel
theorem dX12_operand_192 : decode cX12_operand 192 = .ok (.getfield 162, 3) := by decide +kernel
theorem dX12_operand_195 : decode cX12_operand 195 = .ok (.bipush 60, 2) := by decide +kernel
theorem dX12_operand_197 : decode cX12_operand 197 = .ok (.if_icmp .lt 12, 3) := by decide +kernel
theorem dX12_operand_200 : decode cX12_operand 200 = .ok (.aload_n 0, 1) := by decide +kernel
theorem dX12_operand_201 : decode cX12_operand 201 = .ok (.getfield 162, 3) := by decide +kernel
theorem dX12_operand_204 : decode cX12_operand 204 = .ok (.bipush 62, 2) := by decide +kernel
theorem dX12_operand_206 : decode cX12_operand 206 = .ok (.if_icmp .le 9, 3) := by decide +kernel
theorem dX12_operand_209 : decode cX12_operand 209 = .ok (.aload_n 0, 1) := by decide +kernel
theorem dX12_operand_210 : decode cX12_operand 210 = .ok (.iconst 1, 1) := by decide +kernel
theorem dX12_operand_211 : decode cX12_operand 211 = .ok (.invokevirtual 178, 3) := by decide +kernel
theorem dX12_operand_214 : decode cX12_operand 214 = .ok (.ireturn, 1) := by decide +kernel
theorem dX12_operand_215 : decode cX12_operand 215 = .ok (.aload_n 0, 1) := by decide +kernel
theorem dX12_operand_216 : decode cX12_operand 216 = .ok (.getfield 162, 3) := by decide +kernel
theorem dX12_operand_219 : decode cX12_operand 219 = .ok (.istore 4, 2) := by decide +kernel
theorem dX12_operand_221 : decode cX12_operand 221 = .ok (.aload_n 0, 1) := by decide +kernel
theorem dX12_operand_222 : decode cX12_operand 222 = .ok (.invokevirtual 181, 3) := by decide +kernel
theorem dX12_operand_225 : decode cX12_operand 225 = .ok (.aload_n 0, 1) := by decide +kernel
theorem dX12_operand_226 : decode cX12_operand 226 = .ok (.getfield 152, 3) := by decide +kernel
theorem dX12_operand_229 : decode cX12_operand 229 = .ok (.iconst 2, 1) := by decide +kernel
theorem dX12_operand_230 : decode cX12_operand 230 = .ok (.if_icmp .eq 9, 3) := by decide +kernel
theorem dX12_operand_233 : decode cX12_operand 233 = .ok (.aload_n 0, 1) := by decide +kernel
theorem dX12_operand_234 : decode cX12_operand 234 = .ok (.iconst 1, 1) := by decide +kernel
theorem dX12_operand_235 : decode cX12_operand 235 = .ok (.invokevirtual 178, 3) := by decide +kernel
theorem dX12_operand_238 : decode cX12_operand 238 = .ok (.ireturn, 1) := by decide +kernel
theorem dX12_operand_239 : decode cX12_operand 239 = .ok (.aload_n 0, 1) := by decide +kernel
theorem dX12_operand_240 : decode cX12_operand 240 = .ok (.iload_n 3, 1) := by decide +kernel
theorem dX12_operand_241 : decode cX12_operand 241 = .ok (.iload 4, 2) := by decide +kernel
theorem dX12_operand_243 : decode cX12_operand 243 = .ok (.aload_n 0, 1) := by decide +kernel
theorem dX12_operand_244 : decode cX12_operand 244 = .ok (.getfield 162, 3) := by decide +kernel
theorem dX12_operand_247 : decode cX12_operand 247 = .ok (.invokevirtual 397, 3) := by decide +kernel
theorem dX12_operand_250 : decode cX12_operand 250 = .ok (.aload_n 0, 1) := by decide +kernel
theorem dX12_operand_251 : decode cX12_operand 251 = .ok (.invokevirtual 181, 3) := by decide +kernel
theorem dX12_operand_254 : decode cX12_operand 254 = .ok (.iconst 1, 1) := by decide +kernel
theorem dX12_operand_255 : decode cX12_operand 255 = .ok (.ireturn, 1) := by decide +kernel
set_option maxHeartbeats 4000000 in
theorem c_M_operand {ad wad : Nat → Nat} (F : Nat)  (h : HS)  (q : Int32 × HS) (hd : f_M_operand F  h = some q) : Ctr SHm ad wad yX12_operand cX12_operand 5 (some .boolean) 3 [.ref (ad 0)] h (some (.int q.1), q.2) := by
  refine enter (own := RX12) (lv := [(0, .ref (ad 0))]) (by decide +kernel) rfl (Nat.le_of_ble_eq_true rfl) rfl (fun Γ hG => ?_)
  unfold f_M_operand at hd
  refine a_aload_n (pc := 0) hG 0 rfl dX12_operand_0 rfl ?_
  refine a_ldc2_w (pc := 1) hG t_1590 dX12_operand_1 ?_
  refine a_cvI (pc := 4) hG (As := [.long (7237492 : Int64)]) (st := []) sm_0 cl_X12 mk_X12_isWord t_1772 (by omega) (fun z hz => c_M_isWord (7237492 : Int64) _  z hz) rfl (Nat.le_of_ble_eq_true rfl) hd dX12_operand_4 (fun r2 h1 hd => ?_)
  refine a_istore_nN (pc := 7) hG hd dX12_operand_7 rfl (by decide) (lf := fun x => [(1, .int x), (0, .ref (ad 0))]) (fun _ => rfl) (fun v3 hd => ?_)
  refine a_aload_n (pc := 8) hG 1 rfl dX12_operand_8 rfl ?_
  refine a_bipush (pc := 9) hG dX12_operand_9 (v := (nI 40)) rfl ?_
  refine a_cvI (pc := 11) hG (As := [.int (nI 40)]) (st := []) sm_0 cl_X12 mk_X12_isSign t_1818 (by omega) (fun z hz => c_M_isSign (nI 40) _  z hz) rfl (Nat.le_of_ble_eq_true rfl) hd dX12_operand_11 (fun r5 h4 hd => ?_)
  refine a_istore_nN (pc := 14) hG hd dX12_operand_14 rfl (by decide) (lf := fun x => [(2, .int x), (1, .int v3), (0, .ref (ad 0))]) (fun _ => rfl) (fun v6 hd => ?_)
  refine a_aload_n (pc := 15) hG 2 rfl dX12_operand_15 rfl ?_
  refine a_cvI (pc := 16) hG (As := []) (st := []) sm_0 cl_X12 mk_X12_leafOf t_2149 (by omega) (fun z hz => c_M_leafOf  _  z hz) rfl (Nat.le_of_ble_eq_true rfl) hd dX12_operand_16 (fun r8 h7 hd => ?_)
  refine a_istore_nN (pc := 19) hG hd dX12_operand_19 rfl (by decide) (lf := fun x => [(3, .int x), (2, .int v6), (1, .int v3), (0, .ref (ad 0))]) (fun _ => rfl) (fun v9 hd => ?_)
  refine a_iload_n (pc := 20) hG 2 rfl dX12_operand_20 rfl ?_
  refine a_join hd (Q := fun J : HS → Option (Int32 × HS) => ∀  (h11 : HS), J  h11 = some q → AW SHm ad 5 (some (.int q.1), q.2) Γ 38 [(0, .ref (ad 0)), (1, .int v3), (2, .int v6), (3, .int v9)] [] h11) (fun  h11 hd => ?_) (fun J10 hJ10 hd => ?_)
  · refine a_aload_n (pc := 38) hG 0 rfl dX12_operand_38 rfl ?_
    refine a_getI (pc := 39) hG sm_0 cl_X12 ok_X12 37 (by decide) rfl t_1646 dX12_operand_39 ?_
    refine a_bipush (pc := 42) hG dX12_operand_42 (v := (nI 20)) rfl ?_
    refine a_join hd (Q := fun J : HS → Option (Int32 × HS) => ∀  (h13 : HS), J  h13 = some q → AW SHm ad 5 (some (.int q.1), q.2) Γ 56 [(0, .ref (ad 0))] [] h13) (fun  h13 hd => ?_) (fun J12 hJ12 hd => ?_)
    · refine a_aload_n (pc := 56) hG 0 rfl dX12_operand_56 rfl ?_
      refine a_iconst (pc := 57) hG dX12_operand_57 (v := (nI 4)) rfl ?_
      refine a_cvI (pc := 58) hG (As := [.int (nI 4)]) (st := []) sm_0 cl_X12 mk_X12_bad t_1783 (by omega) (fun z hz => c_M_bad (nI 4) _  z hz) rfl (Nat.le_of_ble_eq_true rfl) hd dX12_operand_58 (fun r15 h14 hd => ?_)
      exact a_zret (pc := 61) hG hd dX12_operand_61
    refine a_ic_eq (pc := 44) hG (tgt := 56) hd dX12_operand_44 (by decide) (fun hd => ?_) (fun hd => ?_)
    · exact AW.sub [0] rfl (hJ12  _ hd)
    refine a_aload_n (pc := 47) hG 0 rfl dX12_operand_47 rfl ?_
    refine a_getI (pc := 48) hG sm_0 cl_X12 ok_X12 39 (by decide) rfl t_1648 dX12_operand_48 ?_
    refine a_bipush (pc := 51) hG dX12_operand_51 (v := (nI 8)) rfl ?_
    refine a_ic_le (pc := 53) hG (tgt := 62) hd dX12_operand_53 (by decide) (fun hd => ?_) (fun hd => ?_)
    · refine a_aload_n (pc := 62) hG 0 rfl dX12_operand_62 rfl ?_
      refine a_dup (pc := 63) hG dX12_operand_63 rfl ?_
      refine a_getI (pc := 64) hG sm_0 cl_X12 ok_X12 37 (by decide) rfl t_1646 dX12_operand_64 ?_
      refine a_iconst (pc := 67) hG dX12_operand_67 (v := (nI 1)) rfl ?_
      refine a_iadd (pc := 68) hG dX12_operand_68 ?_
      refine a_putI (pc := 69) hG sm_0 cl_X12 ok_X12 37 (by decide) rfl t_1646 rfl (ty := .int) rfl rfl rfl hd dX12_operand_69 (fun h16 hd => ?_)
      refine a_aload_n (pc := 72) hG 0 rfl dX12_operand_72 rfl ?_
      refine a_cvN (pc := 73) hG (As := []) (st := []) sm_0 cl_X12 mk_X12_next t_1754 (by omega) (fun z hz => c_M_next F  _  z hz) rfl (Nat.le_of_ble_eq_true rfl) hd dX12_operand_73 (fun _ h17 hd => ?_)
      refine a_iload_n (pc := 76) hG 1 rfl dX12_operand_76 rfl ?_
      refine a_join hd (Q := fun J : HS → Option (Int32 × HS) => ∀  (h19 : HS), J  h19 = some q → AW SHm ad 5 (some (.int q.1), q.2) Γ 84 [(0, .ref (ad 0)), (1, .int v3)] [] h19) (fun  h19 hd => ?_) (fun J18 hJ18 hd => ?_)
      · refine a_aload_n (pc := 84) hG 0 rfl dX12_operand_84 rfl ?_
        refine a_getR (pc := 85) hG sm_0 cl_X12 ok_X12 35 (by decide) rfl t_1644 dX12_operand_85 ?_
        refine a_aload_n (pc := 88) hG 0 rfl dX12_operand_88 rfl ?_
        refine a_getI (pc := 89) hG sm_0 cl_X12 ok_X12 38 (by decide) rfl t_1647 dX12_operand_89 ?_
        refine a_iload_n (pc := 92) hG 1 rfl dX12_operand_92 rfl ?_
        refine a_join hd (Q := fun J : Int32 → HS → Option (Int32 × HS) => ∀ (v21 : Int32) (h22 : HS), J v21 h22 = some q → AW SHm ad 5 (some (.int q.1), q.2) Γ 103 [(0, .ref (ad 0))] [.int v21, .int (h19.1 0 38), .ref (ad 14)] h22) (fun v21 h22 hd => ?_) (fun J20 hJ20 hd => ?_)
        · refine a_iast (pc := 103) hG sm_14 hd dX12_operand_103 (fun h23 hd => ?_)
          refine a_aload_n (pc := 104) hG 0 rfl dX12_operand_104 rfl ?_
          refine a_dup (pc := 105) hG dX12_operand_105 rfl ?_
          refine a_getI (pc := 106) hG sm_0 cl_X12 ok_X12 38 (by decide) rfl t_1647 dX12_operand_106 ?_
          refine a_iconst (pc := 109) hG dX12_operand_109 (v := (nI 1)) rfl ?_
          refine a_iadd (pc := 110) hG dX12_operand_110 ?_
          refine a_putI (pc := 111) hG sm_0 cl_X12 ok_X12 38 (by decide) rfl t_1647 rfl (ty := .int) rfl rfl rfl hd dX12_operand_111 (fun h24 hd => ?_)
          refine a_aload_n (pc := 114) hG 0 rfl dX12_operand_114 rfl ?_
          refine a_dup (pc := 115) hG dX12_operand_115 rfl ?_
          refine a_getI (pc := 116) hG sm_0 cl_X12 ok_X12 39 (by decide) rfl t_1648 dX12_operand_116 ?_
          refine a_iconst (pc := 119) hG dX12_operand_119 (v := (nI 1)) rfl ?_
          refine a_iadd (pc := 120) hG dX12_operand_120 ?_
          refine a_putI (pc := 121) hG sm_0 cl_X12 ok_X12 39 (by decide) rfl t_1648 rfl (ty := .int) rfl rfl rfl hd dX12_operand_121 (fun h25 hd => ?_)
          refine a_iconst (pc := 124) hG dX12_operand_124 (v := (nI 1)) rfl ?_
          exact a_zret (pc := 125) hG hd dX12_operand_125
        refine a_if_eq (pc := 93) hG (tgt := 101) hd dX12_operand_93 (by decide) (fun hd => ?_) (fun hd => ?_)
        · refine a_bipush (pc := 101) hG dX12_operand_101 (v := (nI 23)) rfl ?_
          exact AW.sub [0] rfl (hJ20 _ _ hd)
        refine a_bipush (pc := 96) hG dX12_operand_96 (v := (nI 20)) rfl ?_
        refine a_goto (pc := 98) hG (tgt := 103) dX12_operand_98 (by decide) ?_
        exact AW.sub [0] rfl (hJ20 _ _ hd)
      refine a_if_ne (pc := 77) hG (tgt := 84) hd dX12_operand_77 (by decide) (fun hd => ?_) (fun hd => ?_)
      · exact AW.sub [0, 1] rfl (hJ18  _ hd)
      refine a_iload_n (pc := 80) hG 2 rfl dX12_operand_80 rfl ?_
      refine a_if_eq (pc := 81) hG (tgt := 126) hd dX12_operand_81 (by decide) (fun hd => ?_) (fun hd => ?_)
      · refine a_aload_n (pc := 126) hG 0 rfl dX12_operand_126 rfl ?_
        refine a_iconst (pc := 127) hG dX12_operand_127 (v := (nI 1)) rfl ?_
        refine a_putI (pc := 128) hG sm_0 cl_X12 ok_X12 40 (by decide) rfl t_1649 rfl (ty := .boolean) rfl rfl rfl hd dX12_operand_128 (fun h26 hd => ?_)
        refine a_iload_n (pc := 131) hG 3 rfl dX12_operand_131 rfl ?_
        refine a_iconst (pc := 132) hG dX12_operand_132 (v := (nI 5)) rfl ?_
        refine a_ic_ge (pc := 133) hG (tgt := 145) hd dX12_operand_133 (by decide) (fun hd => ?_) (fun hd => ?_)
        · refine a_iload_n (pc := 145) hG 3 rfl dX12_operand_145 rfl ?_
          refine a_iconst (pc := 146) hG dX12_operand_146 (v := (nI 5)) rfl ?_
          refine a_ic_ne (pc := 147) hG (tgt := 183) hd dX12_operand_147 (by decide) (fun hd => ?_) (fun hd => ?_)
          · refine a_aload_n (pc := 183) hG 0 rfl dX12_operand_183 rfl ?_
            refine a_getI (pc := 184) hG sm_0 cl_X12 ok_X12 11 (by decide) rfl t_1620 dX12_operand_184 ?_
            refine a_iconst (pc := 187) hG dX12_operand_187 (v := (nI 3)) rfl ?_
            refine a_join hd (Q := fun J : HS → Option (Int32 × HS) => ∀  (h28 : HS), J  h28 = some q → AW SHm ad 5 (some (.int q.1), q.2) Γ 209 [(0, .ref (ad 0))] [] h28) (fun  h28 hd => ?_) (fun J27 hJ27 hd => ?_)
            · refine a_aload_n (pc := 209) hG 0 rfl dX12_operand_209 rfl ?_
              refine a_iconst (pc := 210) hG dX12_operand_210 (v := (nI 1)) rfl ?_
              refine a_cvI (pc := 211) hG (As := [.int (nI 1)]) (st := []) sm_0 cl_X12 mk_X12_bad t_1783 (by omega) (fun z hz => c_M_bad (nI 1) _  z hz) rfl (Nat.le_of_ble_eq_true rfl) hd dX12_operand_211 (fun r30 h29 hd => ?_)
              exact a_zret (pc := 214) hG hd dX12_operand_214
            refine a_ic_ne (pc := 188) hG (tgt := 209) hd dX12_operand_188 (by decide) (fun hd => ?_) (fun hd => ?_)
            · exact AW.sub [0] rfl (hJ27  _ hd)
            refine a_aload_n (pc := 191) hG 0 rfl dX12_operand_191 rfl ?_
            refine a_getI (pc := 192) hG sm_0 cl_X12 ok_X12 14 (by decide) rfl t_1623 dX12_operand_192 ?_
            refine a_bipush (pc := 195) hG dX12_operand_195 (v := (nI 60)) rfl ?_
            refine a_ic_lt (pc := 197) hG (tgt := 209) hd dX12_operand_197 (by decide) (fun hd => ?_) (fun hd => ?_)
            · exact AW.sub [0] rfl (hJ27  _ hd)
            refine a_aload_n (pc := 200) hG 0 rfl dX12_operand_200 rfl ?_
            refine a_getI (pc := 201) hG sm_0 cl_X12 ok_X12 14 (by decide) rfl t_1623 dX12_operand_201 ?_
            refine a_bipush (pc := 204) hG dX12_operand_204 (v := (nI 62)) rfl ?_
            refine a_ic_le (pc := 206) hG (tgt := 215) hd dX12_operand_206 (by decide) (fun hd => ?_) (fun hd => ?_)
            · refine a_aload_n (pc := 215) hG 0 rfl dX12_operand_215 rfl ?_
              refine a_getI (pc := 216) hG sm_0 cl_X12 ok_X12 14 (by decide) rfl t_1623 dX12_operand_216 ?_
              refine a_istoreN (pc := 219) hG hd dX12_operand_219 (by decide) (lf := fun x => [(4, .int x), (0, .ref (ad 0)), (1, .int v3), (2, .int v6), (3, .int v9)]) (fun _ => rfl) (fun v31 hd => ?_)
              refine a_aload_n (pc := 221) hG 1 rfl dX12_operand_221 rfl ?_
              refine a_cvN (pc := 222) hG (As := []) (st := []) sm_0 cl_X12 mk_X12_next t_1754 (by omega) (fun z hz => c_M_next F  _  z hz) rfl (Nat.le_of_ble_eq_true rfl) hd dX12_operand_222 (fun _ h32 hd => ?_)
              refine a_aload_n (pc := 225) hG 1 rfl dX12_operand_225 rfl ?_
              refine a_getI (pc := 226) hG sm_0 cl_X12 ok_X12 11 (by decide) rfl t_1620 dX12_operand_226 ?_
              refine a_iconst (pc := 229) hG dX12_operand_229 (v := (nI 2)) rfl ?_
              refine a_ic_eq (pc := 230) hG (tgt := 239) hd dX12_operand_230 (by decide) (fun hd => ?_) (fun hd => ?_)
              · refine a_aload_n (pc := 239) hG 1 rfl dX12_operand_239 rfl ?_
                refine a_iload_n (pc := 240) hG 4 rfl dX12_operand_240 rfl ?_
                refine a_iload (pc := 241) hG 0 rfl dX12_operand_241 ?_
                refine a_aload_n (pc := 243) hG 1 rfl dX12_operand_243 rfl ?_
                refine a_getI (pc := 244) hG sm_0 cl_X12 ok_X12 14 (by decide) rfl t_1623 dX12_operand_244 ?_
                refine a_cvN (pc := 247) hG (As := [.int v9, .int v31, .int (h32.1 0 14)]) (st := []) sm_0 cl_X12 mk_X12_code t_2133 (by omega) (fun z hz => c_M_code v9 v31 (h32.1 0 14) _  z hz) rfl (Nat.le_of_ble_eq_true rfl) hd dX12_operand_247 (fun _ h33 hd => ?_)
                refine a_aload_n (pc := 250) hG 1 rfl dX12_operand_250 rfl ?_
                refine a_cvN (pc := 251) hG (As := []) (st := []) sm_0 cl_X12 mk_X12_next t_1754 (by omega) (fun z hz => c_M_next F  _  z hz) rfl (Nat.le_of_ble_eq_true rfl) hd dX12_operand_251 (fun _ h34 hd => ?_)
                refine a_iconst (pc := 254) hG dX12_operand_254 (v := (nI 1)) rfl ?_
                exact a_zret (pc := 255) hG hd dX12_operand_255
              refine a_aload_n (pc := 233) hG 1 rfl dX12_operand_233 rfl ?_
              refine a_iconst (pc := 234) hG dX12_operand_234 (v := (nI 1)) rfl ?_
              refine a_cvI (pc := 235) hG (As := [.int (nI 1)]) (st := []) sm_0 cl_X12 mk_X12_bad t_1783 (by omega) (fun z hz => c_M_bad (nI 1) _  z hz) rfl (Nat.le_of_ble_eq_true rfl) hd dX12_operand_235 (fun r36 h35 hd => ?_)
              exact a_zret (pc := 238) hG hd dX12_operand_238
            exact AW.sub [0] rfl (hJ27  _ hd)
          refine a_aload_n (pc := 150) hG 0 rfl dX12_operand_150 rfl ?_
          refine a_bipush (pc := 151) hG dX12_operand_151 (v := (nI 6)) rfl ?_
          refine a_aload_n (pc := 153) hG 0 rfl dX12_operand_153 rfl ?_
          refine a_getR (pc := 154) hG sm_0 cl_X12 ok_X12 6 (by decide) rfl t_1615 dX12_operand_154 ?_
          refine a_iconst (pc := 157) hG dX12_operand_157 (v := (nI 1)) rfl ?_
          refine a_iald (pc := 158) hG sm_2 hd dX12_operand_158 (fun hd => ?_)
          refine a_cvI (pc := 159) hG (As := [.int (nI 6), .int (h26.1 2 (nI 1).toNatClampNeg)]) (st := []) sm_0 cl_X12 mk_X12_looksAt t_1810 (by omega) (fun z hz => c_M_looksAt F (nI 6) (h26.1 2 (nI 1).toNatClampNeg) _  z hz) rfl (Nat.le_of_ble_eq_true rfl) hd dX12_operand_159 (fun r38 h37 hd => ?_)
          refine a_if_ne (pc := 162) hG (tgt := 167) hd dX12_operand_162 (by decide) (fun hd => ?_) (fun hd => ?_)
          · refine a_aload_n (pc := 167) hG 0 rfl dX12_operand_167 rfl ?_
            refine a_iload_n (pc := 168) hG 3 rfl dX12_operand_168 rfl ?_
            refine a_iconst (pc := 169) hG dX12_operand_169 (v := (nI 0)) rfl ?_
            refine a_aload_n (pc := 170) hG 0 rfl dX12_operand_170 rfl ?_
            refine a_getI (pc := 171) hG sm_0 cl_X12 ok_X12 18 (by decide) rfl t_1627 dX12_operand_171 ?_
            refine a_cvN (pc := 174) hG (As := [.int v9, .int (nI 0), .int (h37.1 0 18)]) (st := []) sm_0 cl_X12 mk_X12_code t_2133 (by omega) (fun z hz => c_M_code v9 (nI 0) (h37.1 0 18) _  z hz) rfl (Nat.le_of_ble_eq_true rfl) hd dX12_operand_174 (fun _ h39 hd => ?_)
            refine a_aload_n (pc := 177) hG 0 rfl dX12_operand_177 rfl ?_
            refine a_cvN (pc := 178) hG (As := []) (st := []) sm_0 cl_X12 mk_X12_next t_1754 (by omega) (fun z hz => c_M_next F  _  z hz) rfl (Nat.le_of_ble_eq_true rfl) hd dX12_operand_178 (fun _ h40 hd => ?_)
            refine a_iconst (pc := 181) hG dX12_operand_181 (v := (nI 1)) rfl ?_
            exact a_zret (pc := 182) hG hd dX12_operand_182
          refine a_iconst (pc := 165) hG dX12_operand_165 (v := (nI 0)) rfl ?_
          exact a_zret (pc := 166) hG hd dX12_operand_166
        refine a_aload_n (pc := 136) hG 0 rfl dX12_operand_136 rfl ?_
        refine a_iload_n (pc := 137) hG 3 rfl dX12_operand_137 rfl ?_
        refine a_iconst (pc := 138) hG dX12_operand_138 (v := (nI 0)) rfl ?_
        refine a_iconst (pc := 139) hG dX12_operand_139 (v := (nI 0)) rfl ?_
        refine a_cvN (pc := 140) hG (As := [.int v9, .int (nI 0), .int (nI 0)]) (st := []) sm_0 cl_X12 mk_X12_code t_2133 (by omega) (fun z hz => c_M_code v9 (nI 0) (nI 0) _  z hz) rfl (Nat.le_of_ble_eq_true rfl) hd dX12_operand_140 (fun _ h41 hd => ?_)
        refine a_iconst (pc := 143) hG dX12_operand_143 (v := (nI 1)) rfl ?_
        exact a_zret (pc := 144) hG hd dX12_operand_144
      exact AW.sub [0, 1] rfl (hJ18  _ hd)
    exact AW.sub [0] rfl (hJ12  _ hd)
  refine a_if_ne (pc := 21) hG (tgt := 38) hd dX12_operand_21 (by decide) (fun hd => ?_) (fun hd => ?_)
  · exact AW.sub [3, 2, 1, 0] rfl (hJ10  _ hd)
  refine a_iload_n (pc := 24) hG 1 rfl dX12_operand_24 rfl ?_
  refine a_if_ne (pc := 25) hG (tgt := 38) hd dX12_operand_25 (by decide) (fun hd => ?_) (fun hd => ?_)
  · exact AW.sub [3, 2, 1, 0] rfl (hJ10  _ hd)
  refine a_iload_n (pc := 28) hG 0 rfl dX12_operand_28 rfl ?_
  refine a_if_ge (pc := 29) hG (tgt := 38) hd dX12_operand_29 (by decide) (fun hd => ?_) (fun hd => ?_)
  · exact AW.sub [3, 2, 1, 0] rfl (hJ10  _ hd)
  refine a_aload_n (pc := 32) hG 3 rfl dX12_operand_32 rfl ?_
  refine a_iconst (pc := 33) hG dX12_operand_33 (v := (nI 1)) rfl ?_
  refine a_cvI (pc := 34) hG (As := [.int (nI 1)]) (st := []) sm_0 cl_X12 mk_X12_bad t_1783 (by omega) (fun z hz => c_M_bad (nI 1) _  z hz) rfl (Nat.le_of_ble_eq_true rfl) hd dX12_operand_34 (fun r43 h42 hd => ?_)
  exact a_zret (pc := 37) hG hd dX12_operand_37
