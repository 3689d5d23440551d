theorem dX12_act_0 : decode cX12_act 0 = .ok (.aload_n 0, 1) := by decide +kernel
theorem dX12_act_1 : decode cX12_act 1 = .ok (.iconst 0, 1) := by decide +kernel
theorem dX12_act_2 : decode cX12_act 2 = .ok (.putfield 1, 3) := by decide +kernel
theorem dX12_act_5 : decode cX12_act 5 = .ok (.aload_n 0, 1) := by decide +kernel
theorem dX12_act_6 : decode cX12_act 6 = .ok (.iload_n 1, 1) := by decide +kernel
theorem dX12_act_7 : decode cX12_act 7 = .ok (.invokevirtual 269, 3) := by decide +kernel
theorem dX12_act_10 : decode cX12_act 10 = .ok (.ifCond .eq 11, 3) := by decide +kernel
theorem dX12_act_13 : decode cX12_act 13 = .ok (.aload_n 0, 1) := by decide +kernel
theorem dX12_act_14 : decode cX12_act 14 = .ok (.iload_n 2, 1) := by decide +kernel
theorem dX12_act_15 : decode cX12_act 15 = .ok (.invokevirtual 266, 3) := by decide +kernel
theorem dX12_act_18 : decode cX12_act 18 = .ok (.ifCond .ne 5, 3) := by decide +kernel
theorem dX12_act_21 : decode cX12_act 21 = .ok (.iconst (-1), 1) := by decide +kernel
theorem dX12_act_22 : decode cX12_act 22 = .ok (.ireturn, 1) := by decide +kernel
theorem dX12_act_23 : decode cX12_act 23 = .ok (.aload_n 0, 1) := by decide +kernel
theorem dX12_act_24 : decode cX12_act 24 = .ok (.iload_n 1, 1) := by decide +kernel
theorem dX12_act_25 : decode cX12_act 25 = .ok (.iload_n 2, 1) := by decide +kernel
theorem dX12_act_26 : decode cX12_act 26 = .ok (.invokevirtual 288, 3) := by decide +kernel
theorem dX12_act_29 : decode cX12_act 29 = .ok (.istore_n 3, 1) := by decide +kernel
theorem dX12_act_30 : decode cX12_act 30 = .ok (.iload_n 3, 1) := by decide +kernel
theorem dX12_act_31 : decode cX12_act 31 = .ok (.ifCond .le 5, 3) := by decide +kernel
theorem dX12_act_34 : decode cX12_act 34 = .ok (.iload_n 3, 1) := by decide +kernel
theorem dX12_act_35 : decode cX12_act 35 = .ok (.ireturn, 1) := by decide +kernel
theorem dX12_act_36 : decode cX12_act 36 = .ok (.aload_n 0, 1) := by decide +kernel
theorem dX12_act_37 : decode cX12_act 37 = .ok (.invokevirtual 281, 3) := by decide +kernel
theorem dX12_act_40 : decode cX12_act 40 = .ok (.aload_n 0, 1) := by decide +kernel
theorem dX12_act_41 : decode cX12_act 41 = .ok (.iload_n 1, 1) := by decide +kernel
theorem dX12_act_42 : decode cX12_act 42 = .ok (.iload_n 2, 1) := by decide +kernel
theorem dX12_act_43 : decode cX12_act 43 = .ok (.invokevirtual 291, 3) := by decide +kernel
theorem dX12_act_46 : decode cX12_act 46 = .ok (.iconst 0, 1) := by decide +kernel
theorem dX12_act_47 : decode cX12_act 47 = .ok (.ireturn, 1) := by decide +kernel
set_option maxHeartbeats 4000000 in
theorem c_M_act {ad wad : Nat → Nat} (F : Nat) (a0 : Int32) (a1 : Int32) (h : HS)  (q : Int32 × HS) (hd : f_M_act F a0 a1 h = some q) : Ctr SHm ad wad yX12_act cX12_act 4 (some .int) 3 [.ref (ad 0), .int a0, .int a1] h (some (.int q.1), q.2) := by
  refine enter (own := RX12) (lv := [(0, .ref (ad 0)), (1, .int a0), (2, .int a1)]) (by decide +kernel) rfl (Nat.le_of_ble_eq_true rfl) rfl (fun Γ hG => ?_)
  unfold f_M_act at hd
  refine a_aload_n (pc := 0) hG 0 rfl dX12_act_0 rfl ?_
  refine a_iconst (pc := 1) hG dX12_act_1 (v := (nI 0)) rfl ?_
  refine a_putI (pc := 2) hG sm_0 cl_X12 ok_X12 0 (by decide) rfl t_1609 rfl (ty := .int) rfl rfl rfl hd dX12_act_2 (fun h1 hd => ?_)
  refine a_aload_n (pc := 5) hG 0 rfl dX12_act_5 rfl ?_
  refine a_iload_n (pc := 6) hG 1 rfl dX12_act_6 rfl ?_
  refine a_cvI (pc := 7) hG (As := [.int a0]) (st := []) sm_0 cl_X12 mk_X12_isClerk t_1873 (by omega) (fun z hz => c_M_isClerk a0 _  z hz) rfl (Nat.le_of_ble_eq_true rfl) hd dX12_act_7 (fun r3 h2 hd => ?_)
  refine a_if_eq (pc := 10) hG (tgt := 21) hd dX12_act_10 (by decide) (fun hd => ?_) (fun hd => ?_)
  · refine a_iconst (pc := 21) hG dX12_act_21 (v := (-1 : Int32)) rfl ?_
    exact a_iret (pc := 22) hG hd dX12_act_22
  refine a_aload_n (pc := 13) hG 0 rfl dX12_act_13 rfl ?_
  refine a_iload_n (pc := 14) hG 2 rfl dX12_act_14 rfl ?_
  refine a_cvI (pc := 15) hG (As := [.int a1]) (st := []) sm_0 cl_X12 mk_X12_isDeed t_1865 (by omega) (fun z hz => c_M_isDeed a1 _  z hz) rfl (Nat.le_of_ble_eq_true rfl) hd dX12_act_15 (fun r5 h4 hd => ?_)
  refine a_if_ne (pc := 18) hG (tgt := 23) hd dX12_act_18 (by decide) (fun hd => ?_) (fun hd => ?_)
  · refine a_aload_n (pc := 23) hG 0 rfl dX12_act_23 rfl ?_
    refine a_iload_n (pc := 24) hG 1 rfl dX12_act_24 rfl ?_
    refine a_iload_n (pc := 25) hG 2 rfl dX12_act_25 rfl ?_
    refine a_cvI (pc := 26) hG (As := [.int a0, .int a1]) (st := []) sm_0 cl_X12 mk_X12_whyAct t_1909 (by omega) (fun z hz => c_M_whyAct a0 a1 _  z hz) rfl (Nat.le_of_ble_eq_true rfl) hd dX12_act_26 (fun r7 h6 hd => ?_)
    refine a_istore_nN (pc := 29) hG hd dX12_act_29 rfl (by decide) (lf := fun x => [(3, .int x), (0, .ref (ad 0)), (1, .int a0), (2, .int a1)]) (fun _ => rfl) (fun v8 hd => ?_)
    refine a_iload_n (pc := 30) hG 0 rfl dX12_act_30 rfl ?_
    refine a_if_le (pc := 31) hG (tgt := 36) hd dX12_act_31 (by decide) (fun hd => ?_) (fun hd => ?_)
    · refine a_aload_n (pc := 36) hG 1 rfl dX12_act_36 rfl ?_
      refine a_cvN (pc := 37) hG (As := []) (st := []) sm_0 cl_X12 mk_X12_keep t_1897 (by omega) (fun z hz => c_M_keep F  _  z hz) rfl (Nat.le_of_ble_eq_true rfl) hd dX12_act_37 (fun _ h9 hd => ?_)
      refine a_aload_n (pc := 40) hG 1 rfl dX12_act_40 rfl ?_
      refine a_iload_n (pc := 41) hG 2 rfl dX12_act_41 rfl ?_
      refine a_iload_n (pc := 42) hG 3 rfl dX12_act_42 rfl ?_
      refine a_cvN (pc := 43) hG (As := [.int a0, .int a1]) (st := []) sm_0 cl_X12 mk_X12_acting t_1913 (by omega) (fun z hz => c_M_acting a0 a1 _  z hz) rfl (Nat.le_of_ble_eq_true rfl) hd dX12_act_43 (fun _ h10 hd => ?_)
      refine a_iconst (pc := 46) hG dX12_act_46 (v := (nI 0)) rfl ?_
      exact a_iret (pc := 47) hG hd dX12_act_47
    refine a_iload_n (pc := 34) hG 0 rfl dX12_act_34 rfl ?_
    exact a_iret (pc := 35) hG hd dX12_act_35
  refine a_iconst (pc := 21) hG dX12_act_21 (v := (-1 : Int32)) rfl ?_
  exact a_iret (pc := 22) hG hd dX12_act_22
theorem dX12_whyDrop_0 : decode cX12_whyDrop 0 = .ok (.aload_n 0, 1) := by decide +kernel
theorem dX12_whyDrop_1 : decode cX12_whyDrop 1 = .ok (.getfield 33, 3) := by decide +kernel
theorem dX12_whyDrop_4 : decode cX12_whyDrop 4 = .ok (.sipush 131, 3) := by decide +kernel
theorem dX12_whyDrop_7 : decode cX12_whyDrop 7 = .ok (.iload_n 1, 1) := by decide +kernel
theorem dX12_whyDrop_8 : decode cX12_whyDrop 8 = .ok (.iadd, 1) := by decide +kernel
theorem dX12_whyDrop_9 : decode cX12_whyDrop 9 = .ok (.iaload, 1) := by decide +kernel
theorem dX12_whyDrop_10 : decode cX12_whyDrop 10 = .ok (.ifCond .ne 7, 3) := by decide +kernel
theorem dX12_whyDrop_13 : decode cX12_whyDrop 13 = .ok (.iconst 1, 1) := by decide +kernel
theorem dX12_whyDrop_14 : decode cX12_whyDrop 14 = .ok (.goto 21, 3) := by decide +kernel
theorem dX12_whyDrop_17 : decode cX12_whyDrop 17 = .ok (.aload_n 0, 1) := by decide +kernel
theorem dX12_whyDrop_18 : decode cX12_whyDrop 18 = .ok (.getfield 33, 3) := by decide +kernel
theorem dX12_whyDrop_21 : decode cX12_whyDrop 21 = .ok (.bipush 72, 2) := by decide +kernel
theorem dX12_whyDrop_23 : decode cX12_whyDrop 23 = .ok (.iaload, 1) := by decide +kernel
theorem dX12_whyDrop_24 : decode cX12_whyDrop 24 = .ok (.iconst 5, 1) := by decide +kernel
theorem dX12_whyDrop_25 : decode cX12_whyDrop 25 = .ok (.irem, 1) := by decide +kernel
theorem dX12_whyDrop_26 : decode cX12_whyDrop 26 = .ok (.iconst 4, 1) := by decide +kernel
theorem dX12_whyDrop_27 : decode cX12_whyDrop 27 = .ok (.if_icmp .ne 7, 3) := by decide +kernel
theorem dX12_whyDrop_30 : decode cX12_whyDrop 30 = .ok (.iconst 2, 1) := by decide +kernel
theorem dX12_whyDrop_31 : decode cX12_whyDrop 31 = .ok (.goto 4, 3) := by decide +kernel
theorem dX12_whyDrop_34 : decode cX12_whyDrop 34 = .ok (.iconst 0, 1) := by decide +kernel
theorem dX12_whyDrop_35 : decode cX12_whyDrop 35 = .ok (.ireturn, 1) := by decide +kernel
set_option maxHeartbeats 4000000 in
theorem c_M_whyDrop {ad wad : Nat → Nat} (a0 : Int32) (h : HS)  (q : Int32 × HS) (hd : f_M_whyDrop a0 h = some q) : Ctr SHm ad wad yX12_whyDrop cX12_whyDrop 2 (some .int) 1 [.ref (ad 0), .int a0] h (some (.int q.1), q.2) := by
  refine enter (own := RX12) (lv := [(0, .ref (ad 0)), (1, .int a0)]) (by decide +kernel) rfl (Nat.le_of_ble_eq_true rfl) rfl (fun Γ hG => ?_)
  unfold f_M_whyDrop at hd
  refine a_aload_n (pc := 0) hG 0 rfl dX12_whyDrop_0 rfl ?_
  refine a_getR (pc := 1) hG sm_0 cl_X12 ok_X12 6 (by decide) rfl t_1615 dX12_whyDrop_1 ?_
  refine a_sipush (pc := 4) hG dX12_whyDrop_4 (v := (nI 131)) rfl ?_
  refine a_iload_n (pc := 7) hG 1 rfl dX12_whyDrop_7 rfl ?_
  refine a_iadd (pc := 8) hG dX12_whyDrop_8 ?_
  refine a_iald (pc := 9) hG sm_2 hd dX12_whyDrop_9 (fun hd => ?_)
  refine a_if_ne (pc := 10) hG (tgt := 17) hd dX12_whyDrop_10 (by decide) (fun hd => ?_) (fun hd => ?_)
  · refine a_aload_n (pc := 17) hG 0 rfl dX12_whyDrop_17 rfl ?_
    refine a_getR (pc := 18) hG sm_0 cl_X12 ok_X12 6 (by decide) rfl t_1615 dX12_whyDrop_18 ?_
    refine a_bipush (pc := 21) hG dX12_whyDrop_21 (v := (nI 72)) rfl ?_
    refine a_iald (pc := 23) hG sm_2 hd dX12_whyDrop_23 (fun hd => ?_)
    refine a_iconst (pc := 24) hG dX12_whyDrop_24 (v := (nI 5)) rfl ?_
    refine a_irem (pc := 25) hG hd dX12_whyDrop_25 (fun hd => ?_)
    refine a_iconst (pc := 26) hG dX12_whyDrop_26 (v := (nI 4)) rfl ?_
    refine a_ic_ne (pc := 27) hG (tgt := 34) hd dX12_whyDrop_27 (by decide) (fun hd => ?_) (fun hd => ?_)
    · refine a_iconst (pc := 34) hG dX12_whyDrop_34 (v := (nI 0)) rfl ?_
      exact a_iret (pc := 35) hG hd dX12_whyDrop_35
    refine a_iconst (pc := 30) hG dX12_whyDrop_30 (v := (nI 2)) rfl ?_
    refine a_goto (pc := 31) hG (tgt := 35) dX12_whyDrop_31 (by decide) ?_
    exact a_iret (pc := 35) hG hd dX12_whyDrop_35
  refine a_iconst (pc := 13) hG dX12_whyDrop_13 (v := (nI 1)) rfl ?_
  refine a_goto (pc := 14) hG (tgt := 35) dX12_whyDrop_14 (by decide) ?_
  exact a_iret (pc := 35) hG hd dX12_whyDrop_35
theorem dX12_payOf_0 : decode cX12_payOf 0 = .ok (.aload_n 0, 1) := by decide +kernel
theorem dX12_payOf_1 : decode cX12_payOf 1 = .ok (.getfield 33, 3) := by decide +kernel
theorem dX12_payOf_4 : decode cX12_payOf 4 = .ok (.bipush 19, 2) := by decide +kernel
theorem dX12_payOf_6 : decode cX12_payOf 6 = .ok (.iload_n 1, 1) := by decide +kernel
theorem dX12_payOf_7 : decode cX12_payOf 7 = .ok (.iadd, 1) := by decide +kernel
theorem dX12_payOf_8 : decode cX12_payOf 8 = .ok (.iaload, 1) := by decide +kernel
theorem dX12_payOf_9 : decode cX12_payOf 9 = .ok (.aload_n 0, 1) := by decide +kernel
theorem dX12_payOf_10 : decode cX12_payOf 10 = .ok (.iload_n 1, 1) := by decide +kernel
theorem dX12_payOf_11 : decode cX12_payOf 11 = .ok (.iload_n 2, 1) := by decide +kernel
theorem dX12_payOf_12 : decode cX12_payOf 12 = .ok (.invokevirtual 252, 3) := by decide +kernel
theorem dX12_payOf_15 : decode cX12_payOf 15 = .ok (.imul, 1) := by decide +kernel
theorem dX12_payOf_16 : decode cX12_payOf 16 = .ok (.sipush 1000, 3) := by decide +kernel
theorem dX12_payOf_19 : decode cX12_payOf 19 = .ok (.idiv, 1) := by decide +kernel
theorem dX12_payOf_20 : decode cX12_payOf 20 = .ok (.ireturn, 1) := by decide +kernel
set_option maxHeartbeats 4000000 in
theorem c_M_payOf {ad wad : Nat → Nat} (F : Nat) (a0 : Int32) (a1 : Int32) (h : HS)  (q : Int32 × HS) (hd : f_M_payOf F a0 a1 h = some q) : Ctr SHm ad wad yX12_payOf cX12_payOf 3 (some .int) 6 [.ref (ad 0), .int a0, .int a1] h (some (.int q.1), q.2) := by
  refine enter (own := RX12) (lv := [(0, .ref (ad 0)), (1, .int a0), (2, .int a1)]) (by decide +kernel) rfl (Nat.le_of_ble_eq_true rfl) rfl (fun Γ hG => ?_)
  unfold f_M_payOf at hd
  refine a_aload_n (pc := 0) hG 0 rfl dX12_payOf_0 rfl ?_
  refine a_getR (pc := 1) hG sm_0 cl_X12 ok_X12 6 (by decide) rfl t_1615 dX12_payOf_1 ?_
  refine a_bipush (pc := 4) hG dX12_payOf_4 (v := (nI 19)) rfl ?_
  refine a_iload_n (pc := 6) hG 1 rfl dX12_payOf_6 rfl ?_
  refine a_iadd (pc := 7) hG dX12_payOf_7 ?_
  refine a_iald (pc := 8) hG sm_2 hd dX12_payOf_8 (fun hd => ?_)
  refine a_aload_n (pc := 9) hG 0 rfl dX12_payOf_9 rfl ?_
  refine a_iload_n (pc := 10) hG 1 rfl dX12_payOf_10 rfl ?_
  refine a_iload_n (pc := 11) hG 2 rfl dX12_payOf_11 rfl ?_
  refine a_cvI (pc := 12) hG (As := [.int a0, .int a1]) (st := [.int (h.1 2 ((nI 19) + a0).toNatClampNeg)]) sm_0 cl_X12 mk_X12_nearOf t_1838 (by omega) (fun z hz => c_M_nearOf F a0 a1 _  z hz) rfl (Nat.le_of_ble_eq_true rfl) hd dX12_payOf_12 (fun r2 h1 hd => ?_)
  refine a_imul (pc := 15) hG dX12_payOf_15 ?_
  refine a_sipush (pc := 16) hG dX12_payOf_16 (v := (nI 1000)) rfl ?_
  refine a_idiv (pc := 19) hG hd dX12_payOf_19 (fun hd => ?_)
  exact a_iret (pc := 20) hG hd dX12_payOf_20
theorem dX12_dropping_0 : decode cX12_dropping 0 = .ok (.aload_n 0, 1) := by decide +kernel
theorem dX12_dropping_1 : decode cX12_dropping 1 = .ok (.getfield 33, 3) := by decide +kernel
theorem dX12_dropping_4 : decode cX12_dropping 4 = .ok (.sipush 131, 3) := by decide +kernel
theorem dX12_dropping_7 : decode cX12_dropping 7 = .ok (.iload_n 1, 1) := by decide +kernel
theorem dX12_dropping_8 : decode cX12_dropping 8 = .ok (.iadd, 1) := by decide +kernel
theorem dX12_dropping_9 : decode cX12_dropping 9 = .ok (.iaload, 1) := by decide +kernel
theorem dX12_dropping_10 : decode cX12_dropping 10 = .ok (.iconst 1, 1) := by decide +kernel
theorem dX12_dropping_11 : decode cX12_dropping 11 = .ok (.isub, 1) := by decide +kernel
theorem dX12_dropping_12 : decode cX12_dropping 12 = .ok (.istore_n 2, 1) := by decide +kernel
theorem dX12_dropping_13 : decode cX12_dropping 13 = .ok (.aload_n 0, 1) := by decide +kernel
theorem dX12_dropping_14 : decode cX12_dropping 14 = .ok (.iload_n 2, 1) := by decide +kernel
theorem dX12_dropping_15 : decode cX12_dropping 15 = .ok (.iconst 0, 1) := by decide +kernel
theorem dX12_dropping_16 : decode cX12_dropping 16 = .ok (.invokevirtual 272, 3) := by decide +kernel
theorem dX12_dropping_19 : decode cX12_dropping 19 = .ok (.ifCond .eq 12, 3) := by decide +kernel
theorem dX12_dropping_22 : decode cX12_dropping 22 = .ok (.aload_n 0, 1) := by decide +kernel
theorem dX12_dropping_23 : decode cX12_dropping 23 = .ok (.iload_n 2, 1) := by decide +kernel
theorem dX12_dropping_24 : decode cX12_dropping 24 = .ok (.iconst 0, 1) := by decide +kernel
theorem dX12_dropping_25 : decode cX12_dropping 25 = .ok (.invokevirtual 275, 3) := by decide +kernel
theorem dX12_dropping_28 : decode cX12_dropping 28 = .ok (.goto 4, 3) := by decide +kernel
theorem dX12_dropping_31 : decode cX12_dropping 31 = .ok (.iconst 0, 1) := by decide +kernel
theorem dX12_dropping_32 : decode cX12_dropping 32 = .ok (.istore_n 3, 1) := by decide +kernel
theorem dX12_dropping_33 : decode cX12_dropping 33 = .ok (.aload_n 0, 1) := by decide +kernel
theorem dX12_dropping_34 : decode cX12_dropping 34 = .ok (.getfield 33, 3) := by decide +kernel
theorem dX12_dropping_37 : decode cX12_dropping 37 = .ok (.bipush 73, 2) := by decide +kernel
theorem dX12_dropping_39 : decode cX12_dropping 39 = .ok (.dup2, 1) := by decide +kernel
theorem dX12_dropping_40 : decode cX12_dropping 40 = .ok (.iaload, 1) := by decide +kernel
theorem dX12_dropping_41 : decode cX12_dropping 41 = .ok (.iload_n 3, 1) := by decide +kernel
theorem dX12_dropping_42 : decode cX12_dropping 42 = .ok (.iadd, 1) := by decide +kernel
theorem dX12_dropping_43 : decode cX12_dropping 43 = .ok (.iastore, 1) := by decide +kernel
theorem dX12_dropping_44 : decode cX12_dropping 44 = .ok (.aload_n 0, 1) := by decide +kernel
theorem dX12_dropping_45 : decode cX12_dropping 45 = .ok (.getfield 33, 3) := by decide +kernel
theorem dX12_dropping_48 : decode cX12_dropping 48 = .ok (.sipush 146, 3) := by decide +kernel
theorem dX12_dropping_51 : decode cX12_dropping 51 = .ok (.iload_n 1, 1) := by decide +kernel
theorem dX12_dropping_52 : decode cX12_dropping 52 = .ok (.iadd, 1) := by decide +kernel
theorem dX12_dropping_53 : decode cX12_dropping 53 = .ok (.dup2, 1) := by decide +kernel
theorem dX12_dropping_54 : decode cX12_dropping 54 = .ok (.iaload, 1) := by decide +kernel
theorem dX12_dropping_55 : decode cX12_dropping 55 = .ok (.iload_n 3, 1) := by decide +kernel
theorem dX12_dropping_56 : decode cX12_dropping 56 = .ok (.iadd, 1) := by decide +kernel
theorem dX12_dropping_57 : decode cX12_dropping 57 = .ok (.iastore, 1) := by decide +kernel
theorem dX12_dropping_58 : decode cX12_dropping 58 = .ok (.aload_n 0, 1) := by decide +kernel
theorem dX12_dropping_59 : decode cX12_dropping 59 = .ok (.getfield 33, 3) := by decide +kernel
theorem dX12_dropping_62 : decode cX12_dropping 62 = .ok (.bipush 114, 2) := by decide +kernel
theorem dX12_dropping_64 : decode cX12_dropping 64 = .ok (.iload_n 2, 1) := by decide +kernel
theorem dX12_dropping_65 : decode cX12_dropping 65 = .ok (.iadd, 1) := by decide +kernel
theorem dX12_dropping_66 : decode cX12_dropping 66 = .ok (.aload_n 0, 1) := by decide +kernel
theorem dX12_dropping_67 : decode cX12_dropping 67 = .ok (.iload_n 2, 1) := by decide +kernel
theorem dX12_dropping_68 : decode cX12_dropping 68 = .ok (.iconst 0, 1) := by decide +kernel
theorem dX12_dropping_69 : decode cX12_dropping 69 = .ok (.invokevirtual 252, 3) := by decide +kernel
theorem dX12_dropping_72 : decode cX12_dropping 72 = .ok (.iastore, 1) := by decide +kernel
theorem dX12_dropping_73 : decode cX12_dropping 73 = .ok (.aload_n 0, 1) := by decide +kernel
theorem dX12_dropping_74 : decode cX12_dropping 74 = .ok (.getfield 33, 3) := by decide +kernel
theorem dX12_dropping_77 : decode cX12_dropping 77 = .ok (.bipush 76, 2) := by decide +kernel
theorem dX12_dropping_79 : decode cX12_dropping 79 = .ok (.dup2, 1) := by decide +kernel
theorem dX12_dropping_80 : decode cX12_dropping 80 = .ok (.iaload, 1) := by decide +kernel
theorem dX12_dropping_81 : decode cX12_dropping 81 = .ok (.iconst 1, 1) := by decide +kernel
theorem dX12_dropping_82 : decode cX12_dropping 82 = .ok (.iadd, 1) := by decide +kernel
theorem dX12_dropping_83 : decode cX12_dropping 83 = .ok (.iastore, 1) := by decide +kernel
theorem dX12_dropping_84 : decode cX12_dropping 84 = .ok (.aload_n 0, 1) := by decide +kernel
theorem dX12_dropping_85 : decode cX12_dropping 85 = .ok (.getfield 33, 3) := by decide +kernel
theorem dX12_dropping_88 : decode cX12_dropping 88 = .ok (.bipush 96, 2) := by decide +kernel
theorem dX12_dropping_90 : decode cX12_dropping 90 = .ok (.iload_n 2, 1) := by decide +kernel
theorem dX12_dropping_91 : decode cX12_dropping 91 = .ok (.iadd, 1) := by decide +kernel
theorem dX12_dropping_92 : decode cX12_dropping 92 = .ok (.iconst 2, 1) := by decide +kernel
theorem dX12_dropping_93 : decode cX12_dropping 93 = .ok (.iastore, 1) := by decide +kernel
theorem dX12_dropping_94 : decode cX12_dropping 94 = .ok (.aload_n 0, 1) := by decide +kernel
theorem dX12_dropping_95 : decode cX12_dropping 95 = .ok (.getfield 33, 3) := by decide +kernel
theorem dX12_dropping_98 : decode cX12_dropping 98 = .ok (.bipush 120, 2) := by decide +kernel
theorem dX12_dropping_100 : decode cX12_dropping 100 = .ok (.iload_n 2, 1) := by decide +kernel
theorem dX12_dropping_101 : decode cX12_dropping 101 = .ok (.iadd, 1) := by decide +kernel
theorem dX12_dropping_102 : decode cX12_dropping 102 = .ok (.aload_n 0, 1) := by decide +kernel
theorem dX12_dropping_103 : decode cX12_dropping 103 = .ok (.getfield 33, 3) := by decide +kernel
theorem dX12_dropping_106 : decode cX12_dropping 106 = .ok (.bipush 72, 2) := by decide +kernel
theorem dX12_dropping_108 : decode cX12_dropping 108 = .ok (.iaload, 1) := by decide +kernel
theorem dX12_dropping_109 : decode cX12_dropping 109 = .ok (.iastore, 1) := by decide +kernel
theorem dX12_dropping_110 : decode cX12_dropping 110 = .ok (.aload_n 0, 1) := by decide +kernel
theorem dX12_dropping_111 : decode cX12_dropping 111 = .ok (.getfield 33, 3) := by decide +kernel
theorem dX12_dropping_114 : decode cX12_dropping 114 = .ok (.bipush 102, 2) := by decide +kernel
theorem dX12_dropping_116 : decode cX12_dropping 116 = .ok (.iload_n 2, 1) := by decide +kernel
theorem dX12_dropping_117 : decode cX12_dropping 117 = .ok (.iadd, 1) := by decide +kernel
theorem dX12_dropping_118 : decode cX12_dropping 118 = .ok (.iconst 0, 1) := by decide +kernel
theorem dX12_dropping_119 : decode cX12_dropping 119 = .ok (.iastore, 1) := by decide +kernel
theorem dX12_dropping_120 : decode cX12_dropping 120 = .ok (.aload_n 0, 1) := by decide +kernel
theorem dX12_dropping_121 : decode cX12_dropping 121 = .ok (.getfield 33, 3) := by decide +kernel
theorem dX12_dropping_124 : decode cX12_dropping 124 = .ok (.sipush 131, 3) := by decide +kernel
theorem dX12_dropping_127 : decode cX12_dropping 127 = .ok (.iload_n 1, 1) := by decide +kernel
theorem dX12_dropping_128 : decode cX12_dropping 128 = .ok (.iadd, 1) := by decide +kernel
theorem dX12_dropping_129 : decode cX12_dropping 129 = .ok (.iconst 0, 1) := by decide +kernel
theorem dX12_dropping_130 : decode cX12_dropping 130 = .ok (.iastore, 1) := by decide +kernel
theorem dX12_dropping_131 : decode cX12_dropping 131 = .ok (.return_, 1) := by decide +kernel
set_option maxHeartbeats 4000000 in
theorem c_M_dropping {ad wad : Nat → Nat} (F : Nat) (a0 : Int32) (h : HS)  (q : Unit × HS) (hd : f_M_dropping F a0 h = some q) : Ctr SHm ad wad yX12_dropping cX12_dropping 4 none 7 [.ref (ad 0), .int a0] h (none, q.2) := by
  refine enter (own := RX12) (lv := [(0, .ref (ad 0)), (1, .int a0)]) (by decide +kernel) rfl (Nat.le_of_ble_eq_true rfl) rfl (fun Γ hG => ?_)
  unfold f_M_dropping at hd
  refine a_aload_n (pc := 0) hG 0 rfl dX12_dropping_0 rfl ?_
  refine a_getR (pc := 1) hG sm_0 cl_X12 ok_X12 6 (by decide) rfl t_1615 dX12_dropping_1 ?_
  refine a_sipush (pc := 4) hG dX12_dropping_4 (v := (nI 131)) rfl ?_
  refine a_iload_n (pc := 7) hG 1 rfl dX12_dropping_7 rfl ?_
  refine a_iadd (pc := 8) hG dX12_dropping_8 ?_
  refine a_iald (pc := 9) hG sm_2 hd dX12_dropping_9 (fun hd => ?_)
  refine a_iconst (pc := 10) hG dX12_dropping_10 (v := (nI 1)) rfl ?_
  refine a_isub (pc := 11) hG dX12_dropping_11 ?_
  refine a_istore_nN (pc := 12) hG hd dX12_dropping_12 rfl (by decide) (lf := fun x => [(2, .int x), (0, .ref (ad 0)), (1, .int a0)]) (fun _ => rfl) (fun v1 hd => ?_)
  refine a_aload_n (pc := 13) hG 1 rfl dX12_dropping_13 rfl ?_
  refine a_iload_n (pc := 14) hG 0 rfl dX12_dropping_14 rfl ?_
  refine a_iconst (pc := 15) hG dX12_dropping_15 (v := (nI 0)) rfl ?_
  refine a_cvI (pc := 16) hG (As := [.int v1, .int (nI 0)]) (st := []) sm_0 cl_X12 mk_X12_isSafe t_1889 (by omega) (fun z hz => c_M_isSafe F v1 (nI 0) _  z hz) rfl (Nat.le_of_ble_eq_true rfl) hd dX12_dropping_16 (fun r3 h2 hd => ?_)
  refine a_join hd (Q := fun J : Int32 → HS → Option (Unit × HS) => ∀ (v5 : Int32) (h6 : HS), J v5 h6 = some q → AW SHm ad 4 (none, q.2) Γ 32 [(0, .ref (ad 0)), (1, .int a0), (2, .int v1)] [.int v5] h6) (fun v5 h6 hd => ?_) (fun J4 hJ4 hd => ?_)
  · refine a_istore_nN (pc := 32) hG hd dX12_dropping_32 rfl (by decide) (lf := fun x => [(3, .int x), (0, .ref (ad 0)), (1, .int a0), (2, .int v1)]) (fun _ => rfl) (fun v7 hd => ?_)
    refine a_aload_n (pc := 33) hG 1 rfl dX12_dropping_33 rfl ?_
    refine a_getR (pc := 34) hG sm_0 cl_X12 ok_X12 6 (by decide) rfl t_1615 dX12_dropping_34 ?_
    refine a_bipush (pc := 37) hG dX12_dropping_37 (v := (nI 73)) rfl ?_
    refine a_dup2 (pc := 39) hG dX12_dropping_39 rfl rfl ?_
    refine a_iald (pc := 40) hG sm_2 hd dX12_dropping_40 (fun hd => ?_)
    refine a_iload_n (pc := 41) hG 0 rfl dX12_dropping_41 rfl ?_
    refine a_iadd (pc := 42) hG dX12_dropping_42 ?_
    refine a_iast (pc := 43) hG sm_2 hd dX12_dropping_43 (fun h8 hd => ?_)
    refine a_aload_n (pc := 44) hG 1 rfl dX12_dropping_44 rfl ?_
    refine a_getR (pc := 45) hG sm_0 cl_X12 ok_X12 6 (by decide) rfl t_1615 dX12_dropping_45 ?_
    refine a_sipush (pc := 48) hG dX12_dropping_48 (v := (nI 146)) rfl ?_
    refine a_iload_n (pc := 51) hG 2 rfl dX12_dropping_51 rfl ?_
    refine a_iadd (pc := 52) hG dX12_dropping_52 ?_
    refine a_dup2 (pc := 53) hG dX12_dropping_53 rfl rfl ?_
    refine a_iald (pc := 54) hG sm_2 hd dX12_dropping_54 (fun hd => ?_)
    refine a_iload_n (pc := 55) hG 0 rfl dX12_dropping_55 rfl ?_
    refine a_iadd (pc := 56) hG dX12_dropping_56 ?_
    refine a_iast (pc := 57) hG sm_2 hd dX12_dropping_57 (fun h9 hd => ?_)
    refine a_aload_n (pc := 58) hG 1 rfl dX12_dropping_58 rfl ?_
    refine a_getR (pc := 59) hG sm_0 cl_X12 ok_X12 6 (by decide) rfl t_1615 dX12_dropping_59 ?_
    refine a_bipush (pc := 62) hG dX12_dropping_62 (v := (nI 114)) rfl ?_
    refine a_iload_n (pc := 64) hG 3 rfl dX12_dropping_64 rfl ?_
    refine a_iadd (pc := 65) hG dX12_dropping_65 ?_
    refine a_aload_n (pc := 66) hG 1 rfl dX12_dropping_66 rfl ?_
    refine a_iload_n (pc := 67) hG 3 rfl dX12_dropping_67 rfl ?_
    refine a_iconst (pc := 68) hG dX12_dropping_68 (v := (nI 0)) rfl ?_
    refine a_cvI (pc := 69) hG (As := [.int v1, .int (nI 0)]) (st := [.int ((nI 114) + v1), .ref (ad 2)]) sm_0 cl_X12 mk_X12_nearOf t_1838 (by omega) (fun z hz => c_M_nearOf F v1 (nI 0) _  z hz) rfl (Nat.le_of_ble_eq_true rfl) hd dX12_dropping_69 (fun r11 h10 hd => ?_)
    refine a_iast (pc := 72) hG sm_2 hd dX12_dropping_72 (fun h12 hd => ?_)
    refine a_aload_n (pc := 73) hG 1 rfl dX12_dropping_73 rfl ?_
    refine a_getR (pc := 74) hG sm_0 cl_X12 ok_X12 6 (by decide) rfl t_1615 dX12_dropping_74 ?_
    refine a_bipush (pc := 77) hG dX12_dropping_77 (v := (nI 76)) rfl ?_
    refine a_dup2 (pc := 79) hG dX12_dropping_79 rfl rfl ?_
    refine a_iald (pc := 80) hG sm_2 hd dX12_dropping_80 (fun hd => ?_)
    refine a_iconst (pc := 81) hG dX12_dropping_81 (v := (nI 1)) rfl ?_
    refine a_iadd (pc := 82) hG dX12_dropping_82 ?_
    refine a_iast (pc := 83) hG sm_2 hd dX12_dropping_83 (fun h13 hd => ?_)
    refine a_aload_n (pc := 84) hG 1 rfl dX12_dropping_84 rfl ?_
    refine a_getR (pc := 85) hG sm_0 cl_X12 ok_X12 6 (by decide) rfl t_1615 dX12_dropping_85 ?_
    refine a_bipush (pc := 88) hG dX12_dropping_88 (v := (nI 96)) rfl ?_
    refine a_iload_n (pc := 90) hG 3 rfl dX12_dropping_90 rfl ?_
    refine a_iadd (pc := 91) hG dX12_dropping_91 ?_
    refine a_iconst (pc := 92) hG dX12_dropping_92 (v := (nI 2)) rfl ?_
    refine a_iast (pc := 93) hG sm_2 hd dX12_dropping_93 (fun h14 hd => ?_)
    refine a_aload_n (pc := 94) hG 1 rfl dX12_dropping_94 rfl ?_
    refine a_getR (pc := 95) hG sm_0 cl_X12 ok_X12 6 (by decide) rfl t_1615 dX12_dropping_95 ?_
    refine a_bipush (pc := 98) hG dX12_dropping_98 (v := (nI 120)) rfl ?_
    refine a_iload_n (pc := 100) hG 3 rfl dX12_dropping_100 rfl ?_
    refine a_iadd (pc := 101) hG dX12_dropping_101 ?_
    refine a_aload_n (pc := 102) hG 1 rfl dX12_dropping_102 rfl ?_
    refine a_getR (pc := 103) hG sm_0 cl_X12 ok_X12 6 (by decide) rfl t_1615 dX12_dropping_103 ?_
    refine a_bipush (pc := 106) hG dX12_dropping_106 (v := (nI 72)) rfl ?_
    refine a_iald (pc := 108) hG sm_2 hd dX12_dropping_108 (fun hd => ?_)
    refine a_iast (pc := 109) hG sm_2 hd dX12_dropping_109 (fun h15 hd => ?_)
    refine a_aload_n (pc := 110) hG 1 rfl dX12_dropping_110 rfl ?_
    refine a_getR (pc := 111) hG sm_0 cl_X12 ok_X12 6 (by decide) rfl t_1615 dX12_dropping_111 ?_
    refine a_bipush (pc := 114) hG dX12_dropping_114 (v := (nI 102)) rfl ?_
    refine a_iload_n (pc := 116) hG 3 rfl dX12_dropping_116 rfl ?_
    refine a_iadd (pc := 117) hG dX12_dropping_117 ?_
    refine a_iconst (pc := 118) hG dX12_dropping_118 (v := (nI 0)) rfl ?_
    refine a_iast (pc := 119) hG sm_2 hd dX12_dropping_119 (fun h16 hd => ?_)
    refine a_aload_n (pc := 120) hG 1 rfl dX12_dropping_120 rfl ?_
    refine a_getR (pc := 121) hG sm_0 cl_X12 ok_X12 6 (by decide) rfl t_1615 dX12_dropping_121 ?_
    refine a_sipush (pc := 124) hG dX12_dropping_124 (v := (nI 131)) rfl ?_
    refine a_iload_n (pc := 127) hG 2 rfl dX12_dropping_127 rfl ?_
    refine a_iadd (pc := 128) hG dX12_dropping_128 ?_
    refine a_iconst (pc := 129) hG dX12_dropping_129 (v := (nI 0)) rfl ?_
    refine a_iast (pc := 130) hG sm_2 hd dX12_dropping_130 (fun h17 hd => ?_)
    exact a_vret (pc := 131) hG hd dX12_dropping_131
  refine a_if_eq (pc := 19) hG (tgt := 31) hd dX12_dropping_19 (by decide) (fun hd => ?_) (fun hd => ?_)
  · refine a_iconst (pc := 31) hG dX12_dropping_31 (v := (nI 0)) rfl ?_
    exact AW.sub [1, 2, 0] rfl (hJ4 _ _ hd)
  refine a_aload_n (pc := 22) hG 1 rfl dX12_dropping_22 rfl ?_
  refine a_iload_n (pc := 23) hG 0 rfl dX12_dropping_23 rfl ?_
  refine a_iconst (pc := 24) hG dX12_dropping_24 (v := (nI 0)) rfl ?_
  refine a_cvI (pc := 25) hG (As := [.int v1, .int (nI 0)]) (st := []) sm_0 cl_X12 mk_X12_payOf t_1929 (by omega) (fun z hz => c_M_payOf F v1 (nI 0) _  z hz) rfl (Nat.le_of_ble_eq_true rfl) hd dX12_dropping_25 (fun r19 h18 hd => ?_)
  refine a_goto (pc := 28) hG (tgt := 32) dX12_dropping_28 (by decide) ?_
  exact AW.sub [1, 2, 0] rfl (hJ4 _ _ hd)
theorem dX12_drop_0 : decode cX12_drop 0 = .ok (.aload_n 0, 1) := by decide +kernel
theorem dX12_drop_1 : decode cX12_drop 1 = .ok (.iconst 0, 1) := by decide +kernel
theorem dX12_drop_2 : decode cX12_drop 2 = .ok (.putfield 1, 3) := by decide +kernel
theorem dX12_drop_5 : decode cX12_drop 5 = .ok (.aload_n 0, 1) := by decide +kernel
theorem dX12_drop_6 : decode cX12_drop 6 = .ok (.iload_n 1, 1) := by decide +kernel
theorem dX12_drop_7 : decode cX12_drop 7 = .ok (.invokevirtual 269, 3) := by decide +kernel
theorem dX12_drop_10 : decode cX12_drop 10 = .ok (.ifCond .ne 5, 3) := by decide +kernel
theorem dX12_drop_13 : decode cX12_drop 13 = .ok (.iconst (-1), 1) := by decide +kernel
theorem dX12_drop_14 : decode cX12_drop 14 = .ok (.ireturn, 1) := by decide +kernel
theorem dX12_drop_15 : decode cX12_drop 15 = .ok (.aload_n 0, 1) := by decide +kernel
theorem dX12_drop_16 : decode cX12_drop 16 = .ok (.iload_n 1, 1) := by decide +kernel
theorem dX12_drop_17 : decode cX12_drop 17 = .ok (.invokevirtual 294, 3) := by decide +kernel
theorem dX12_drop_20 : decode cX12_drop 20 = .ok (.istore_n 2, 1) := by decide +kernel
theorem dX12_drop_21 : decode cX12_drop 21 = .ok (.iload_n 2, 1) := by decide +kernel
theorem dX12_drop_22 : decode cX12_drop 22 = .ok (.ifCond .le 5, 3) := by decide +kernel
theorem dX12_drop_25 : decode cX12_drop 25 = .ok (.iload_n 2, 1) := by decide +kernel
theorem dX12_drop_26 : decode cX12_drop 26 = .ok (.ireturn, 1) := by decide +kernel
theorem dX12_drop_27 : decode cX12_drop 27 = .ok (.aload_n 0, 1) := by decide +kernel
theorem dX12_drop_28 : decode cX12_drop 28 = .ok (.invokevirtual 281, 3) := by decide +kernel
theorem dX12_drop_31 : decode cX12_drop 31 = .ok (.aload_n 0, 1) := by decide +kernel
theorem dX12_drop_32 : decode cX12_drop 32 = .ok (.iload_n 1, 1) := by decide +kernel
theorem dX12_drop_33 : decode cX12_drop 33 = .ok (.invokevirtual 298, 3) := by decide +kernel
theorem dX12_drop_36 : decode cX12_drop 36 = .ok (.iconst 0, 1) := by decide +kernel
theorem dX12_drop_37 : decode cX12_drop 37 = .ok (.ireturn, 1) := by decide +kernel
set_option maxHeartbeats 4000000 in
theorem c_M_drop {ad wad : Nat → Nat} (F : Nat) (a0 : Int32) (h : HS)  (q : Int32 × HS) (hd : f_M_drop F a0 h = some q) : Ctr SHm ad wad yX12_drop cX12_drop 3 (some .int) 8 [.ref (ad 0), .int a0] h (some (.int q.1), q.2) := by
  refine enter (own := RX12) (lv := [(0, .ref (ad 0)), (1, .int a0)]) (by decide +kernel) rfl (Nat.le_of_ble_eq_true rfl) rfl (fun Γ hG => ?_)
  unfold f_M_drop at hd
  refine a_aload_n (pc := 0) hG 0 rfl dX12_drop_0 rfl ?_
  refine a_iconst (pc := 1) hG dX12_drop_1 (v := (nI 0)) rfl ?_
  refine a_putI (pc := 2) hG sm_0 cl_X12 ok_X12 0 (by decide) rfl t_1609 rfl (ty := .int) rfl rfl rfl hd dX12_drop_2 (fun h1 hd => ?_)
  refine a_aload_n (pc := 5) hG 0 rfl dX12_drop_5 rfl ?_
  refine a_iload_n (pc := 6) hG 1 rfl dX12_drop_6 rfl ?_
  refine a_cvI (pc := 7) hG (As := [.int a0]) (st := []) sm_0 cl_X12 mk_X12_isClerk t_1873 (by omega) (fun z hz => c_M_isClerk a0 _  z hz) rfl (Nat.le_of_ble_eq_true rfl) hd dX12_drop_7 (fun r3 h2 hd => ?_)
  refine a_if_ne (pc := 10) hG (tgt := 15) hd dX12_drop_10 (by decide) (fun hd => ?_) (fun hd => ?_)
  · refine a_aload_n (pc := 15) hG 0 rfl dX12_drop_15 rfl ?_
    refine a_iload_n (pc := 16) hG 1 rfl dX12_drop_16 rfl ?_
    refine a_cvI (pc := 17) hG (As := [.int a0]) (st := []) sm_0 cl_X12 mk_X12_whyDrop t_1921 (by omega) (fun z hz => c_M_whyDrop a0 _  z hz) rfl (Nat.le_of_ble_eq_true rfl) hd dX12_drop_17 (fun r5 h4 hd => ?_)
    refine a_istore_nN (pc := 20) hG hd dX12_drop_20 rfl (by decide) (lf := fun x => [(2, .int x), (0, .ref (ad 0)), (1, .int a0)]) (fun _ => rfl) (fun v6 hd => ?_)
    refine a_iload_n (pc := 21) hG 0 rfl dX12_drop_21 rfl ?_
    refine a_if_le (pc := 22) hG (tgt := 27) hd dX12_drop_22 (by decide) (fun hd => ?_) (fun hd => ?_)
    · refine a_aload_n (pc := 27) hG 1 rfl dX12_drop_27 rfl ?_
      refine a_cvN (pc := 28) hG (As := []) (st := []) sm_0 cl_X12 mk_X12_keep t_1897 (by omega) (fun z hz => c_M_keep F  _  z hz) rfl (Nat.le_of_ble_eq_true rfl) hd dX12_drop_28 (fun _ h7 hd => ?_)
      refine a_aload_n (pc := 31) hG 1 rfl dX12_drop_31 rfl ?_
      refine a_iload_n (pc := 32) hG 2 rfl dX12_drop_32 rfl ?_
      refine a_cvN (pc := 33) hG (As := [.int a0]) (st := []) sm_0 cl_X12 mk_X12_dropping t_1925 (by omega) (fun z hz => c_M_dropping F a0 _  z hz) rfl (Nat.le_of_ble_eq_true rfl) hd dX12_drop_33 (fun _ h8 hd => ?_)
      refine a_iconst (pc := 36) hG dX12_drop_36 (v := (nI 0)) rfl ?_
      exact a_iret (pc := 37) hG hd dX12_drop_37
    refine a_iload_n (pc := 25) hG 0 rfl dX12_drop_25 rfl ?_
    exact a_iret (pc := 26) hG hd dX12_drop_26
  refine a_iconst (pc := 13) hG dX12_drop_13 (v := (-1 : Int32)) rfl ?_
  exact a_iret (pc := 14) hG hd dX12_drop_14
theorem dX12_lesser_0 : decode cX12_lesser 0 = .ok (.iload_n 0, 1) := by decide +kernel
theorem dX12_lesser_1 : decode cX12_lesser 1 = .ok (.iload_n 1, 1) := by decide +kernel
theorem dX12_lesser_2 : decode cX12_lesser 2 = .ok (.if_icmp .ge 7, 3) := by decide +kernel
theorem dX12_lesser_5 : decode cX12_lesser 5 = .ok (.iload_n 0, 1) := by decide +kernel
theorem dX12_lesser_6 : decode cX12_lesser 6 = .ok (.goto 4, 3) := by decide +kernel
theorem dX12_lesser_9 : decode cX12_lesser 9 = .ok (.iload_n 1, 1) := by decide +kernel
theorem dX12_lesser_10 : decode cX12_lesser 10 = .ok (.ireturn, 1) := by decide +kernel
set_option maxHeartbeats 4000000 in
theorem c_M_lesser {ad wad : Nat → Nat} (a0 : Int32) (a1 : Int32) (h : HS)  (q : Int32 × HS) (hd : f_M_lesser a0 a1 h = some q) : Ctr SHm ad wad yX12_lesser cX12_lesser 2 (some .int) 1 [.int a0, .int a1] h (some (.int q.1), q.2) := by
  refine enter (own := RX12) (lv := [(0, .int a0), (1, .int a1)]) (by decide +kernel) rfl (Nat.le_of_ble_eq_true rfl) rfl (fun Γ hG => ?_)
  unfold f_M_lesser at hd
  refine a_iload_n (pc := 0) hG 0 rfl dX12_lesser_0 rfl ?_
  refine a_iload_n (pc := 1) hG 1 rfl dX12_lesser_1 rfl ?_
  refine a_ic_ge (pc := 2) hG (tgt := 9) hd dX12_lesser_2 (by decide) (fun hd => ?_) (fun hd => ?_)
  · refine a_iload_n (pc := 9) hG 1 rfl dX12_lesser_9 rfl ?_
    exact a_iret (pc := 10) hG hd dX12_lesser_10
  refine a_iload_n (pc := 5) hG 0 rfl dX12_lesser_5 rfl ?_
  refine a_goto (pc := 6) hG (tgt := 10) dX12_lesser_6 (by decide) ?_
  exact a_iret (pc := 10) hG hd dX12_lesser_10
theorem dX12_ends_0 : decode cX12_ends 0 = .ok (.aload_n 0, 1) := by decide +kernel
theorem dX12_ends_1 : decode cX12_ends 1 = .ok (.getfield 33, 3) := by decide +kernel
theorem dX12_ends_4 : decode cX12_ends 4 = .ok (.bipush 96, 2) := by decide +kernel
theorem dX12_ends_6 : decode cX12_ends 6 = .ok (.iload_n 1, 1) := by decide +kernel
theorem dX12_ends_7 : decode cX12_ends 7 = .ok (.iadd, 1) := by decide +kernel
theorem dX12_ends_8 : decode cX12_ends 8 = .ok (.iaload, 1) := by decide +kernel
theorem dX12_ends_9 : decode cX12_ends 9 = .ok (.istore_n 2, 1) := by decide +kernel
theorem dX12_ends_10 : decode cX12_ends 10 = .ok (.iload_n 2, 1) := by decide +kernel
theorem dX12_ends_11 : decode cX12_ends 11 = .ok (.iconst 1, 1) := by decide +kernel
theorem dX12_ends_12 : decode cX12_ends 12 = .ok (.if_icmp .ne 101, 3) := by decide +kernel
theorem dX12_ends_15 : decode cX12_ends 15 = .ok (.aload_n 0, 1) := by decide +kernel
theorem dX12_ends_16 : decode cX12_ends 16 = .ok (.iload_n 1, 1) := by decide +kernel
theorem dX12_ends_17 : decode cX12_ends 17 = .ok (.iconst 0, 1) := by decide +kernel
theorem dX12_ends_18 : decode cX12_ends 18 = .ok (.invokevirtual 272, 3) := by decide +kernel
theorem dX12_ends_21 : decode cX12_ends 21 = .ok (.ifCond .ne 92, 3) := by decide +kernel
theorem dX12_ends_24 : decode cX12_ends 24 = .ok (.aload_n 0, 1) := by decide +kernel
theorem dX12_ends_25 : decode cX12_ends 25 = .ok (.getfield 33, 3) := by decide +kernel
theorem dX12_ends_28 : decode cX12_ends 28 = .ok (.bipush 96, 2) := by decide +kernel
theorem dX12_ends_30 : decode cX12_ends 30 = .ok (.iload_n 1, 1) := by decide +kernel
theorem dX12_ends_31 : decode cX12_ends 31 = .ok (.iadd, 1) := by decide +kernel
theorem dX12_ends_32 : decode cX12_ends 32 = .ok (.iconst 3, 1) := by decide +kernel
theorem dX12_ends_33 : decode cX12_ends 33 = .ok (.iastore, 1) := by decide +kernel
theorem dX12_ends_34 : decode cX12_ends 34 = .ok (.aload_n 0, 1) := by decide +kernel
theorem dX12_ends_35 : decode cX12_ends 35 = .ok (.getfield 33, 3) := by decide +kernel
theorem dX12_ends_38 : decode cX12_ends 38 = .ok (.bipush 74, 2) := by decide +kernel
theorem dX12_ends_40 : decode cX12_ends 40 = .ok (.dup2, 1) := by decide +kernel
theorem dX12_ends_41 : decode cX12_ends 41 = .ok (.iaload, 1) := by decide +kernel
theorem dX12_ends_42 : decode cX12_ends 42 = .ok (.iconst 1, 1) := by decide +kernel
theorem dX12_ends_43 : decode cX12_ends 43 = .ok (.iadd, 1) := by decide +kernel
theorem dX12_ends_44 : decode cX12_ends 44 = .ok (.iastore, 1) := by decide +kernel
theorem dX12_ends_45 : decode cX12_ends 45 = .ok (.aload_n 0, 1) := by decide +kernel
theorem dX12_ends_46 : decode cX12_ends 46 = .ok (.getfield 33, 3) := by decide +kernel
theorem dX12_ends_49 : decode cX12_ends 49 = .ok (.bipush 73, 2) := by decide +kernel
theorem dX12_ends_51 : decode cX12_ends 51 = .ok (.iconst 0, 1) := by decide +kernel
theorem dX12_ends_52 : decode cX12_ends 52 = .ok (.iastore, 1) := by decide +kernel
theorem dX12_ends_53 : decode cX12_ends 53 = .ok (.aload_n 0, 1) := by decide +kernel
theorem dX12_ends_54 : decode cX12_ends 54 = .ok (.getfield 33, 3) := by decide +kernel
theorem dX12_ends_57 : decode cX12_ends 57 = .ok (.bipush 75, 2) := by decide +kernel
theorem dX12_ends_59 : decode cX12_ends 59 = .ok (.iaload, 1) := by decide +kernel
theorem dX12_ends_60 : decode cX12_ends 60 = .ok (.ifCond .ne 19, 3) := by decide +kernel
theorem dX12_ends_63 : decode cX12_ends 63 = .ok (.aload_n 0, 1) := by decide +kernel
theorem dX12_ends_64 : decode cX12_ends 64 = .ok (.getfield 33, 3) := by decide +kernel
theorem dX12_ends_67 : decode cX12_ends 67 = .ok (.bipush 75, 2) := by decide +kernel
theorem dX12_ends_69 : decode cX12_ends 69 = .ok (.aload_n 0, 1) := by decide +kernel
theorem dX12_ends_70 : decode cX12_ends 70 = .ok (.getfield 33, 3) := by decide +kernel
theorem dX12_ends_73 : decode cX12_ends 73 = .ok (.bipush 72, 2) := by decide +kernel
theorem dX12_ends_75 : decode cX12_ends 75 = .ok (.iaload, 1) := by decide +kernel
theorem dX12_ends_76 : decode cX12_ends 76 = .ok (.iconst 1, 1) := by decide +kernel
theorem dX12_ends_77 : decode cX12_ends 77 = .ok (.iadd, 1) := by decide +kernel
theorem dX12_ends_78 : decode cX12_ends 78 = .ok (.iastore, 1) := by decide +kernel
theorem dX12_ends_79 : decode cX12_ends 79 = .ok (.aload_n 0, 1) := by decide +kernel
theorem dX12_ends_80 : decode cX12_ends 80 = .ok (.getfield 33, 3) := by decide +kernel
theorem dX12_ends_83 : decode cX12_ends 83 = .ok (.sipush 131, 3) := by decide +kernel
theorem dX12_ends_86 : decode cX12_ends 86 = .ok (.aload_n 0, 1) := by decide +kernel
theorem dX12_ends_87 : decode cX12_ends 87 = .ok (.getfield 33, 3) := by decide +kernel
theorem dX12_ends_90 : decode cX12_ends 90 = .ok (.bipush 102, 2) := by decide +kernel
theorem dX12_ends_92 : decode cX12_ends 92 = .ok (.iload_n 1, 1) := by decide +kernel
theorem dX12_ends_93 : decode cX12_ends 93 = .ok (.iadd, 1) := by decide +kernel
theorem dX12_ends_94 : decode cX12_ends 94 = .ok (.iaload, 1) := by decide +kernel
theorem dX12_ends_95 : decode cX12_ends 95 = .ok (.iadd, 1) := by decide +kernel
theorem dX12_ends_96 : decode cX12_ends 96 = .ok (.iconst 1, 1) := by decide +kernel
theorem dX12_ends_97 : decode cX12_ends 97 = .ok (.isub, 1) := by decide +kernel
theorem dX12_ends_98 : decode cX12_ends 98 = .ok (.iconst 0, 1) := by decide +kernel
theorem dX12_ends_99 : decode cX12_ends 99 = .ok (.iastore, 1) := by decide +kernel
theorem dX12_ends_100 : decode cX12_ends 100 = .ok (.aload_n 0, 1) := by decide +kernel
theorem dX12_ends_101 : decode cX12_ends 101 = .ok (.getfield 33, 3) := by decide +kernel
theorem dX12_ends_104 : decode cX12_ends 104 = .ok (.bipush 102, 2) := by decide +kernel
theorem dX12_ends_106 : decode cX12_ends 106 = .ok (.iload_n 1, 1) := by decide +kernel
theorem dX12_ends_107 : decode cX12_ends 107 = .ok (.iadd, 1) := by decide +kernel
theorem dX12_ends_108 : decode cX12_ends 108 = .ok (.iconst 0, 1) := by decide +kernel
theorem dX12_ends_109 : decode cX12_ends 109 = .ok (.iastore, 1) := by decide +kernel
theorem dX12_ends_110 : decode cX12_ends 110 = .ok (.goto 119, 3) := by decide +kernel
theorem dX12_ends_113 : decode cX12_ends 113 = .ok (.iload_n 2, 1) := by decide +kernel
theorem dX12_ends_114 : decode cX12_ends 114 = .ok (.iconst 1, 1) := by decide +kernel
theorem dX12_ends_115 : decode cX12_ends 115 = .ok (.if_icmp .ne 31, 3) := by decide +kernel
theorem dX12_ends_118 : decode cX12_ends 118 = .ok (.aload_n 0, 1) := by decide +kernel
theorem dX12_ends_119 : decode cX12_ends 119 = .ok (.getfield 33, 3) := by decide +kernel
theorem dX12_ends_122 : decode cX12_ends 122 = .ok (.bipush 90, 2) := by decide +kernel
theorem dX12_ends_124 : decode cX12_ends 124 = .ok (.iload_n 1, 1) := by decide +kernel
theorem dX12_ends_125 : decode cX12_ends 125 = .ok (.iadd, 1) := by decide +kernel
theorem dX12_ends_126 : decode cX12_ends 126 = .ok (.bipush 20, 2) := by decide +kernel
theorem dX12_ends_128 : decode cX12_ends 128 = .ok (.aload_n 0, 1) := by decide +kernel
theorem dX12_ends_129 : decode cX12_ends 129 = .ok (.getfield 33, 3) := by decide +kernel
theorem dX12_ends_132 : decode cX12_ends 132 = .ok (.bipush 90, 2) := by decide +kernel
theorem dX12_ends_134 : decode cX12_ends 134 = .ok (.iload_n 1, 1) := by decide +kernel
theorem dX12_ends_135 : decode cX12_ends 135 = .ok (.iadd, 1) := by decide +kernel
theorem dX12_ends_136 : decode cX12_ends 136 = .ok (.iaload, 1) := by decide +kernel
theorem dX12_ends_137 : decode cX12_ends 137 = .ok (.iconst 1, 1) := by decide +kernel
theorem dX12_ends_138 : decode cX12_ends 138 = .ok (.iadd, 1) := by decide +kernel
theorem dX12_ends_139 : decode cX12_ends 139 = .ok (.invokestatic 301, 3) := by decide +kernel
theorem dX12_ends_142 : decode cX12_ends 142 = .ok (.iastore, 1) := by decide +kernel
theorem dX12_ends_143 : decode cX12_ends 143 = .ok (.goto 86, 3) := by decide +kernel
theorem dX12_ends_146 : decode cX12_ends 146 = .ok (.iload_n 2, 1) := by decide +kernel
theorem dX12_ends_147 : decode cX12_ends 147 = .ok (.ifCond .eq 8, 3) := by decide +kernel
theorem dX12_ends_150 : decode cX12_ends 150 = .ok (.iload_n 2, 1) := by decide +kernel
theorem dX12_ends_151 : decode cX12_ends 151 = .ok (.iconst 2, 1) := by decide +kernel
theorem dX12_ends_152 : decode cX12_ends 152 = .ok (.if_icmp .ne 77, 3) := by decide +kernel
theorem dX12_ends_155 : decode cX12_ends 155 = .ok (.aload_n 0, 1) := by decide +kernel
theorem dX12_ends_156 : decode cX12_ends 156 = .ok (.getfield 33, 3) := by decide +kernel
theorem dX12_ends_159 : decode cX12_ends 159 = .ok (.bipush 90, 2) := by decide +kernel
theorem dX12_ends_161 : decode cX12_ends 161 = .ok (.iload_n 1, 1) := by decide +kernel
theorem dX12_ends_162 : decode cX12_ends 162 = .ok (.iadd, 1) := by decide +kernel
theorem dX12_ends_163 : decode cX12_ends 163 = .ok (.dup2, 1) := by decide +kernel
theorem dX12_ends_164 : decode cX12_ends 164 = .ok (.iaload, 1) := by decide +kernel
theorem dX12_ends_165 : decode cX12_ends 165 = .ok (.iconst 1, 1) := by decide +kernel
theorem dX12_ends_166 : decode cX12_ends 166 = .ok (.isub, 1) := by decide +kernel
theorem dX12_ends_167 : decode cX12_ends 167 = .ok (.iastore, 1) := by decide +kernel
theorem dX12_ends_168 : decode cX12_ends 168 = .ok (.aload_n 0, 1) := by decide +kernel
theorem dX12_ends_169 : decode cX12_ends 169 = .ok (.getfield 33, 3) := by decide +kernel
theorem dX12_ends_172 : decode cX12_ends 172 = .ok (.bipush 90, 2) := by decide +kernel
theorem dX12_ends_174 : decode cX12_ends 174 = .ok (.iload_n 1, 1) := by decide +kernel
theorem dX12_ends_175 : decode cX12_ends 175 = .ok (.iadd, 1) := by decide +kernel
theorem dX12_ends_176 : decode cX12_ends 176 = .ok (.iaload, 1) := by decide +kernel
theorem dX12_ends_177 : decode cX12_ends 177 = .ok (.ifCond .ne 16, 3) := by decide +kernel
theorem dX12_ends_180 : decode cX12_ends 180 = .ok (.aload_n 0, 1) := by decide +kernel
theorem dX12_ends_181 : decode cX12_ends 181 = .ok (.getfield 33, 3) := by decide +kernel
theorem dX12_ends_184 : decode cX12_ends 184 = .ok (.bipush 96, 2) := by decide +kernel
theorem dX12_ends_186 : decode cX12_ends 186 = .ok (.iload_n 1, 1) := by decide +kernel
theorem dX12_ends_187 : decode cX12_ends 187 = .ok (.iadd, 1) := by decide +kernel
theorem dX12_ends_188 : decode cX12_ends 188 = .ok (.iconst 4, 1) := by decide +kernel
theorem dX12_ends_189 : decode cX12_ends 189 = .ok (.iastore, 1) := by decide +kernel
theorem dX12_ends_190 : decode cX12_ends 190 = .ok (.goto 39, 3) := by decide +kernel
theorem dX12_ends_193 : decode cX12_ends 193 = .ok (.iload_n 2, 1) := by decide +kernel
theorem dX12_ends_194 : decode cX12_ends 194 = .ok (.iconst 2, 1) := by decide +kernel
theorem dX12_ends_195 : decode cX12_ends 195 = .ok (.if_icmp .ne 34, 3) := by decide +kernel
theorem dX12_ends_198 : decode cX12_ends 198 = .ok (.aload_n 0, 1) := by decide +kernel
theorem dX12_ends_199 : decode cX12_ends 199 = .ok (.getfield 33, 3) := by decide +kernel
theorem dX12_ends_202 : decode cX12_ends 202 = .ok (.bipush 72, 2) := by decide +kernel
theorem dX12_ends_204 : decode cX12_ends 204 = .ok (.iaload, 1) := by decide +kernel
theorem dX12_ends_205 : decode cX12_ends 205 = .ok (.aload_n 0, 1) := by decide +kernel
theorem dX12_ends_206 : decode cX12_ends 206 = .ok (.getfield 33, 3) := by decide +kernel
theorem dX12_ends_209 : decode cX12_ends 209 = .ok (.bipush 120, 2) := by decide +kernel
theorem dX12_ends_211 : decode cX12_ends 211 = .ok (.iload_n 1, 1) := by decide +kernel
theorem dX12_ends_212 : decode cX12_ends 212 = .ok (.iadd, 1) := by decide +kernel
theorem dX12_ends_213 : decode cX12_ends 213 = .ok (.iaload, 1) := by decide +kernel
theorem dX12_ends_214 : decode cX12_ends 214 = .ok (.iconst 4, 1) := by decide +kernel
theorem dX12_ends_215 : decode cX12_ends 215 = .ok (.iadd, 1) := by decide +kernel
theorem dX12_ends_216 : decode cX12_ends 216 = .ok (.if_icmp .ne 13, 3) := by decide +kernel
theorem dX12_ends_219 : decode cX12_ends 219 = .ok (.aload_n 0, 1) := by decide +kernel
theorem dX12_ends_220 : decode cX12_ends 220 = .ok (.getfield 33, 3) := by decide +kernel
theorem dX12_ends_223 : decode cX12_ends 223 = .ok (.bipush 96, 2) := by decide +kernel
theorem dX12_ends_225 : decode cX12_ends 225 = .ok (.iload_n 1, 1) := by decide +kernel
theorem dX12_ends_226 : decode cX12_ends 226 = .ok (.iadd, 1) := by decide +kernel
theorem dX12_ends_227 : decode cX12_ends 227 = .ok (.iconst 0, 1) := by decide +kernel
theorem dX12_ends_228 : decode cX12_ends 228 = .ok (.iastore, 1) := by decide +kernel
theorem dX12_ends_229 : decode cX12_ends 229 = .ok (.return_, 1) := by decide +kernel
set_option maxHeartbeats 4000000 in
theorem c_M_ends {ad wad : Nat → Nat} (F : Nat) (a0 : Int32) (h : HS)  (q : Unit × HS) (hd : f_M_ends F a0 h = some q) : Ctr SHm ad wad yX12_ends cX12_ends 3 none 6 [.ref (ad 0), .int a0] h (none, q.2) := by
  refine enter (own := RX12) (lv := [(0, .ref (ad 0)), (1, .int a0)]) (by decide +kernel) rfl (Nat.le_of_ble_eq_true rfl) rfl (fun Γ hG => ?_)
  unfold f_M_ends at hd
  refine a_aload_n (pc := 0) hG 0 rfl dX12_ends_0 rfl ?_
  refine a_getR (pc := 1) hG sm_0 cl_X12 ok_X12 6 (by decide) rfl t_1615 dX12_ends_1 ?_
  refine a_bipush (pc := 4) hG dX12_ends_4 (v := (nI 96)) rfl ?_
  refine a_iload_n (pc := 6) hG 1 rfl dX12_ends_6 rfl ?_
  refine a_iadd (pc := 7) hG dX12_ends_7 ?_
  refine a_iald (pc := 8) hG sm_2 hd dX12_ends_8 (fun hd => ?_)
  refine a_istore_nN (pc := 9) hG hd dX12_ends_9 rfl (by decide) (lf := fun x => [(2, .int x), (0, .ref (ad 0)), (1, .int a0)]) (fun _ => rfl) (fun v1 hd => ?_)
  refine a_iload_n (pc := 10) hG 0 rfl dX12_ends_10 rfl ?_
  refine a_iconst (pc := 11) hG dX12_ends_11 (v := (nI 1)) rfl ?_
  refine a_join hd (Q := fun J : HS → Option (Unit × HS) => ∀  (h3 : HS), J  h3 = some q → AW SHm ad 3 (none, q.2) Γ 113 [(0, .ref (ad 0)), (1, .int a0), (2, .int v1)] [] h3) (fun  h3 hd => ?_) (fun J2 hJ2 hd => ?_)
  · refine a_iload_n (pc := 113) hG 2 rfl dX12_ends_113 rfl ?_
    refine a_iconst (pc := 114) hG dX12_ends_114 (v := (nI 1)) rfl ?_
    refine a_ic_ne (pc := 115) hG (tgt := 146) hd dX12_ends_115 (by decide) (fun hd => ?_) (fun hd => ?_)
    · refine a_iload_n (pc := 146) hG 2 rfl dX12_ends_146 rfl ?_
      refine a_join hd (Q := fun J : HS → Option (Unit × HS) => ∀  (h5 : HS), J  h5 = some q → AW SHm ad 3 (none, q.2) Γ 155 [(0, .ref (ad 0)), (1, .int a0), (2, .int v1)] [] h5) (fun  h5 hd => ?_) (fun J4 hJ4 hd => ?_)
      · refine a_aload_n (pc := 155) hG 0 rfl dX12_ends_155 rfl ?_
        refine a_getR (pc := 156) hG sm_0 cl_X12 ok_X12 6 (by decide) rfl t_1615 dX12_ends_156 ?_
        refine a_bipush (pc := 159) hG dX12_ends_159 (v := (nI 90)) rfl ?_
        refine a_iload_n (pc := 161) hG 1 rfl dX12_ends_161 rfl ?_
        refine a_iadd (pc := 162) hG dX12_ends_162 ?_
        refine a_dup2 (pc := 163) hG dX12_ends_163 rfl rfl ?_
        refine a_iald (pc := 164) hG sm_2 hd dX12_ends_164 (fun hd => ?_)
        refine a_iconst (pc := 165) hG dX12_ends_165 (v := (nI 1)) rfl ?_
        refine a_isub (pc := 166) hG dX12_ends_166 ?_
        refine a_iast (pc := 167) hG sm_2 hd dX12_ends_167 (fun h6 hd => ?_)
        refine a_aload_n (pc := 168) hG 0 rfl dX12_ends_168 rfl ?_
        refine a_getR (pc := 169) hG sm_0 cl_X12 ok_X12 6 (by decide) rfl t_1615 dX12_ends_169 ?_
        refine a_bipush (pc := 172) hG dX12_ends_172 (v := (nI 90)) rfl ?_
        refine a_iload_n (pc := 174) hG 1 rfl dX12_ends_174 rfl ?_
        refine a_iadd (pc := 175) hG dX12_ends_175 ?_
        refine a_iald (pc := 176) hG sm_2 hd dX12_ends_176 (fun hd => ?_)
        refine a_if_ne (pc := 177) hG (tgt := 193) hd dX12_ends_177 (by decide) (fun hd => ?_) (fun hd => ?_)
        · refine a_iload_n (pc := 193) hG 2 rfl dX12_ends_193 rfl ?_
          refine a_iconst (pc := 194) hG dX12_ends_194 (v := (nI 2)) rfl ?_
          refine a_ic_ne (pc := 195) hG (tgt := 229) hd dX12_ends_195 (by decide) (fun hd => ?_) (fun hd => ?_)
          · exact a_vret (pc := 229) hG hd dX12_ends_229
          refine a_aload_n (pc := 198) hG 0 rfl dX12_ends_198 rfl ?_
          refine a_getR (pc := 199) hG sm_0 cl_X12 ok_X12 6 (by decide) rfl t_1615 dX12_ends_199 ?_
          refine a_bipush (pc := 202) hG dX12_ends_202 (v := (nI 72)) rfl ?_
          refine a_iald (pc := 204) hG sm_2 hd dX12_ends_204 (fun hd => ?_)
          refine a_aload_n (pc := 205) hG 0 rfl dX12_ends_205 rfl ?_
          refine a_getR (pc := 206) hG sm_0 cl_X12 ok_X12 6 (by decide) rfl t_1615 dX12_ends_206 ?_
          refine a_bipush (pc := 209) hG dX12_ends_209 (v := (nI 120)) rfl ?_
          refine a_iload_n (pc := 211) hG 1 rfl dX12_ends_211 rfl ?_
          refine a_iadd (pc := 212) hG dX12_ends_212 ?_
          refine a_iald (pc := 213) hG sm_2 hd dX12_ends_213 (fun hd => ?_)
          refine a_iconst (pc := 214) hG dX12_ends_214 (v := (nI 4)) rfl ?_
          refine a_iadd (pc := 215) hG dX12_ends_215 ?_
          refine a_ic_ne (pc := 216) hG (tgt := 229) hd dX12_ends_216 (by decide) (fun hd => ?_) (fun hd => ?_)
          · exact a_vret (pc := 229) hG hd dX12_ends_229
          refine a_aload_n (pc := 219) hG 0 rfl dX12_ends_219 rfl ?_
          refine a_getR (pc := 220) hG sm_0 cl_X12 ok_X12 6 (by decide) rfl t_1615 dX12_ends_220 ?_
          refine a_bipush (pc := 223) hG dX12_ends_223 (v := (nI 96)) rfl ?_
          refine a_iload_n (pc := 225) hG 1 rfl dX12_ends_225 rfl ?_
          refine a_iadd (pc := 226) hG dX12_ends_226 ?_
          refine a_iconst (pc := 227) hG dX12_ends_227 (v := (nI 0)) rfl ?_
          refine a_iast (pc := 228) hG sm_2 hd dX12_ends_228 (fun h7 hd => ?_)
          exact a_vret (pc := 229) hG hd dX12_ends_229
        refine a_aload_n (pc := 180) hG 0 rfl dX12_ends_180 rfl ?_
        refine a_getR (pc := 181) hG sm_0 cl_X12 ok_X12 6 (by decide) rfl t_1615 dX12_ends_181 ?_
        refine a_bipush (pc := 184) hG dX12_ends_184 (v := (nI 96)) rfl ?_
        refine a_iload_n (pc := 186) hG 1 rfl dX12_ends_186 rfl ?_
        refine a_iadd (pc := 187) hG dX12_ends_187 ?_
        refine a_iconst (pc := 188) hG dX12_ends_188 (v := (nI 4)) rfl ?_
        refine a_iast (pc := 189) hG sm_2 hd dX12_ends_189 (fun h8 hd => ?_)
        refine a_goto (pc := 190) hG (tgt := 229) dX12_ends_190 (by decide) ?_
        exact a_vret (pc := 229) hG hd dX12_ends_229
      refine a_if_eq (pc := 147) hG (tgt := 155) hd dX12_ends_147 (by decide) (fun hd => ?_) (fun hd => ?_)
      · exact AW.sub [0, 1, 2] rfl (hJ4  _ hd)
      refine a_iload_n (pc := 150) hG 2 rfl dX12_ends_150 rfl ?_
      refine a_iconst (pc := 151) hG dX12_ends_151 (v := (nI 2)) rfl ?_
      refine a_ic_ne (pc := 152) hG (tgt := 229) hd dX12_ends_152 (by decide) (fun hd => ?_) (fun hd => ?_)
      · exact a_vret (pc := 229) hG hd dX12_ends_229
      exact AW.sub [0, 1, 2] rfl (hJ4  _ hd)
    refine a_aload_n (pc := 118) hG 0 rfl dX12_ends_118 rfl ?_
    refine a_getR (pc := 119) hG sm_0 cl_X12 ok_X12 6 (by decide) rfl t_1615 dX12_ends_119 ?_
    refine a_bipush (pc := 122) hG dX12_ends_122 (v := (nI 90)) rfl ?_
    refine a_iload_n (pc := 124) hG 1 rfl dX12_ends_124 rfl ?_
    refine a_iadd (pc := 125) hG dX12_ends_125 ?_
    refine a_bipush (pc := 126) hG dX12_ends_126 (v := (nI 20)) rfl ?_
    refine a_aload_n (pc := 128) hG 0 rfl dX12_ends_128 rfl ?_
    refine a_getR (pc := 129) hG sm_0 cl_X12 ok_X12 6 (by decide) rfl t_1615 dX12_ends_129 ?_
    refine a_bipush (pc := 132) hG dX12_ends_132 (v := (nI 90)) rfl ?_
    refine a_iload_n (pc := 134) hG 1 rfl dX12_ends_134 rfl ?_
    refine a_iadd (pc := 135) hG dX12_ends_135 ?_
    refine a_iald (pc := 136) hG sm_2 hd dX12_ends_136 (fun hd => ?_)
    refine a_iconst (pc := 137) hG dX12_ends_137 (v := (nI 1)) rfl ?_
    refine a_iadd (pc := 138) hG dX12_ends_138 ?_
    refine a_csI (pc := 139) hG (As := [.int (nI 20), .int ((h3.1 2 ((nI 90) + a0).toNatClampNeg) + (nI 1))]) (st := [.int ((nI 90) + a0), .ref (ad 2)]) mk_X12_lesser t_1937 (by omega) (fun z hz => c_M_lesser (nI 20) ((h3.1 2 ((nI 90) + a0).toNatClampNeg) + (nI 1)) _  z hz) rfl (Nat.le_of_ble_eq_true rfl) hd dX12_ends_139 (fun r10 h9 hd => ?_)
    refine a_iast (pc := 142) hG sm_2 hd dX12_ends_142 (fun h11 hd => ?_)
    refine a_goto (pc := 143) hG (tgt := 229) dX12_ends_143 (by decide) ?_
    exact a_vret (pc := 229) hG hd dX12_ends_229
  refine a_ic_ne (pc := 12) hG (tgt := 113) hd dX12_ends_12 (by decide) (fun hd => ?_) (fun hd => ?_)
  · exact AW.sub [1, 2, 0] rfl (hJ2  _ hd)
  refine a_aload_n (pc := 15) hG 1 rfl dX12_ends_15 rfl ?_
  refine a_iload_n (pc := 16) hG 2 rfl dX12_ends_16 rfl ?_
  refine a_iconst (pc := 17) hG dX12_ends_17 (v := (nI 0)) rfl ?_
  refine a_cvI (pc := 18) hG (As := [.int a0, .int (nI 0)]) (st := []) sm_0 cl_X12 mk_X12_isSafe t_1889 (by omega) (fun z hz => c_M_isSafe F a0 (nI 0) _  z hz) rfl (Nat.le_of_ble_eq_true rfl) hd dX12_ends_18 (fun r13 h12 hd => ?_)
  refine a_if_ne (pc := 21) hG (tgt := 113) hd dX12_ends_21 (by decide) (fun hd => ?_) (fun hd => ?_)
  · exact AW.sub [1, 2, 0] rfl (hJ2  _ hd)
  refine a_aload_n (pc := 24) hG 1 rfl dX12_ends_24 rfl ?_
  refine a_getR (pc := 25) hG sm_0 cl_X12 ok_X12 6 (by decide) rfl t_1615 dX12_ends_25 ?_
  refine a_bipush (pc := 28) hG dX12_ends_28 (v := (nI 96)) rfl ?_
  refine a_iload_n (pc := 30) hG 2 rfl dX12_ends_30 rfl ?_
  refine a_iadd (pc := 31) hG dX12_ends_31 ?_
  refine a_iconst (pc := 32) hG dX12_ends_32 (v := (nI 3)) rfl ?_
  refine a_iast (pc := 33) hG sm_2 hd dX12_ends_33 (fun h14 hd => ?_)
  refine a_aload_n (pc := 34) hG 1 rfl dX12_ends_34 rfl ?_
  refine a_getR (pc := 35) hG sm_0 cl_X12 ok_X12 6 (by decide) rfl t_1615 dX12_ends_35 ?_
  refine a_bipush (pc := 38) hG dX12_ends_38 (v := (nI 74)) rfl ?_
  refine a_dup2 (pc := 40) hG dX12_ends_40 rfl rfl ?_
  refine a_iald (pc := 41) hG sm_2 hd dX12_ends_41 (fun hd => ?_)
  refine a_iconst (pc := 42) hG dX12_ends_42 (v := (nI 1)) rfl ?_
  refine a_iadd (pc := 43) hG dX12_ends_43 ?_
  refine a_iast (pc := 44) hG sm_2 hd dX12_ends_44 (fun h15 hd => ?_)
  refine a_aload_n (pc := 45) hG 1 rfl dX12_ends_45 rfl ?_
  refine a_getR (pc := 46) hG sm_0 cl_X12 ok_X12 6 (by decide) rfl t_1615 dX12_ends_46 ?_
  refine a_bipush (pc := 49) hG dX12_ends_49 (v := (nI 73)) rfl ?_
  refine a_iconst (pc := 51) hG dX12_ends_51 (v := (nI 0)) rfl ?_
  refine a_iast (pc := 52) hG sm_2 hd dX12_ends_52 (fun h16 hd => ?_)
  refine a_aload_n (pc := 53) hG 1 rfl dX12_ends_53 rfl ?_
  refine a_getR (pc := 54) hG sm_0 cl_X12 ok_X12 6 (by decide) rfl t_1615 dX12_ends_54 ?_
  refine a_bipush (pc := 57) hG dX12_ends_57 (v := (nI 75)) rfl ?_
  refine a_iald (pc := 59) hG sm_2 hd dX12_ends_59 (fun hd => ?_)
  refine a_join hd (Q := fun J : HS → Option (Unit × HS) => ∀  (h18 : HS), J  h18 = some q → AW SHm ad 3 (none, q.2) Γ 79 [(0, .ref (ad 0)), (1, .int a0)] [] h18) (fun  h18 hd => ?_) (fun J17 hJ17 hd => ?_)
  · refine a_aload_n (pc := 79) hG 0 rfl dX12_ends_79 rfl ?_
    refine a_getR (pc := 80) hG sm_0 cl_X12 ok_X12 6 (by decide) rfl t_1615 dX12_ends_80 ?_
    refine a_sipush (pc := 83) hG dX12_ends_83 (v := (nI 131)) rfl ?_
    refine a_aload_n (pc := 86) hG 0 rfl dX12_ends_86 rfl ?_
    refine a_getR (pc := 87) hG sm_0 cl_X12 ok_X12 6 (by decide) rfl t_1615 dX12_ends_87 ?_
    refine a_bipush (pc := 90) hG dX12_ends_90 (v := (nI 102)) rfl ?_
    refine a_iload_n (pc := 92) hG 1 rfl dX12_ends_92 rfl ?_
    refine a_iadd (pc := 93) hG dX12_ends_93 ?_
    refine a_iald (pc := 94) hG sm_2 hd dX12_ends_94 (fun hd => ?_)
    refine a_iadd (pc := 95) hG dX12_ends_95 ?_
    refine a_iconst (pc := 96) hG dX12_ends_96 (v := (nI 1)) rfl ?_
    refine a_isub (pc := 97) hG dX12_ends_97 ?_
    refine a_iconst (pc := 98) hG dX12_ends_98 (v := (nI 0)) rfl ?_
    refine a_iast (pc := 99) hG sm_2 hd dX12_ends_99 (fun h19 hd => ?_)
    refine a_aload_n (pc := 100) hG 0 rfl dX12_ends_100 rfl ?_
    refine a_getR (pc := 101) hG sm_0 cl_X12 ok_X12 6 (by decide) rfl t_1615 dX12_ends_101 ?_
    refine a_bipush (pc := 104) hG dX12_ends_104 (v := (nI 102)) rfl ?_
    refine a_iload_n (pc := 106) hG 1 rfl dX12_ends_106 rfl ?_
    refine a_iadd (pc := 107) hG dX12_ends_107 ?_
    refine a_iconst (pc := 108) hG dX12_ends_108 (v := (nI 0)) rfl ?_
    refine a_iast (pc := 109) hG sm_2 hd dX12_ends_109 (fun h20 hd => ?_)
    refine a_goto (pc := 110) hG (tgt := 229) dX12_ends_110 (by decide) ?_
    exact a_vret (pc := 229) hG hd dX12_ends_229
  refine a_if_ne (pc := 60) hG (tgt := 79) hd dX12_ends_60 (by decide) (fun hd => ?_) (fun hd => ?_)
  · exact AW.sub [1, 2] rfl (hJ17  _ hd)
  refine a_aload_n (pc := 63) hG 1 rfl dX12_ends_63 rfl ?_
  refine a_getR (pc := 64) hG sm_0 cl_X12 ok_X12 6 (by decide) rfl t_1615 dX12_ends_64 ?_
  refine a_bipush (pc := 67) hG dX12_ends_67 (v := (nI 75)) rfl ?_
  refine a_aload_n (pc := 69) hG 1 rfl dX12_ends_69 rfl ?_
  refine a_getR (pc := 70) hG sm_0 cl_X12 ok_X12 6 (by decide) rfl t_1615 dX12_ends_70 ?_
  refine a_bipush (pc := 73) hG dX12_ends_73 (v := (nI 72)) rfl ?_
  refine a_iald (pc := 75) hG sm_2 hd dX12_ends_75 (fun hd => ?_)
  refine a_iconst (pc := 76) hG dX12_ends_76 (v := (nI 1)) rfl ?_
  refine a_iadd (pc := 77) hG dX12_ends_77 ?_
  refine a_iast (pc := 78) hG sm_2 hd dX12_ends_78 (fun h21 hd => ?_)
  exact AW.sub [1, 2] rfl (hJ17  _ hd)
theorem dX12_week_0 : decode cX12_week 0 = .ok (.iconst 0, 1) := by decide +kernel
theorem dX12_week_1 : decode cX12_week 1 = .ok (.istore_n 1, 1) := by decide +kernel
theorem dX12_week_2 : decode cX12_week 2 = .ok (.iload_n 1, 1) := by decide +kernel
theorem dX12_week_3 : decode cX12_week 3 = .ok (.aload_n 0, 1) := by decide +kernel
theorem dX12_week_4 : decode cX12_week 4 = .ok (.getfield 33, 3) := by decide +kernel
theorem dX12_week_7 : decode cX12_week 7 = .ok (.iconst 2, 1) := by decide +kernel
theorem dX12_week_8 : decode cX12_week 8 = .ok (.iaload, 1) := by decide +kernel
theorem dX12_week_9 : decode cX12_week 9 = .ok (.if_icmp .ge 65, 3) := by decide +kernel
theorem dX12_week_12 : decode cX12_week 12 = .ok (.aload_n 0, 1) := by decide +kernel
theorem dX12_week_13 : decode cX12_week 13 = .ok (.getfield 33, 3) := by decide +kernel
theorem dX12_week_16 : decode cX12_week 16 = .ok (.sipush 141, 3) := by decide +kernel
theorem dX12_week_19 : decode cX12_week 19 = .ok (.iload_n 1, 1) := by decide +kernel
theorem dX12_week_20 : decode cX12_week 20 = .ok (.iadd, 1) := by decide +kernel
theorem dX12_week_21 : decode cX12_week 21 = .ok (.iaload, 1) := by decide +kernel
theorem dX12_week_22 : decode cX12_week 22 = .ok (.ifCond .ne 35, 3) := by decide +kernel
theorem dX12_week_25 : decode cX12_week 25 = .ok (.aload_n 0, 1) := by decide +kernel
theorem dX12_week_26 : decode cX12_week 26 = .ok (.getfield 33, 3) := by decide +kernel
theorem dX12_week_29 : decode cX12_week 29 = .ok (.bipush 126, 2) := by decide +kernel
theorem dX12_week_31 : decode cX12_week 31 = .ok (.iload_n 1, 1) := by decide +kernel
theorem dX12_week_32 : decode cX12_week 32 = .ok (.iadd, 1) := by decide +kernel
theorem dX12_week_33 : decode cX12_week 33 = .ok (.aload_n 0, 1) := by decide +kernel
theorem dX12_week_34 : decode cX12_week 34 = .ok (.getfield 33, 3) := by decide +kernel
theorem dX12_week_37 : decode cX12_week 37 = .ok (.bipush 67, 2) := by decide +kernel
theorem dX12_week_39 : decode cX12_week 39 = .ok (.iload_n 1, 1) := by decide +kernel
theorem dX12_week_40 : decode cX12_week 40 = .ok (.iadd, 1) := by decide +kernel
theorem dX12_week_41 : decode cX12_week 41 = .ok (.iaload, 1) := by decide +kernel
theorem dX12_week_42 : decode cX12_week 42 = .ok (.aload_n 0, 1) := by decide +kernel
theorem dX12_week_43 : decode cX12_week 43 = .ok (.getfield 33, 3) := by decide +kernel
theorem dX12_week_46 : decode cX12_week 46 = .ok (.bipush 126, 2) := by decide +kernel
theorem dX12_week_48 : decode cX12_week 48 = .ok (.iload_n 1, 1) := by decide +kernel
theorem dX12_week_49 : decode cX12_week 49 = .ok (.iadd, 1) := by decide +kernel
theorem dX12_week_50 : decode cX12_week 50 = .ok (.iaload, 1) := by decide +kernel
theorem dX12_week_51 : decode cX12_week 51 = .ok (.iconst 1, 1) := by decide +kernel
theorem dX12_week_52 : decode cX12_week 52 = .ok (.iadd, 1) := by decide +kernel
theorem dX12_week_53 : decode cX12_week 53 = .ok (.invokestatic 301, 3) := by decide +kernel
theorem dX12_week_56 : decode cX12_week 56 = .ok (.iastore, 1) := by decide +kernel
theorem dX12_week_57 : decode cX12_week 57 = .ok (.aload_n 0, 1) := by decide +kernel
theorem dX12_week_58 : decode cX12_week 58 = .ok (.getfield 33, 3) := by decide +kernel
theorem dX12_week_61 : decode cX12_week 61 = .ok (.sipush 141, 3) := by decide +kernel
theorem dX12_week_64 : decode cX12_week 64 = .ok (.iload_n 1, 1) := by decide +kernel
theorem dX12_week_65 : decode cX12_week 65 = .ok (.iadd, 1) := by decide +kernel
theorem dX12_week_66 : decode cX12_week 66 = .ok (.iconst 0, 1) := by decide +kernel
theorem dX12_week_67 : decode cX12_week 67 = .ok (.iastore, 1) := by decide +kernel
theorem dX12_week_68 : decode cX12_week 68 = .ok (.iinc 1 1, 3) := by decide +kernel
theorem dX12_week_71 : decode cX12_week 71 = .ok (.goto (-69), 3) := by decide +kernel
theorem dX12_week_74 : decode cX12_week 74 = .ok (.iconst 0, 1) := by decide +kernel
theorem dX12_week_75 : decode cX12_week 75 = .ok (.istore_n 1, 1) := by decide +kernel
theorem dX12_week_76 : decode cX12_week 76 = .ok (.iload_n 1, 1) := by decide +kernel
theorem dX12_week_77 : decode cX12_week 77 = .ok (.aload_n 0, 1) := by decide +kernel
theorem dX12_week_78 : decode cX12_week 78 = .ok (.getfield 33, 3) := by decide +kernel
theorem dX12_week_81 : decode cX12_week 81 = .ok (.iconst 0, 1) := by decide +kernel
theorem dX12_week_82 : decode cX12_week 82 = .ok (.iaload, 1) := by decide +kernel
theorem dX12_week_83 : decode cX12_week 83 = .ok (.if_icmp .ge 14, 3) := by decide +kernel
theorem dX12_week_86 : decode cX12_week 86 = .ok (.aload_n 0, 1) := by decide +kernel
theorem dX12_week_87 : decode cX12_week 87 = .ok (.iload_n 1, 1) := by decide +kernel
theorem dX12_week_88 : decode cX12_week 88 = .ok (.invokevirtual 304, 3) := by decide +kernel
theorem dX12_week_91 : decode cX12_week 91 = .ok (.iinc 1 1, 3) := by decide +kernel
theorem dX12_week_94 : decode cX12_week 94 = .ok (.goto (-18), 3) := by decide +kernel
theorem dX12_week_97 : decode cX12_week 97 = .ok (.aload_n 0, 1) := by decide +kernel
theorem dX12_week_98 : decode cX12_week 98 = .ok (.getfield 33, 3) := by decide +kernel
theorem dX12_week_101 : decode cX12_week 101 = .ok (.bipush 72, 2) := by decide +kernel
theorem dX12_week_103 : decode cX12_week 103 = .ok (.dup2, 1) := by decide +kernel
theorem dX12_week_104 : decode cX12_week 104 = .ok (.iaload, 1) := by decide +kernel
theorem dX12_week_105 : decode cX12_week 105 = .ok (.iconst 1, 1) := by decide +kernel
theorem dX12_week_106 : decode cX12_week 106 = .ok (.iadd, 1) := by decide +kernel
theorem dX12_week_107 : decode cX12_week 107 = .ok (.iastore, 1) := by decide +kernel
theorem dX12_week_108 : decode cX12_week 108 = .ok (.return_, 1) := by decide +kernel
set_option maxHeartbeats 4000000 in
theorem w_l_M_week_0 {ad wad : Nat → Nat} {Γ : Ctx} (F : Nat) {n : Nat} (hn : 7 ≤ n) (hG : Cx SHm ad wad cX12_week 2 RX12 none (n) Γ) {q : Unit × HS} {K0 : HS → Option (Unit × HS)} {g : Nat} {x1 : Int32} {h : HS} (hd : l_M_week_0 F K0 g x1 h = some q) (hK0 : ∀ (z : HS), K0 z = some q → AW SHm ad 2 (none, q.2) Γ 74 [(0, .ref (ad 0))] [] z) : AW SHm ad 2 (none, q.2) Γ 2 [(0, .ref (ad 0)), (1, .int x1)] [] h := by
  induction g generalizing x1 h with
  | zero => unfold l_M_week_0 at hd; cases hd
  | succ g ih =>
    unfold l_M_week_0 at hd
    refine a_iload_n (pc := 2) hG 1 rfl dX12_week_2 rfl ?_
    refine a_aload_n (pc := 3) hG 0 rfl dX12_week_3 rfl ?_
    refine a_getR (pc := 4) hG sm_0 cl_X12 ok_X12 6 (by decide) rfl t_1615 dX12_week_4 ?_
    refine a_iconst (pc := 7) hG dX12_week_7 (v := (nI 2)) rfl ?_
    refine a_iald (pc := 8) hG sm_2 hd dX12_week_8 (fun hd => ?_)
    refine a_ic_ge (pc := 9) hG (tgt := 74) hd dX12_week_9 (by decide) (fun hd => ?_) (fun hd => ?_)
    · exact AW.sub [0] rfl (hK0  _ hd)
    refine a_aload_n (pc := 12) hG 0 rfl dX12_week_12 rfl ?_
    refine a_getR (pc := 13) hG sm_0 cl_X12 ok_X12 6 (by decide) rfl t_1615 dX12_week_13 ?_
    refine a_sipush (pc := 16) hG dX12_week_16 (v := (nI 141)) rfl ?_
    refine a_iload_n (pc := 19) hG 1 rfl dX12_week_19 rfl ?_
    refine a_iadd (pc := 20) hG dX12_week_20 ?_
    refine a_iald (pc := 21) hG sm_2 hd dX12_week_21 (fun hd => ?_)
    refine a_join hd (Q := fun J : HS → Option (Unit × HS) => ∀  (h3 : HS), J  h3 = some q → AW SHm ad 2 (none, q.2) Γ 57 [(0, .ref (ad 0)), (1, .int x1)] [] h3) (fun  h3 hd => ?_) (fun J2 hJ2 hd => ?_)
    · refine a_aload_n (pc := 57) hG 0 rfl dX12_week_57 rfl ?_
      refine a_getR (pc := 58) hG sm_0 cl_X12 ok_X12 6 (by decide) rfl t_1615 dX12_week_58 ?_
      refine a_sipush (pc := 61) hG dX12_week_61 (v := (nI 141)) rfl ?_
      refine a_iload_n (pc := 64) hG 1 rfl dX12_week_64 rfl ?_
      refine a_iadd (pc := 65) hG dX12_week_65 ?_
      refine a_iconst (pc := 66) hG dX12_week_66 (v := (nI 0)) rfl ?_
      refine a_iast (pc := 67) hG sm_2 hd dX12_week_67 (fun h4 hd => ?_)
      refine a_iincN (pc := 68) hG (c0 := (nI 1)) 1 rfl hd dX12_week_68 rfl (by decide) (lf := fun x => [(1, .int x), (0, .ref (ad 0))]) (fun _ => rfl) (fun v5 hd => ?_)
      refine a_goto (pc := 71) hG (tgt := 2) dX12_week_71 (by decide) ?_
      exact AW.sub [1, 0] rfl (ih hd)
    refine a_if_ne (pc := 22) hG (tgt := 57) hd dX12_week_22 (by decide) (fun hd => ?_) (fun hd => ?_)
    · exact AW.sub [0, 1] rfl (hJ2  _ hd)
    refine a_aload_n (pc := 25) hG 0 rfl dX12_week_25 rfl ?_
    refine a_getR (pc := 26) hG sm_0 cl_X12 ok_X12 6 (by decide) rfl t_1615 dX12_week_26 ?_
    refine a_bipush (pc := 29) hG dX12_week_29 (v := (nI 126)) rfl ?_
    refine a_iload_n (pc := 31) hG 1 rfl dX12_week_31 rfl ?_
    refine a_iadd (pc := 32) hG dX12_week_32 ?_
    refine a_aload_n (pc := 33) hG 0 rfl dX12_week_33 rfl ?_
    refine a_getR (pc := 34) hG sm_0 cl_X12 ok_X12 6 (by decide) rfl t_1615 dX12_week_34 ?_
    refine a_bipush (pc := 37) hG dX12_week_37 (v := (nI 67)) rfl ?_
    refine a_iload_n (pc := 39) hG 1 rfl dX12_week_39 rfl ?_
    refine a_iadd (pc := 40) hG dX12_week_40 ?_
    refine a_iald (pc := 41) hG sm_2 hd dX12_week_41 (fun hd => ?_)
    refine a_aload_n (pc := 42) hG 0 rfl dX12_week_42 rfl ?_
    refine a_getR (pc := 43) hG sm_0 cl_X12 ok_X12 6 (by decide) rfl t_1615 dX12_week_43 ?_
    refine a_bipush (pc := 46) hG dX12_week_46 (v := (nI 126)) rfl ?_
    refine a_iload_n (pc := 48) hG 1 rfl dX12_week_48 rfl ?_
    refine a_iadd (pc := 49) hG dX12_week_49 ?_
    refine a_iald (pc := 50) hG sm_2 hd dX12_week_50 (fun hd => ?_)
    refine a_iconst (pc := 51) hG dX12_week_51 (v := (nI 1)) rfl ?_
    refine a_iadd (pc := 52) hG dX12_week_52 ?_
    refine a_csI (pc := 53) hG (As := [.int (h.1 2 ((nI 67) + x1).toNatClampNeg), .int ((h.1 2 ((nI 126) + x1).toNatClampNeg) + (nI 1))]) (st := [.int ((nI 126) + x1), .ref (ad 2)]) mk_X12_lesser t_1937 (by omega) (fun z hz => c_M_lesser (h.1 2 ((nI 67) + x1).toNatClampNeg) ((h.1 2 ((nI 126) + x1).toNatClampNeg) + (nI 1)) _  z hz) rfl (Nat.le_of_ble_eq_true rfl) hd dX12_week_53 (fun r7 h6 hd => ?_)
    refine a_iast (pc := 56) hG sm_2 hd dX12_week_56 (fun h8 hd => ?_)
    exact AW.sub [0, 1] rfl (hJ2  _ hd)
set_option maxHeartbeats 4000000 in
theorem w_l_M_week_1 {ad wad : Nat → Nat} {Γ : Ctx} (F : Nat) {n : Nat} (hn : 7 ≤ n) (hG : Cx SHm ad wad cX12_week 2 RX12 none (n) Γ) {q : Unit × HS} {K0 : HS → Option (Unit × HS)} {g : Nat} {x1 : Int32} {h : HS} (hd : l_M_week_1 F K0 g x1 h = some q) (hK0 : ∀ (z : HS), K0 z = some q → AW SHm ad 2 (none, q.2) Γ 97 [(0, .ref (ad 0))] [] z) : AW SHm ad 2 (none, q.2) Γ 76 [(0, .ref (ad 0)), (1, .int x1)] [] h := by
  induction g generalizing x1 h with
  | zero => unfold l_M_week_1 at hd; cases hd
  | succ g ih =>
    unfold l_M_week_1 at hd
    refine a_iload_n (pc := 76) hG 1 rfl dX12_week_76 rfl ?_
    refine a_aload_n (pc := 77) hG 0 rfl dX12_week_77 rfl ?_
    refine a_getR (pc := 78) hG sm_0 cl_X12 ok_X12 6 (by decide) rfl t_1615 dX12_week_78 ?_
    refine a_iconst (pc := 81) hG dX12_week_81 (v := (nI 0)) rfl ?_
    refine a_iald (pc := 82) hG sm_2 hd dX12_week_82 (fun hd => ?_)
    refine a_ic_ge (pc := 83) hG (tgt := 97) hd dX12_week_83 (by decide) (fun hd => ?_) (fun hd => ?_)
    · exact AW.sub [0] rfl (hK0  _ hd)
    refine a_aload_n (pc := 86) hG 0 rfl dX12_week_86 rfl ?_
    refine a_iload_n (pc := 87) hG 1 rfl dX12_week_87 rfl ?_
    refine a_cvN (pc := 88) hG (As := [.int x1]) (st := []) sm_0 cl_X12 mk_X12_ends t_1944 (by omega) (fun z hz => c_M_ends F x1 _  z hz) rfl (Nat.le_of_ble_eq_true rfl) hd dX12_week_88 (fun _ h11 hd => ?_)
    refine a_iincN (pc := 91) hG (c0 := (nI 1)) 1 rfl hd dX12_week_91 rfl (by decide) (lf := fun x => [(1, .int x), (0, .ref (ad 0))]) (fun _ => rfl) (fun v12 hd => ?_)
    refine a_goto (pc := 94) hG (tgt := 76) dX12_week_94 (by decide) ?_
    exact AW.sub [1, 0] rfl (ih hd)
set_option maxHeartbeats 4000000 in
theorem c_M_week {ad wad : Nat → Nat} (F : Nat)  (h : HS)  (q : Unit × HS) (hd : f_M_week F  h = some q) : Ctr SHm ad wad yX12_week cX12_week 2 none 7 [.ref (ad 0)] h (none, q.2) := by
  refine enter (own := RX12) (lv := [(0, .ref (ad 0))]) (by decide +kernel) rfl (Nat.le_of_ble_eq_true rfl) rfl (fun Γ hG => ?_)
  unfold f_M_week at hd
  refine a_iconst (pc := 0) hG dX12_week_0 (v := (nI 0)) rfl ?_
  refine a_istore_nN (pc := 1) hG hd dX12_week_1 rfl (by decide) (lf := fun x => [(1, .int x), (0, .ref (ad 0))]) (fun _ => rfl) (fun v1 hd => ?_)
  refine AW.sub [1, 0] rfl ?_
  refine w_l_M_week_0 F (by omega) hG hd (fun h9 hd => ?_)
  refine a_iconst (pc := 74) hG dX12_week_74 (v := (nI 0)) rfl ?_
  refine a_istore_nN (pc := 75) hG hd dX12_week_75 rfl (by decide) (lf := fun x => [(1, .int x), (0, .ref (ad 0))]) (fun _ => rfl) (fun v10 hd => ?_)
  refine AW.sub [1, 0] rfl ?_
  refine w_l_M_week_1 F (by omega) hG hd (fun h13 hd => ?_)
  refine a_aload_n (pc := 97) hG 0 rfl dX12_week_97 rfl ?_
  refine a_getR (pc := 98) hG sm_0 cl_X12 ok_X12 6 (by decide) rfl t_1615 dX12_week_98 ?_
  refine a_bipush (pc := 101) hG dX12_week_101 (v := (nI 72)) rfl ?_
  refine a_dup2 (pc := 103) hG dX12_week_103 rfl rfl ?_
  refine a_iald (pc := 104) hG sm_2 hd dX12_week_104 (fun hd => ?_)
  refine a_iconst (pc := 105) hG dX12_week_105 (v := (nI 1)) rfl ?_
  refine a_iadd (pc := 106) hG dX12_week_106 ?_
  refine a_iast (pc := 107) hG sm_2 hd dX12_week_107 (fun h14 hd => ?_)
  exact a_vret (pc := 108) hG hd dX12_week_108
theorem dX12_weeks_0 : decode cX12_weeks 0 = .ok (.aload_n 0, 1) := by decide +kernel
theorem dX12_weeks_1 : decode cX12_weeks 1 = .ok (.iconst 0, 1) := by decide +kernel
theorem dX12_weeks_2 : decode cX12_weeks 2 = .ok (.putfield 1, 3) := by decide +kernel
theorem dX12_weeks_5 : decode cX12_weeks 5 = .ok (.iload_n 1, 1) := by decide +kernel
theorem dX12_weeks_6 : decode cX12_weeks 6 = .ok (.iconst 1, 1) := by decide +kernel
theorem dX12_weeks_7 : decode cX12_weeks 7 = .ok (.bipush 50, 2) := by decide +kernel
theorem dX12_weeks_9 : decode cX12_weeks 9 = .ok (.invokestatic 184, 3) := by decide +kernel
theorem dX12_weeks_12 : decode cX12_weeks 12 = .ok (.ifCond .ne 5, 3) := by decide +kernel
theorem dX12_weeks_15 : decode cX12_weeks 15 = .ok (.iconst (-1), 1) := by decide +kernel
theorem dX12_weeks_16 : decode cX12_weeks 16 = .ok (.ireturn, 1) := by decide +kernel
theorem dX12_weeks_17 : decode cX12_weeks 17 = .ok (.iload_n 1, 1) := by decide +kernel
theorem dX12_weeks_18 : decode cX12_weeks 18 = .ok (.sipush 200, 3) := by decide +kernel
theorem dX12_weeks_21 : decode cX12_weeks 21 = .ok (.aload_n 0, 1) := by decide +kernel
theorem dX12_weeks_22 : decode cX12_weeks 22 = .ok (.getfield 33, 3) := by decide +kernel
theorem dX12_weeks_25 : decode cX12_weeks 25 = .ok (.bipush 72, 2) := by decide +kernel
theorem dX12_weeks_27 : decode cX12_weeks 27 = .ok (.iaload, 1) := by decide +kernel
theorem dX12_weeks_28 : decode cX12_weeks 28 = .ok (.isub, 1) := by decide +kernel
theorem dX12_weeks_29 : decode cX12_weeks 29 = .ok (.invokestatic 301, 3) := by decide +kernel
theorem dX12_weeks_32 : decode cX12_weeks 32 = .ok (.istore_n 2, 1) := by decide +kernel
theorem dX12_weeks_33 : decode cX12_weeks 33 = .ok (.iload_n 2, 1) := by decide +kernel
theorem dX12_weeks_34 : decode cX12_weeks 34 = .ok (.ifCond .le 7, 3) := by decide +kernel
theorem dX12_weeks_37 : decode cX12_weeks 37 = .ok (.aload_n 0, 1) := by decide +kernel
theorem dX12_weeks_38 : decode cX12_weeks 38 = .ok (.invokevirtual 281, 3) := by decide +kernel
theorem dX12_weeks_41 : decode cX12_weeks 41 = .ok (.iconst 0, 1) := by decide +kernel
theorem dX12_weeks_42 : decode cX12_weeks 42 = .ok (.istore_n 3, 1) := by decide +kernel
theorem dX12_weeks_43 : decode cX12_weeks 43 = .ok (.iload_n 3, 1) := by decide +kernel
theorem dX12_weeks_44 : decode cX12_weeks 44 = .ok (.iload_n 2, 1) := by decide +kernel
theorem dX12_weeks_45 : decode cX12_weeks 45 = .ok (.if_icmp .ge 13, 3) := by decide +kernel
theorem dX12_weeks_48 : decode cX12_weeks 48 = .ok (.aload_n 0, 1) := by decide +kernel
theorem dX12_weeks_49 : decode cX12_weeks 49 = .ok (.invokevirtual 307, 3) := by decide +kernel
theorem dX12_weeks_52 : decode cX12_weeks 52 = .ok (.iinc 3 1, 3) := by decide +kernel
theorem dX12_weeks_55 : decode cX12_weeks 55 = .ok (.goto (-12), 3) := by decide +kernel
theorem dX12_weeks_58 : decode cX12_weeks 58 = .ok (.iload_n 2, 1) := by decide +kernel
theorem dX12_weeks_59 : decode cX12_weeks 59 = .ok (.ireturn, 1) := by decide +kernel
set_option maxHeartbeats 4000000 in
theorem w_l_M_weeks_0 {ad wad : Nat → Nat} {Γ : Ctx} (F : Nat) {n : Nat} (hn : 8 ≤ n) (hG : Cx SHm ad wad cX12_weeks 4 RX12 (some .int) (n) Γ) {q : Int32 × HS} {x2 : Int32} {g : Nat} {x3 : Int32} {h : HS} (hd : l_M_weeks_0 F x2 g x3 h = some q) : AW SHm ad 4 (some (.int q.1), q.2) Γ 43 [(0, .ref (ad 0)), (2, .int x2), (3, .int x3)] [] h := by
  induction g generalizing x3 h with
  | zero => unfold l_M_weeks_0 at hd; cases hd
  | succ g ih =>
    unfold l_M_weeks_0 at hd
    refine a_iload_n (pc := 43) hG 2 rfl dX12_weeks_43 rfl ?_
    refine a_iload_n (pc := 44) hG 1 rfl dX12_weeks_44 rfl ?_
    refine a_ic_ge (pc := 45) hG (tgt := 58) hd dX12_weeks_45 (by decide) (fun hd => ?_) (fun hd => ?_)
    · refine a_iload_n (pc := 58) hG 1 rfl dX12_weeks_58 rfl ?_
      exact a_iret (pc := 59) hG hd dX12_weeks_59
    refine a_aload_n (pc := 48) hG 0 rfl dX12_weeks_48 rfl ?_
    refine a_cvN (pc := 49) hG (As := []) (st := []) sm_0 cl_X12 mk_X12_week t_1940 (by omega) (fun z hz => c_M_week F  _  z hz) rfl (Nat.le_of_ble_eq_true rfl) hd dX12_weeks_49 (fun _ h10 hd => ?_)
    refine a_iincN (pc := 52) hG (c0 := (nI 1)) 2 rfl hd dX12_weeks_52 rfl (by decide) (lf := fun x => [(3, .int x), (0, .ref (ad 0)), (2, .int x2)]) (fun _ => rfl) (fun v11 hd => ?_)
    refine a_goto (pc := 55) hG (tgt := 43) dX12_weeks_55 (by decide) ?_
    exact AW.sub [1, 2, 0] rfl (ih hd)
set_option maxHeartbeats 4000000 in
theorem c_M_weeks {ad wad : Nat → Nat} (F : Nat) (a0 : Int32) (h : HS)  (q : Int32 × HS) (hd : f_M_weeks F a0 h = some q) : Ctr SHm ad wad yX12_weeks cX12_weeks 4 (some .int) 8 [.ref (ad 0), .int a0] h (some (.int q.1), q.2) := by
  refine enter (own := RX12) (lv := [(0, .ref (ad 0)), (1, .int a0)]) (by decide +kernel) rfl (Nat.le_of_ble_eq_true rfl) rfl (fun Γ hG => ?_)
  unfold f_M_weeks at hd
  refine a_aload_n (pc := 0) hG 0 rfl dX12_weeks_0 rfl ?_
  refine a_iconst (pc := 1) hG dX12_weeks_1 (v := (nI 0)) rfl ?_
  refine a_putI (pc := 2) hG sm_0 cl_X12 ok_X12 0 (by decide) rfl t_1609 rfl (ty := .int) rfl rfl rfl hd dX12_weeks_2 (fun h1 hd => ?_)
  refine a_iload_n (pc := 5) hG 1 rfl dX12_weeks_5 rfl ?_
  refine a_iconst (pc := 6) hG dX12_weeks_6 (v := (nI 1)) rfl ?_
  refine a_bipush (pc := 7) hG dX12_weeks_7 (v := (nI 50)) rfl ?_
  refine a_csI (pc := 9) hG (As := [.int a0, .int (nI 1), .int (nI 50)]) (st := []) mk_X12_isIn t_1795 (by omega) (fun z hz => c_M_isIn a0 (nI 1) (nI 50) _  z hz) rfl (Nat.le_of_ble_eq_true rfl) hd dX12_weeks_9 (fun r3 h2 hd => ?_)
  refine a_if_ne (pc := 12) hG (tgt := 17) hd dX12_weeks_12 (by decide) (fun hd => ?_) (fun hd => ?_)
  · refine a_iload_n (pc := 17) hG 1 rfl dX12_weeks_17 rfl ?_
    refine a_sipush (pc := 18) hG dX12_weeks_18 (v := (nI 200)) rfl ?_
    refine a_aload_n (pc := 21) hG 0 rfl dX12_weeks_21 rfl ?_
    refine a_getR (pc := 22) hG sm_0 cl_X12 ok_X12 6 (by decide) rfl t_1615 dX12_weeks_22 ?_
    refine a_bipush (pc := 25) hG dX12_weeks_25 (v := (nI 72)) rfl ?_
    refine a_iald (pc := 27) hG sm_2 hd dX12_weeks_27 (fun hd => ?_)
    refine a_isub (pc := 28) hG dX12_weeks_28 ?_
    refine a_csI (pc := 29) hG (As := [.int a0, .int ((nI 200) - (h2.1 2 (nI 72).toNatClampNeg))]) (st := []) mk_X12_lesser t_1937 (by omega) (fun z hz => c_M_lesser a0 ((nI 200) - (h2.1 2 (nI 72).toNatClampNeg)) _  z hz) rfl (Nat.le_of_ble_eq_true rfl) hd dX12_weeks_29 (fun r5 h4 hd => ?_)
    refine a_istore_nN (pc := 32) hG hd dX12_weeks_32 rfl (by decide) (lf := fun x => [(2, .int x), (0, .ref (ad 0)), (1, .int a0)]) (fun _ => rfl) (fun v6 hd => ?_)
    refine a_iload_n (pc := 33) hG 0 rfl dX12_weeks_33 rfl ?_
    refine a_join hd (Q := fun J : HS → Option (Int32 × HS) => ∀  (h8 : HS), J  h8 = some q → AW SHm ad 4 (some (.int q.1), q.2) Γ 41 [(0, .ref (ad 0)), (2, .int v6)] [] h8) (fun  h8 hd => ?_) (fun J7 hJ7 hd => ?_)
    · refine a_iconst (pc := 41) hG dX12_weeks_41 (v := (nI 0)) rfl ?_
      refine a_istore_nN (pc := 42) hG hd dX12_weeks_42 rfl (by decide) (lf := fun x => [(3, .int x), (0, .ref (ad 0)), (2, .int v6)]) (fun _ => rfl) (fun v9 hd => ?_)
      refine AW.sub [1, 2, 0] rfl ?_
      exact w_l_M_weeks_0 F (by omega) hG hd
    refine a_if_le (pc := 34) hG (tgt := 41) hd dX12_weeks_34 (by decide) (fun hd => ?_) (fun hd => ?_)
    · exact AW.sub [1, 0] rfl (hJ7  _ hd)
    refine a_aload_n (pc := 37) hG 1 rfl dX12_weeks_37 rfl ?_
    refine a_cvN (pc := 38) hG (As := []) (st := []) sm_0 cl_X12 mk_X12_keep t_1897 (by omega) (fun z hz => c_M_keep F  _  z hz) rfl (Nat.le_of_ble_eq_true rfl) hd dX12_weeks_38 (fun _ h12 hd => ?_)
    exact AW.sub [1, 0] rfl (hJ7  _ hd)
  refine a_iconst (pc := 15) hG dX12_weeks_15 (v := (-1 : Int32)) rfl ?_
  exact a_iret (pc := 16) hG hd dX12_weeks_16
theorem dX12_undo_0 : decode cX12_undo 0 = .ok (.aload_n 0, 1) := by decide +kernel
theorem dX12_undo_1 : decode cX12_undo 1 = .ok (.iconst 0, 1) := by decide +kernel
theorem dX12_undo_2 : decode cX12_undo 2 = .ok (.putfield 1, 3) := by decide +kernel
theorem dX12_undo_5 : decode cX12_undo 5 = .ok (.aload_n 0, 1) := by decide +kernel
theorem dX12_undo_6 : decode cX12_undo 6 = .ok (.getfield 237, 3) := by decide +kernel
theorem dX12_undo_9 : decode cX12_undo 9 = .ok (.ifCond .ne 5, 3) := by decide +kernel
theorem dX12_undo_12 : decode cX12_undo 12 = .ok (.iconst (-1), 1) := by decide +kernel
theorem dX12_undo_13 : decode cX12_undo 13 = .ok (.ireturn, 1) := by decide +kernel
theorem dX12_undo_14 : decode cX12_undo 14 = .ok (.aload_n 0, 1) := by decide +kernel
theorem dX12_undo_15 : decode cX12_undo 15 = .ok (.dup, 1) := by decide +kernel
theorem dX12_undo_16 : decode cX12_undo 16 = .ok (.getfield 237, 3) := by decide +kernel
theorem dX12_undo_19 : decode cX12_undo 19 = .ok (.iconst 1, 1) := by decide +kernel
theorem dX12_undo_20 : decode cX12_undo 20 = .ok (.isub, 1) := by decide +kernel
theorem dX12_undo_21 : decode cX12_undo 21 = .ok (.putfield 237, 3) := by decide +kernel
theorem dX12_undo_24 : decode cX12_undo 24 = .ok (.iconst 0, 1) := by decide +kernel
theorem dX12_undo_25 : decode cX12_undo 25 = .ok (.istore_n 1, 1) := by decide +kernel
theorem dX12_undo_26 : decode cX12_undo 26 = .ok (.iload_n 1, 1) := by decide +kernel
theorem dX12_undo_27 : decode cX12_undo 27 = .ok (.bipush 79, 2) := by decide +kernel
theorem dX12_undo_29 : decode cX12_undo 29 = .ok (.if_icmp .ge 32, 3) := by decide +kernel
theorem dX12_undo_32 : decode cX12_undo 32 = .ok (.aload_n 0, 1) := by decide +kernel
theorem dX12_undo_33 : decode cX12_undo 33 = .ok (.getfield 33, 3) := by decide +kernel
theorem dX12_undo_36 : decode cX12_undo 36 = .ok (.bipush 72, 2) := by decide +kernel
theorem dX12_undo_38 : decode cX12_undo 38 = .ok (.iload_n 1, 1) := by decide +kernel
theorem dX12_undo_39 : decode cX12_undo 39 = .ok (.iadd, 1) := by decide +kernel
theorem dX12_undo_40 : decode cX12_undo 40 = .ok (.aload_n 0, 1) := by decide +kernel
theorem dX12_undo_41 : decode cX12_undo 41 = .ok (.getfield 50, 3) := by decide +kernel
theorem dX12_undo_44 : decode cX12_undo 44 = .ok (.bipush 79, 2) := by decide +kernel
theorem dX12_undo_46 : decode cX12_undo 46 = .ok (.aload_n 0, 1) := by decide +kernel
theorem dX12_undo_47 : decode cX12_undo 47 = .ok (.getfield 237, 3) := by decide +kernel
theorem dX12_undo_50 : decode cX12_undo 50 = .ok (.imul, 1) := by decide +kernel
theorem dX12_undo_51 : decode cX12_undo 51 = .ok (.iload_n 1, 1) := by decide +kernel
theorem dX12_undo_52 : decode cX12_undo 52 = .ok (.iadd, 1) := by decide +kernel
theorem dX12_undo_53 : decode cX12_undo 53 = .ok (.iaload, 1) := by decide +kernel
theorem dX12_undo_54 : decode cX12_undo 54 = .ok (.iastore, 1) := by decide +kernel
theorem dX12_undo_55 : decode cX12_undo 55 = .ok (.iinc 1 1, 3) := by decide +kernel
theorem dX12_undo_58 : decode cX12_undo 58 = .ok (.goto (-32), 3) := by decide +kernel
theorem dX12_undo_61 : decode cX12_undo 61 = .ok (.aload_n 0, 1) := by decide +kernel
theorem dX12_undo_62 : decode cX12_undo 62 = .ok (.getfield 237, 3) := by decide +kernel
theorem dX12_undo_65 : decode cX12_undo 65 = .ok (.ireturn, 1) := by decide +kernel
set_option maxHeartbeats 4000000 in
theorem w_l_M_undo_0 {ad wad : Nat → Nat} {Γ : Ctx} (F : Nat) {n : Nat} (hn : 1 ≤ n) (hG : Cx SHm ad wad cX12_undo 2 RX12 (some .int) (n) Γ) {q : Int32 × HS} {g : Nat} {x1 : Int32} {h : HS} (hd : l_M_undo_0 F g x1 h = some q) : AW SHm ad 2 (some (.int q.1), q.2) Γ 26 [(0, .ref (ad 0)), (1, .int x1)] [] h := by
  induction g generalizing x1 h with
  | zero => unfold l_M_undo_0 at hd; cases hd
  | succ g ih =>
    unfold l_M_undo_0 at hd
    refine a_iload_n (pc := 26) hG 1 rfl dX12_undo_26 rfl ?_
    refine a_bipush (pc := 27) hG dX12_undo_27 (v := (nI 79)) rfl ?_
    refine a_ic_ge (pc := 29) hG (tgt := 61) hd dX12_undo_29 (by decide) (fun hd => ?_) (fun hd => ?_)
    · refine a_aload_n (pc := 61) hG 0 rfl dX12_undo_61 rfl ?_
      refine a_getI (pc := 62) hG sm_0 cl_X12 ok_X12 23 (by decide) rfl t_1632 dX12_undo_62 ?_
      exact a_iret (pc := 65) hG hd dX12_undo_65
    refine a_aload_n (pc := 32) hG 0 rfl dX12_undo_32 rfl ?_
    refine a_getR (pc := 33) hG sm_0 cl_X12 ok_X12 6 (by decide) rfl t_1615 dX12_undo_33 ?_
    refine a_bipush (pc := 36) hG dX12_undo_36 (v := (nI 72)) rfl ?_
    refine a_iload_n (pc := 38) hG 1 rfl dX12_undo_38 rfl ?_
    refine a_iadd (pc := 39) hG dX12_undo_39 ?_
    refine a_aload_n (pc := 40) hG 0 rfl dX12_undo_40 rfl ?_
    refine a_getR (pc := 41) hG sm_0 cl_X12 ok_X12 21 (by decide) rfl t_1630 dX12_undo_41 ?_
    refine a_bipush (pc := 44) hG dX12_undo_44 (v := (nI 79)) rfl ?_
    refine a_aload_n (pc := 46) hG 0 rfl dX12_undo_46 rfl ?_
    refine a_getI (pc := 47) hG sm_0 cl_X12 ok_X12 23 (by decide) rfl t_1632 dX12_undo_47 ?_
    refine a_imul (pc := 50) hG dX12_undo_50 ?_
    refine a_iload_n (pc := 51) hG 1 rfl dX12_undo_51 rfl ?_
    refine a_iadd (pc := 52) hG dX12_undo_52 ?_
    refine a_iald (pc := 53) hG sm_7 hd dX12_undo_53 (fun hd => ?_)
    refine a_iast (pc := 54) hG sm_2 hd dX12_undo_54 (fun h4 hd => ?_)
    refine a_iincN (pc := 55) hG (c0 := (nI 1)) 1 rfl hd dX12_undo_55 rfl (by decide) (lf := fun x => [(1, .int x), (0, .ref (ad 0))]) (fun _ => rfl) (fun v5 hd => ?_)
    refine a_goto (pc := 58) hG (tgt := 26) dX12_undo_58 (by decide) ?_
    exact AW.sub [1, 0] rfl (ih hd)
set_option maxHeartbeats 4000000 in
theorem c_M_undo {ad wad : Nat → Nat} (F : Nat)  (h : HS)  (q : Int32 × HS) (hd : f_M_undo F  h = some q) : Ctr SHm ad wad yX12_undo cX12_undo 2 (some .int) 1 [.ref (ad 0)] h (some (.int q.1), q.2) := by
  refine enter (own := RX12) (lv := [(0, .ref (ad 0))]) (by decide +kernel) rfl (Nat.le_of_ble_eq_true rfl) rfl (fun Γ hG => ?_)
  unfold f_M_undo at hd
  refine a_aload_n (pc := 0) hG 0 rfl dX12_undo_0 rfl ?_
  refine a_iconst (pc := 1) hG dX12_undo_1 (v := (nI 0)) rfl ?_
  refine a_putI (pc := 2) hG sm_0 cl_X12 ok_X12 0 (by decide) rfl t_1609 rfl (ty := .int) rfl rfl rfl hd dX12_undo_2 (fun h1 hd => ?_)
  refine a_aload_n (pc := 5) hG 0 rfl dX12_undo_5 rfl ?_
  refine a_getI (pc := 6) hG sm_0 cl_X12 ok_X12 23 (by decide) rfl t_1632 dX12_undo_6 ?_
  refine a_if_ne (pc := 9) hG (tgt := 14) hd dX12_undo_9 (by decide) (fun hd => ?_) (fun hd => ?_)
  · refine a_aload_n (pc := 14) hG 0 rfl dX12_undo_14 rfl ?_
    refine a_dup (pc := 15) hG dX12_undo_15 rfl ?_
    refine a_getI (pc := 16) hG sm_0 cl_X12 ok_X12 23 (by decide) rfl t_1632 dX12_undo_16 ?_
    refine a_iconst (pc := 19) hG dX12_undo_19 (v := (nI 1)) rfl ?_
    refine a_isub (pc := 20) hG dX12_undo_20 ?_
    refine a_putI (pc := 21) hG sm_0 cl_X12 ok_X12 23 (by decide) rfl t_1632 rfl (ty := .int) rfl rfl rfl hd dX12_undo_21 (fun h2 hd => ?_)
    refine a_iconst (pc := 24) hG dX12_undo_24 (v := (nI 0)) rfl ?_
    refine a_istore_nN (pc := 25) hG hd dX12_undo_25 rfl (by decide) (lf := fun x => [(1, .int x), (0, .ref (ad 0))]) (fun _ => rfl) (fun v3 hd => ?_)
    refine AW.sub [1, 0] rfl ?_
    exact w_l_M_undo_0 F (by omega) hG hd
  refine a_iconst (pc := 12) hG dX12_undo_12 (v := (-1 : Int32)) rfl ?_
  exact a_iret (pc := 13) hG hd dX12_undo_13
theorem dX12_free_0 : decode cX12_free 0 = .ok (.iconst 1, 1) := by decide +kernel
theorem dX12_free_1 : decode cX12_free 1 = .ok (.aload_n 0, 1) := by decide +kernel
theorem dX12_free_2 : decode cX12_free 2 = .ok (.getfield 33, 3) := by decide +kernel
theorem dX12_free_5 : decode cX12_free 5 = .ok (.iconst 1, 1) := by decide +kernel
theorem dX12_free_6 : decode cX12_free 6 = .ok (.iaload, 1) := by decide +kernel
theorem dX12_free_7 : decode cX12_free 7 = .ok (.ishl, 1) := by decide +kernel
theorem dX12_free_8 : decode cX12_free 8 = .ok (.iconst 1, 1) := by decide +kernel
theorem dX12_free_9 : decode cX12_free 9 = .ok (.isub, 1) := by decide +kernel
theorem dX12_free_10 : decode cX12_free 10 = .ok (.aload_n 0, 1) := by decide +kernel
theorem dX12_free_11 : decode cX12_free 11 = .ok (.getfield 33, 3) := by decide +kernel
theorem dX12_free_14 : decode cX12_free 14 = .ok (.bipush 108, 2) := by decide +kernel
theorem dX12_free_16 : decode cX12_free 16 = .ok (.iload_n 1, 1) := by decide +kernel
theorem dX12_free_17 : decode cX12_free 17 = .ok (.iadd, 1) := by decide +kernel
theorem dX12_free_18 : decode cX12_free 18 = .ok (.iaload, 1) := by decide +kernel
theorem dX12_free_19 : decode cX12_free 19 = .ok (.iconst (-1), 1) := by decide +kernel
theorem dX12_free_20 : decode cX12_free 20 = .ok (.ixor, 1) := by decide +kernel
theorem dX12_free_21 : decode cX12_free 21 = .ok (.iand, 1) := by decide +kernel
theorem dX12_free_22 : decode cX12_free 22 = .ok (.ireturn, 1) := by decide +kernel
set_option maxHeartbeats 4000000 in
theorem c_M_free {ad wad : Nat → Nat} (a0 : Int32) (h : HS)  (q : Int32 × HS) (hd : f_M_free a0 h = some q) : Ctr SHm ad wad yX12_free cX12_free 2 (some .int) 1 [.ref (ad 0), .int a0] h (some (.int q.1), q.2) := by
  refine enter (own := RX12) (lv := [(0, .ref (ad 0)), (1, .int a0)]) (by decide +kernel) rfl (Nat.le_of_ble_eq_true rfl) rfl (fun Γ hG => ?_)
  unfold f_M_free at hd
  refine a_iconst (pc := 0) hG dX12_free_0 (v := (nI 1)) rfl ?_
  refine a_aload_n (pc := 1) hG 0 rfl dX12_free_1 rfl ?_
  refine a_getR (pc := 2) hG sm_0 cl_X12 ok_X12 6 (by decide) rfl t_1615 dX12_free_2 ?_
  refine a_iconst (pc := 5) hG dX12_free_5 (v := (nI 1)) rfl ?_
  refine a_iald (pc := 6) hG sm_2 hd dX12_free_6 (fun hd => ?_)
  refine a_ishl (pc := 7) hG dX12_free_7 ?_
  refine a_iconst (pc := 8) hG dX12_free_8 (v := (nI 1)) rfl ?_
  refine a_isub (pc := 9) hG dX12_free_9 ?_
  refine a_aload_n (pc := 10) hG 0 rfl dX12_free_10 rfl ?_
  refine a_getR (pc := 11) hG sm_0 cl_X12 ok_X12 6 (by decide) rfl t_1615 dX12_free_11 ?_
  refine a_bipush (pc := 14) hG dX12_free_14 (v := (nI 108)) rfl ?_
  refine a_iload_n (pc := 16) hG 1 rfl dX12_free_16 rfl ?_
  refine a_iadd (pc := 17) hG dX12_free_17 ?_
  refine a_iald (pc := 18) hG sm_2 hd dX12_free_18 (fun hd => ?_)
  refine a_iconst (pc := 19) hG dX12_free_19 (v := (-1 : Int32)) rfl ?_
  refine a_ixor (pc := 20) hG dX12_free_20 ?_
  refine a_iand (pc := 21) hG dX12_free_21 ?_
  exact a_iret (pc := 22) hG hd dX12_free_22
theorem dX12_ordersBy_0 : decode cX12_ordersBy 0 = .ok (.iconst 0, 1) := by decide +kernel
theorem dX12_ordersBy_1 : decode cX12_ordersBy 1 = .ok (.istore_n 2, 1) := by decide +kernel
theorem dX12_ordersBy_2 : decode cX12_ordersBy 2 = .ok (.iload_n 2, 1) := by decide +kernel
theorem dX12_ordersBy_3 : decode cX12_ordersBy 3 = .ok (.bipush 64, 2) := by decide +kernel
theorem dX12_ordersBy_5 : decode cX12_ordersBy 5 = .ok (.if_icmp .ge 98, 3) := by decide +kernel
theorem dX12_ordersBy_8 : decode cX12_ordersBy 8 = .ok (.aload_n 0, 1) := by decide +kernel
theorem dX12_ordersBy_9 : decode cX12_ordersBy 9 = .ok (.getfield 56, 3) := by decide +kernel
theorem dX12_ordersBy_12 : decode cX12_ordersBy 12 = .ok (.iload_n 2, 1) := by decide +kernel
theorem dX12_ordersBy_13 : decode cX12_ordersBy 13 = .ok (.iconst 0, 1) := by decide +kernel
theorem dX12_ordersBy_14 : decode cX12_ordersBy 14 = .ok (.iastore, 1) := by decide +kernel
theorem dX12_ordersBy_15 : decode cX12_ordersBy 15 = .ok (.iload_n 2, 1) := by decide +kernel
theorem dX12_ordersBy_16 : decode cX12_ordersBy 16 = .ok (.aload_n 0, 1) := by decide +kernel
theorem dX12_ordersBy_17 : decode cX12_ordersBy 17 = .ok (.iload_n 1, 1) := by decide +kernel
theorem dX12_ordersBy_18 : decode cX12_ordersBy 18 = .ok (.invokevirtual 310, 3) := by decide +kernel
theorem dX12_ordersBy_21 : decode cX12_ordersBy 21 = .ok (.iconst (-1), 1) := by decide +kernel
theorem dX12_ordersBy_22 : decode cX12_ordersBy 22 = .ok (.ixor, 1) := by decide +kernel
theorem dX12_ordersBy_23 : decode cX12_ordersBy 23 = .ok (.iand, 1) := by decide +kernel
theorem dX12_ordersBy_24 : decode cX12_ordersBy 24 = .ok (.ifCond .ne 73, 3) := by decide +kernel
theorem dX12_ordersBy_27 : decode cX12_ordersBy 27 = .ok (.aload_n 0, 1) := by decide +kernel
theorem dX12_ordersBy_28 : decode cX12_ordersBy 28 = .ok (.iload_n 1, 1) := by decide +kernel
theorem dX12_ordersBy_29 : decode cX12_ordersBy 29 = .ok (.iload_n 2, 1) := by decide +kernel
theorem dX12_ordersBy_30 : decode cX12_ordersBy 30 = .ok (.invokevirtual 272, 3) := by decide +kernel
theorem dX12_ordersBy_33 : decode cX12_ordersBy 33 = .ok (.ifCond .ne 6, 3) := by decide +kernel
theorem dX12_ordersBy_36 : decode cX12_ordersBy 36 = .ok (.goto 61, 3) := by decide +kernel
theorem dX12_ordersBy_39 : decode cX12_ordersBy 39 = .ok (.iload_n 2, 1) := by decide +kernel
theorem dX12_ordersBy_40 : decode cX12_ordersBy 40 = .ok (.ifCond .ne 10, 3) := by decide +kernel
theorem dX12_ordersBy_43 : decode cX12_ordersBy 43 = .ok (.aload_n 0, 1) := by decide +kernel
theorem dX12_ordersBy_44 : decode cX12_ordersBy 44 = .ok (.getfield 56, 3) := by decide +kernel
theorem dX12_ordersBy_47 : decode cX12_ordersBy 47 = .ok (.iconst 0, 1) := by decide +kernel
theorem dX12_ordersBy_48 : decode cX12_ordersBy 48 = .ok (.iconst 1, 1) := by decide +kernel
theorem dX12_ordersBy_49 : decode cX12_ordersBy 49 = .ok (.iastore, 1) := by decide +kernel
theorem dX12_ordersBy_50 : decode cX12_ordersBy 50 = .ok (.iconst 0, 1) := by decide +kernel
theorem dX12_ordersBy_51 : decode cX12_ordersBy 51 = .ok (.istore_n 3, 1) := by decide +kernel
theorem dX12_ordersBy_52 : decode cX12_ordersBy 52 = .ok (.iload_n 3, 1) := by decide +kernel
theorem dX12_ordersBy_53 : decode cX12_ordersBy 53 = .ok (.bipush 6, 2) := by decide +kernel
theorem dX12_ordersBy_55 : decode cX12_ordersBy 55 = .ok (.if_icmp .ge 42, 3) := by decide +kernel
theorem dX12_ordersBy_58 : decode cX12_ordersBy 58 = .ok (.aload_n 0, 1) := by decide +kernel
theorem dX12_ordersBy_59 : decode cX12_ordersBy 59 = .ok (.getfield 56, 3) := by decide +kernel
theorem dX12_ordersBy_62 : decode cX12_ordersBy 62 = .ok (.iload_n 2, 1) := by decide +kernel
theorem dX12_ordersBy_63 : decode cX12_ordersBy 63 = .ok (.dup2, 1) := by decide +kernel
theorem dX12_ordersBy_64 : decode cX12_ordersBy 64 = .ok (.iaload, 1) := by decide +kernel
theorem dX12_ordersBy_65 : decode cX12_ordersBy 65 = .ok (.iload_n 2, 1) := by decide +kernel
theorem dX12_ordersBy_66 : decode cX12_ordersBy 66 = .ok (.iload_n 3, 1) := by decide +kernel
theorem dX12_ordersBy_67 : decode cX12_ordersBy 67 = .ok (.invokestatic 206, 3) := by decide +kernel
theorem dX12_ordersBy_70 : decode cX12_ordersBy 70 = .ok (.ifCond .eq 18, 3) := by decide +kernel
theorem dX12_ordersBy_73 : decode cX12_ordersBy 73 = .ok (.aload_n 0, 1) := by decide +kernel
theorem dX12_ordersBy_74 : decode cX12_ordersBy 74 = .ok (.getfield 56, 3) := by decide +kernel
theorem dX12_ordersBy_77 : decode cX12_ordersBy 77 = .ok (.iload_n 2, 1) := by decide +kernel
theorem dX12_ordersBy_78 : decode cX12_ordersBy 78 = .ok (.iconst 1, 1) := by decide +kernel
theorem dX12_ordersBy_79 : decode cX12_ordersBy 79 = .ok (.iload_n 3, 1) := by decide +kernel
theorem dX12_ordersBy_80 : decode cX12_ordersBy 80 = .ok (.ishl, 1) := by decide +kernel
theorem dX12_ordersBy_81 : decode cX12_ordersBy 81 = .ok (.iconst (-1), 1) := by decide +kernel
theorem dX12_ordersBy_82 : decode cX12_ordersBy 82 = .ok (.ixor, 1) := by decide +kernel
theorem dX12_ordersBy_83 : decode cX12_ordersBy 83 = .ok (.iand, 1) := by decide +kernel
theorem dX12_ordersBy_84 : decode cX12_ordersBy 84 = .ok (.iaload, 1) := by decide +kernel
theorem dX12_ordersBy_85 : decode cX12_ordersBy 85 = .ok (.goto 4, 3) := by decide +kernel
theorem dX12_ordersBy_88 : decode cX12_ordersBy 88 = .ok (.iconst 0, 1) := by decide +kernel
theorem dX12_ordersBy_89 : decode cX12_ordersBy 89 = .ok (.iadd, 1) := by decide +kernel
theorem dX12_ordersBy_90 : decode cX12_ordersBy 90 = .ok (.iastore, 1) := by decide +kernel
theorem dX12_ordersBy_91 : decode cX12_ordersBy 91 = .ok (.iinc 3 1, 3) := by decide +kernel
theorem dX12_ordersBy_94 : decode cX12_ordersBy 94 = .ok (.goto (-42), 3) := by decide +kernel
theorem dX12_ordersBy_97 : decode cX12_ordersBy 97 = .ok (.iinc 2 1, 3) := by decide +kernel
theorem dX12_ordersBy_100 : decode cX12_ordersBy 100 = .ok (.goto (-98), 3) := by decide +kernel
theorem dX12_ordersBy_103 : decode cX12_ordersBy 103 = .ok (.return_, 1) := by decide +kernel
set_option maxHeartbeats 4000000 in
theorem w_l_M_ordersBy_1 {ad wad : Nat → Nat} {Γ : Ctx} (F : Nat) {n : Nat} (hn : 6 ≤ n) (hG : Cx SHm ad wad cX12_ordersBy 4 RX12 none (n) Γ) {q : Unit × HS} {x1 : Int32} {x2 : Int32} {K0 : HS → Option (Unit × HS)} {g : Nat} {x3 : Int32} {h : HS} (hd : l_M_ordersBy_1 F x1 x2 K0 g x3 h = some q) (hK0 : ∀ (z : HS), K0 z = some q → AW SHm ad 4 (none, q.2) Γ 97 [(0, .ref (ad 0)), (1, .int x1), (2, .int x2)] [] z) : AW SHm ad 4 (none, q.2) Γ 52 [(0, .ref (ad 0)), (1, .int x1), (2, .int x2), (3, .int x3)] [] h := by
  induction g generalizing x3 h with
  | zero => unfold l_M_ordersBy_1 at hd; cases hd
  | succ g ih =>
    unfold l_M_ordersBy_1 at hd
    refine a_iload_n (pc := 52) hG 3 rfl dX12_ordersBy_52 rfl ?_
    refine a_bipush (pc := 53) hG dX12_ordersBy_53 (v := (nI 6)) rfl ?_
    refine a_ic_ge (pc := 55) hG (tgt := 97) hd dX12_ordersBy_55 (by decide) (fun hd => ?_) (fun hd => ?_)
    · exact AW.sub [0, 1, 2] rfl (hK0  _ hd)
    refine a_aload_n (pc := 58) hG 0 rfl dX12_ordersBy_58 rfl ?_
    refine a_getR (pc := 59) hG sm_0 cl_X12 ok_X12 24 (by decide) rfl t_1633 dX12_ordersBy_59 ?_
    refine a_iload_n (pc := 62) hG 2 rfl dX12_ordersBy_62 rfl ?_
    refine a_dup2 (pc := 63) hG dX12_ordersBy_63 rfl rfl ?_
    refine a_iald (pc := 64) hG sm_9 hd dX12_ordersBy_64 (fun hd => ?_)
    refine a_iload_n (pc := 65) hG 2 rfl dX12_ordersBy_65 rfl ?_
    refine a_iload_n (pc := 66) hG 3 rfl dX12_ordersBy_66 rfl ?_
    refine a_csI (pc := 67) hG (As := [.int x2, .int x3]) (st := [.int (h.1 9 x2.toNatClampNeg), .int x2, .ref (ad 9)]) mk_X12_bitOf t_1780 (by omega) (fun z hz => c_M_bitOf x2 x3 _  z hz) rfl (Nat.le_of_ble_eq_true rfl) hd dX12_ordersBy_67 (fun r14 h13 hd => ?_)
    refine a_join hd (Q := fun J : Int32 → HS → Option (Unit × HS) => ∀ (v16 : Int32) (h17 : HS), J v16 h17 = some q → AW SHm ad 4 (none, q.2) Γ 89 [(0, .ref (ad 0)), (1, .int x1), (2, .int x2), (3, .int x3)] [.int v16, .int (h.1 9 x2.toNatClampNeg), .int x2, .ref (ad 9)] h17) (fun v16 h17 hd => ?_) (fun J15 hJ15 hd => ?_)
    · refine a_iadd (pc := 89) hG dX12_ordersBy_89 ?_
      refine a_iast (pc := 90) hG sm_9 hd dX12_ordersBy_90 (fun h18 hd => ?_)
      refine a_iincN (pc := 91) hG (c0 := (nI 1)) 3 rfl hd dX12_ordersBy_91 rfl (by decide) (lf := fun x => [(3, .int x), (0, .ref (ad 0)), (1, .int x1), (2, .int x2)]) (fun _ => rfl) (fun v19 hd => ?_)
      refine a_goto (pc := 94) hG (tgt := 52) dX12_ordersBy_94 (by decide) ?_
      exact AW.sub [1, 2, 3, 0] rfl (ih hd)
    refine a_if_eq (pc := 70) hG (tgt := 88) hd dX12_ordersBy_70 (by decide) (fun hd => ?_) (fun hd => ?_)
    · refine a_iconst (pc := 88) hG dX12_ordersBy_88 (v := (nI 0)) rfl ?_
      exact AW.sub [0, 1, 2, 3] rfl (hJ15 _ _ hd)
    refine a_aload_n (pc := 73) hG 0 rfl dX12_ordersBy_73 rfl ?_
    refine a_getR (pc := 74) hG sm_0 cl_X12 ok_X12 24 (by decide) rfl t_1633 dX12_ordersBy_74 ?_
    refine a_iload_n (pc := 77) hG 2 rfl dX12_ordersBy_77 rfl ?_
    refine a_iconst (pc := 78) hG dX12_ordersBy_78 (v := (nI 1)) rfl ?_
    refine a_iload_n (pc := 79) hG 3 rfl dX12_ordersBy_79 rfl ?_
    refine a_ishl (pc := 80) hG dX12_ordersBy_80 ?_
    refine a_iconst (pc := 81) hG dX12_ordersBy_81 (v := (-1 : Int32)) rfl ?_
    refine a_ixor (pc := 82) hG dX12_ordersBy_82 ?_
    refine a_iand (pc := 83) hG dX12_ordersBy_83 ?_
    refine a_iald (pc := 84) hG sm_9 hd dX12_ordersBy_84 (fun hd => ?_)
    refine a_goto (pc := 85) hG (tgt := 89) dX12_ordersBy_85 (by decide) ?_
    exact AW.sub [0, 1, 2, 3] rfl (hJ15 _ _ hd)
set_option maxHeartbeats 4000000 in
theorem w_l_M_ordersBy_0 {ad wad : Nat → Nat} {Γ : Ctx} (F : Nat) {n : Nat} (hn : 6 ≤ n) (hG : Cx SHm ad wad cX12_ordersBy 4 RX12 none (n) Γ) {q : Unit × HS} {x1 : Int32} {g : Nat} {x2 : Int32} {h : HS} (hd : l_M_ordersBy_0 F x1 g x2 h = some q) : AW SHm ad 4 (none, q.2) Γ 2 [(0, .ref (ad 0)), (1, .int x1), (2, .int x2)] [] h := by
  induction g generalizing x2 h with
  | zero => unfold l_M_ordersBy_0 at hd; cases hd
  | succ g ih =>
    unfold l_M_ordersBy_0 at hd
    refine a_iload_n (pc := 2) hG 2 rfl dX12_ordersBy_2 rfl ?_
    refine a_bipush (pc := 3) hG dX12_ordersBy_3 (v := (nI 64)) rfl ?_
    refine a_ic_ge (pc := 5) hG (tgt := 103) hd dX12_ordersBy_5 (by decide) (fun hd => ?_) (fun hd => ?_)
    · exact a_vret (pc := 103) hG hd dX12_ordersBy_103
    refine a_aload_n (pc := 8) hG 0 rfl dX12_ordersBy_8 rfl ?_
    refine a_getR (pc := 9) hG sm_0 cl_X12 ok_X12 24 (by decide) rfl t_1633 dX12_ordersBy_9 ?_
    refine a_iload_n (pc := 12) hG 2 rfl dX12_ordersBy_12 rfl ?_
    refine a_iconst (pc := 13) hG dX12_ordersBy_13 (v := (nI 0)) rfl ?_
    refine a_iast (pc := 14) hG sm_9 hd dX12_ordersBy_14 (fun h2 hd => ?_)
    refine a_iload_n (pc := 15) hG 2 rfl dX12_ordersBy_15 rfl ?_
    refine a_aload_n (pc := 16) hG 0 rfl dX12_ordersBy_16 rfl ?_
    refine a_iload_n (pc := 17) hG 1 rfl dX12_ordersBy_17 rfl ?_
    refine a_cvI (pc := 18) hG (As := [.int x1]) (st := [.int x2]) sm_0 cl_X12 mk_X12_free t_1964 (by omega) (fun z hz => c_M_free x1 _  z hz) rfl (Nat.le_of_ble_eq_true rfl) hd dX12_ordersBy_18 (fun r4 h3 hd => ?_)
    refine a_iconst (pc := 21) hG dX12_ordersBy_21 (v := (-1 : Int32)) rfl ?_
    refine a_ixor (pc := 22) hG dX12_ordersBy_22 ?_
    refine a_iand (pc := 23) hG dX12_ordersBy_23 ?_
    refine a_join hd (Q := fun J : HS → Option (Unit × HS) => ∀  (h6 : HS), J  h6 = some q → AW SHm ad 4 (none, q.2) Γ 97 [(0, .ref (ad 0)), (1, .int x1), (2, .int x2)] [] h6) (fun  h6 hd => ?_) (fun J5 hJ5 hd => ?_)
    · refine a_iincN (pc := 97) hG (c0 := (nI 1)) 2 rfl hd dX12_ordersBy_97 rfl (by decide) (lf := fun x => [(2, .int x), (0, .ref (ad 0)), (1, .int x1)]) (fun _ => rfl) (fun v7 hd => ?_)
      refine a_goto (pc := 100) hG (tgt := 2) dX12_ordersBy_100 (by decide) ?_
      exact AW.sub [1, 2, 0] rfl (ih hd)
    refine a_if_ne (pc := 24) hG (tgt := 97) hd dX12_ordersBy_24 (by decide) (fun hd => ?_) (fun hd => ?_)
    · exact AW.sub [0, 1, 2] rfl (hJ5  _ hd)
    refine a_aload_n (pc := 27) hG 0 rfl dX12_ordersBy_27 rfl ?_
    refine a_iload_n (pc := 28) hG 1 rfl dX12_ordersBy_28 rfl ?_
    refine a_iload_n (pc := 29) hG 2 rfl dX12_ordersBy_29 rfl ?_
    refine a_cvI (pc := 30) hG (As := [.int x1, .int x2]) (st := []) sm_0 cl_X12 mk_X12_isSafe t_1889 (by omega) (fun z hz => c_M_isSafe F x1 x2 _  z hz) rfl (Nat.le_of_ble_eq_true rfl) hd dX12_ordersBy_30 (fun r9 h8 hd => ?_)
    refine a_if_ne (pc := 33) hG (tgt := 39) hd dX12_ordersBy_33 (by decide) (fun hd => ?_) (fun hd => ?_)
    · refine a_iload_n (pc := 39) hG 2 rfl dX12_ordersBy_39 rfl ?_
      refine a_join hd (Q := fun J : HS → Option (Unit × HS) => ∀  (h11 : HS), J  h11 = some q → AW SHm ad 4 (none, q.2) Γ 50 [(0, .ref (ad 0)), (1, .int x1), (2, .int x2)] [] h11) (fun  h11 hd => ?_) (fun J10 hJ10 hd => ?_)
      · refine a_iconst (pc := 50) hG dX12_ordersBy_50 (v := (nI 0)) rfl ?_
        refine a_istore_nN (pc := 51) hG hd dX12_ordersBy_51 rfl (by decide) (lf := fun x => [(3, .int x), (0, .ref (ad 0)), (1, .int x1), (2, .int x2)]) (fun _ => rfl) (fun v12 hd => ?_)
        refine AW.sub [1, 2, 3, 0] rfl ?_
        refine w_l_M_ordersBy_1 F (by omega) hG hd (fun h20 hd => ?_)
        exact AW.sub [0, 1, 2] rfl (hJ5  _ hd)
      refine a_if_ne (pc := 40) hG (tgt := 50) hd dX12_ordersBy_40 (by decide) (fun hd => ?_) (fun hd => ?_)
      · exact AW.sub [0, 1, 2] rfl (hJ10  _ hd)
      refine a_aload_n (pc := 43) hG 0 rfl dX12_ordersBy_43 rfl ?_
      refine a_getR (pc := 44) hG sm_0 cl_X12 ok_X12 24 (by decide) rfl t_1633 dX12_ordersBy_44 ?_
      refine a_iconst (pc := 47) hG dX12_ordersBy_47 (v := (nI 0)) rfl ?_
      refine a_iconst (pc := 48) hG dX12_ordersBy_48 (v := (nI 1)) rfl ?_
      refine a_iast (pc := 49) hG sm_9 hd dX12_ordersBy_49 (fun h21 hd => ?_)
      exact AW.sub [0, 1, 2] rfl (hJ10  _ hd)
    refine a_goto (pc := 36) hG (tgt := 97) dX12_ordersBy_36 (by decide) ?_
    exact AW.sub [0, 1, 2] rfl (hJ5  _ hd)
set_option maxHeartbeats 4000000 in
theorem c_M_ordersBy {ad wad : Nat → Nat} (F : Nat) (a0 : Int32) (h : HS)  (q : Unit × HS) (hd : f_M_ordersBy F a0 h = some q) : Ctr SHm ad wad yX12_ordersBy cX12_ordersBy 4 none 6 [.ref (ad 0), .int a0] h (none, q.2) := by
  refine enter (own := RX12) (lv := [(0, .ref (ad 0)), (1, .int a0)]) (by decide +kernel) rfl (Nat.le_of_ble_eq_true rfl) rfl (fun Γ hG => ?_)
  unfold f_M_ordersBy at hd
  refine a_iconst (pc := 0) hG dX12_ordersBy_0 (v := (nI 0)) rfl ?_
  refine a_istore_nN (pc := 1) hG hd dX12_ordersBy_1 rfl (by decide) (lf := fun x => [(2, .int x), (0, .ref (ad 0)), (1, .int a0)]) (fun _ => rfl) (fun v1 hd => ?_)
  refine AW.sub [1, 2, 0] rfl ?_
  exact w_l_M_ordersBy_0 F (by omega) hG hd
theorem dX12_bits_0 : decode cX12_bits 0 = .ok (.iconst 0, 1) := by decide +kernel
theorem dX12_bits_1 : decode cX12_bits 1 = .ok (.istore_n 1, 1) := by decide +kernel
theorem dX12_bits_2 : decode cX12_bits 2 = .ok (.iload_n 0, 1) := by decide +kernel
theorem dX12_bits_3 : decode cX12_bits 3 = .ok (.istore_n 2, 1) := by decide +kernel
theorem dX12_bits_4 : decode cX12_bits 4 = .ok (.iload_n 2, 1) := by decide +kernel
theorem dX12_bits_5 : decode cX12_bits 5 = .ok (.ifCond .eq 15, 3) := by decide +kernel
theorem dX12_bits_8 : decode cX12_bits 8 = .ok (.iinc 1 1, 3) := by decide +kernel
theorem dX12_bits_11 : decode cX12_bits 11 = .ok (.iload_n 2, 1) := by decide +kernel
theorem dX12_bits_12 : decode cX12_bits 12 = .ok (.iload_n 2, 1) := by decide +kernel
theorem dX12_bits_13 : decode cX12_bits 13 = .ok (.iconst 1, 1) := by decide +kernel
theorem dX12_bits_14 : decode cX12_bits 14 = .ok (.isub, 1) := by decide +kernel
theorem dX12_bits_15 : decode cX12_bits 15 = .ok (.iand, 1) := by decide +kernel
theorem dX12_bits_16 : decode cX12_bits 16 = .ok (.istore_n 2, 1) := by decide +kernel
theorem dX12_bits_17 : decode cX12_bits 17 = .ok (.goto (-13), 3) := by decide +kernel
theorem dX12_bits_20 : decode cX12_bits 20 = .ok (.iload_n 1, 1) := by decide +kernel
theorem dX12_bits_21 : decode cX12_bits 21 = .ok (.ireturn, 1) := by decide +kernel
set_option maxHeartbeats 4000000 in
theorem w_l_M_bits_0 {ad wad : Nat → Nat} {Γ : Ctx} (F : Nat) {n : Nat} (hn : 1 ≤ n) (hG : Cx SHm ad wad cX12_bits 3 RX12 (some .int) (n) Γ) {q : Int32 × HS} {g : Nat} {x1 : Int32} {x2 : Int32} {h : HS} (hd : l_M_bits_0 F g x1 x2 h = some q) : AW SHm ad 3 (some (.int q.1), q.2) Γ 4 [(1, .int x1), (2, .int x2)] [] h := by
  induction g generalizing x1 x2 h with
  | zero => unfold l_M_bits_0 at hd; cases hd
  | succ g ih =>
    unfold l_M_bits_0 at hd
    refine a_iload_n (pc := 4) hG 1 rfl dX12_bits_4 rfl ?_
    refine a_if_eq (pc := 5) hG (tgt := 20) hd dX12_bits_5 (by decide) (fun hd => ?_) (fun hd => ?_)
    · refine a_iload_n (pc := 20) hG 0 rfl dX12_bits_20 rfl ?_
      exact a_iret (pc := 21) hG hd dX12_bits_21
    refine a_iincN (pc := 8) hG (c0 := (nI 1)) 0 rfl hd dX12_bits_8 rfl (by decide) (lf := fun x => [(1, .int x), (2, .int x2)]) (fun _ => rfl) (fun v3 hd => ?_)
    refine a_iload_n (pc := 11) hG 1 rfl dX12_bits_11 rfl ?_
    refine a_iload_n (pc := 12) hG 1 rfl dX12_bits_12 rfl ?_
    refine a_iconst (pc := 13) hG dX12_bits_13 (v := (nI 1)) rfl ?_
    refine a_isub (pc := 14) hG dX12_bits_14 ?_
    refine a_iand (pc := 15) hG dX12_bits_15 ?_
    refine a_istore_nN (pc := 16) hG hd dX12_bits_16 rfl (by decide) (lf := fun x => [(2, .int x), (1, .int v3)]) (fun _ => rfl) (fun v4 hd => ?_)
    refine a_goto (pc := 17) hG (tgt := 4) dX12_bits_17 (by decide) ?_
    exact AW.sub [1, 0] rfl (ih hd)
set_option maxHeartbeats 4000000 in
theorem c_M_bits {ad wad : Nat → Nat} (F : Nat) (a0 : Int32) (h : HS)  (q : Int32 × HS) (hd : f_M_bits F a0 h = some q) : Ctr SHm ad wad yX12_bits cX12_bits 3 (some .int) 1 [.int a0] h (some (.int q.1), q.2) := by
  refine enter (own := RX12) (lv := [(0, .int a0)]) (by decide +kernel) rfl (Nat.le_of_ble_eq_true rfl) rfl (fun Γ hG => ?_)
  unfold f_M_bits at hd
  refine a_iconst (pc := 0) hG dX12_bits_0 (v := (nI 0)) rfl ?_
  refine a_istore_nN (pc := 1) hG hd dX12_bits_1 rfl (by decide) (lf := fun x => [(1, .int x), (0, .int a0)]) (fun _ => rfl) (fun v1 hd => ?_)
  refine a_iload_n (pc := 2) hG 1 rfl dX12_bits_2 rfl ?_
  refine a_istore_nN (pc := 3) hG hd dX12_bits_3 rfl (by decide) (lf := fun x => [(2, .int x), (1, .int v1), (0, .int a0)]) (fun _ => rfl) (fun v2 hd => ?_)
  refine AW.sub [1, 0] rfl ?_
  exact w_l_M_bits_0 F (by omega) hG hd
theorem dX12_nearestOf_0 : decode cX12_nearestOf 0 = .ok (.aload_n 0, 1) := by decide +kernel
theorem dX12_nearestOf_1 : decode cX12_nearestOf 1 = .ok (.iload_n 1, 1) := by decide +kernel
theorem dX12_nearestOf_2 : decode cX12_nearestOf 2 = .ok (.invokevirtual 313, 3) := by decide +kernel
theorem dX12_nearestOf_5 : decode cX12_nearestOf 5 = .ok (.iconst (-1), 1) := by decide +kernel
theorem dX12_nearestOf_6 : decode cX12_nearestOf 6 = .ok (.istore_n 3, 1) := by decide +kernel
theorem dX12_nearestOf_7 : decode cX12_nearestOf 7 = .ok (.iconst 0, 1) := by decide +kernel
theorem dX12_nearestOf_8 : decode cX12_nearestOf 8 = .ok (.istore 4, 2) := by decide +kernel
theorem dX12_nearestOf_10 : decode cX12_nearestOf 10 = .ok (.iload 4, 2) := by decide +kernel
theorem dX12_nearestOf_12 : decode cX12_nearestOf 12 = .ok (.bipush 64, 2) := by decide +kernel
theorem dX12_nearestOf_14 : decode cX12_nearestOf 14 = .ok (.if_icmp .ge 101, 3) := by decide +kernel
theorem dX12_nearestOf_17 : decode cX12_nearestOf 17 = .ok (.aload_n 0, 1) := by decide +kernel
theorem dX12_nearestOf_18 : decode cX12_nearestOf 18 = .ok (.getfield 56, 3) := by decide +kernel
theorem dX12_nearestOf_21 : decode cX12_nearestOf 21 = .ok (.iload 4, 2) := by decide +kernel
theorem dX12_nearestOf_23 : decode cX12_nearestOf 23 = .ok (.iaload, 1) := by decide +kernel
theorem dX12_nearestOf_24 : decode cX12_nearestOf 24 = .ok (.ifCond .eq 85, 3) := by decide +kernel
theorem dX12_nearestOf_27 : decode cX12_nearestOf 27 = .ok (.iload 4, 2) := by decide +kernel
theorem dX12_nearestOf_29 : decode cX12_nearestOf 29 = .ok (.invokestatic 316, 3) := by decide +kernel
theorem dX12_nearestOf_32 : decode cX12_nearestOf 32 = .ok (.iload_n 2, 1) := by decide +kernel
theorem dX12_nearestOf_33 : decode cX12_nearestOf 33 = .ok (.if_icmp .le 6, 3) := by decide +kernel
theorem dX12_nearestOf_36 : decode cX12_nearestOf 36 = .ok (.goto 73, 3) := by decide +kernel
theorem dX12_nearestOf_39 : decode cX12_nearestOf 39 = .ok (.iload_n 3, 1) := by decide +kernel
theorem dX12_nearestOf_40 : decode cX12_nearestOf 40 = .ok (.ifCond .ge 7, 3) := by decide +kernel
theorem dX12_nearestOf_43 : decode cX12_nearestOf 43 = .ok (.iconst 1, 1) := by decide +kernel
theorem dX12_nearestOf_44 : decode cX12_nearestOf 44 = .ok (.goto 32, 3) := by decide +kernel
theorem dX12_nearestOf_47 : decode cX12_nearestOf 47 = .ok (.aload_n 0, 1) := by decide +kernel
theorem dX12_nearestOf_48 : decode cX12_nearestOf 48 = .ok (.iload_n 1, 1) := by decide +kernel
theorem dX12_nearestOf_49 : decode cX12_nearestOf 49 = .ok (.iload 4, 2) := by decide +kernel
theorem dX12_nearestOf_51 : decode cX12_nearestOf 51 = .ok (.invokevirtual 243, 3) := by decide +kernel
theorem dX12_nearestOf_54 : decode cX12_nearestOf 54 = .ok (.aload_n 0, 1) := by decide +kernel
theorem dX12_nearestOf_55 : decode cX12_nearestOf 55 = .ok (.iload_n 1, 1) := by decide +kernel
theorem dX12_nearestOf_56 : decode cX12_nearestOf 56 = .ok (.iload_n 3, 1) := by decide +kernel
theorem dX12_nearestOf_57 : decode cX12_nearestOf 57 = .ok (.invokevirtual 246, 3) := by decide +kernel
theorem dX12_nearestOf_60 : decode cX12_nearestOf 60 = .ok (.imul, 1) := by decide +kernel
theorem dX12_nearestOf_61 : decode cX12_nearestOf 61 = .ok (.aload_n 0, 1) := by decide +kernel
theorem dX12_nearestOf_62 : decode cX12_nearestOf 62 = .ok (.iload_n 1, 1) := by decide +kernel
theorem dX12_nearestOf_63 : decode cX12_nearestOf 63 = .ok (.iload_n 3, 1) := by decide +kernel
theorem dX12_nearestOf_64 : decode cX12_nearestOf 64 = .ok (.invokevirtual 243, 3) := by decide +kernel
theorem dX12_nearestOf_67 : decode cX12_nearestOf 67 = .ok (.aload_n 0, 1) := by decide +kernel
theorem dX12_nearestOf_68 : decode cX12_nearestOf 68 = .ok (.iload_n 1, 1) := by decide +kernel
theorem dX12_nearestOf_69 : decode cX12_nearestOf 69 = .ok (.iload 4, 2) := by decide +kernel
theorem dX12_nearestOf_71 : decode cX12_nearestOf 71 = .ok (.invokevirtual 246, 3) := by decide +kernel
theorem dX12_nearestOf_74 : decode cX12_nearestOf 74 = .ok (.imul, 1) := by decide +kernel
theorem dX12_nearestOf_75 : decode cX12_nearestOf 75 = .ok (.isub, 1) := by decide +kernel
theorem dX12_nearestOf_76 : decode cX12_nearestOf 76 = .ok (.istore 5, 2) := by decide +kernel
theorem dX12_nearestOf_78 : decode cX12_nearestOf 78 = .ok (.iload 5, 2) := by decide +kernel
theorem dX12_nearestOf_80 : decode cX12_nearestOf 80 = .ok (.ifCond .gt 26, 3) := by decide +kernel
theorem dX12_nearestOf_83 : decode cX12_nearestOf 83 = .ok (.iload 5, 2) := by decide +kernel
theorem dX12_nearestOf_85 : decode cX12_nearestOf 85 = .ok (.ifCond .ne 24, 3) := by decide +kernel
theorem dX12_nearestOf_88 : decode cX12_nearestOf 88 = .ok (.aload_n 0, 1) := by decide +kernel
theorem dX12_nearestOf_89 : decode cX12_nearestOf 89 = .ok (.bipush 61, 2) := by decide +kernel
theorem dX12_nearestOf_91 : decode cX12_nearestOf 91 = .ok (.iload 4, 2) := by decide +kernel
theorem dX12_nearestOf_93 : decode cX12_nearestOf 93 = .ok (.invokevirtual 240, 3) := by decide +kernel
theorem dX12_nearestOf_96 : decode cX12_nearestOf 96 = .ok (.aload_n 0, 1) := by decide +kernel
theorem dX12_nearestOf_97 : decode cX12_nearestOf 97 = .ok (.bipush 61, 2) := by decide +kernel
theorem dX12_nearestOf_99 : decode cX12_nearestOf 99 = .ok (.iload_n 3, 1) := by decide +kernel
theorem dX12_nearestOf_100 : decode cX12_nearestOf 100 = .ok (.invokevirtual 240, 3) := by decide +kernel
theorem dX12_nearestOf_103 : decode cX12_nearestOf 103 = .ok (.if_icmp .ge 6, 3) := by decide +kernel
theorem dX12_nearestOf_106 : decode cX12_nearestOf 106 = .ok (.iload 4, 2) := by decide +kernel
theorem dX12_nearestOf_108 : decode cX12_nearestOf 108 = .ok (.istore_n 3, 1) := by decide +kernel
theorem dX12_nearestOf_109 : decode cX12_nearestOf 109 = .ok (.iinc 4 1, 3) := by decide +kernel
theorem dX12_nearestOf_112 : decode cX12_nearestOf 112 = .ok (.goto (-102), 3) := by decide +kernel
theorem dX12_nearestOf_115 : decode cX12_nearestOf 115 = .ok (.iload_n 3, 1) := by decide +kernel
theorem dX12_nearestOf_116 : decode cX12_nearestOf 116 = .ok (.ireturn, 1) := by decide +kernel
set_option maxHeartbeats 4000000 in
theorem w_l_M_nearestOf_0 {ad wad : Nat → Nat} {Γ : Ctx} (F : Nat) {n : Nat} (hn : 7 ≤ n) (hG : Cx SHm ad wad cX12_nearestOf 6 RX12 (some .int) (n) Γ) {q : Int32 × HS} {x1 : Int32} {x2 : Int32} {g : Nat} {x3 : Int32} {x4 : Int32} {h : HS} (hd : l_M_nearestOf_0 F x1 x2 g x3 x4 h = some q) : AW SHm ad 6 (some (.int q.1), q.2) Γ 10 [(0, .ref (ad 0)), (1, .int x1), (2, .int x2), (3, .int x3), (4, .int x4)] [] h := by
  induction g generalizing x3 x4 h with
  | zero => unfold l_M_nearestOf_0 at hd; cases hd
  | succ g ih =>
    unfold l_M_nearestOf_0 at hd
    refine a_iload (pc := 10) hG 4 rfl dX12_nearestOf_10 ?_
    refine a_bipush (pc := 12) hG dX12_nearestOf_12 (v := (nI 64)) rfl ?_
    refine a_ic_ge (pc := 14) hG (tgt := 115) hd dX12_nearestOf_14 (by decide) (fun hd => ?_) (fun hd => ?_)
    · refine a_iload_n (pc := 115) hG 3 rfl dX12_nearestOf_115 rfl ?_
      exact a_iret (pc := 116) hG hd dX12_nearestOf_116
    refine a_aload_n (pc := 17) hG 0 rfl dX12_nearestOf_17 rfl ?_
    refine a_getR (pc := 18) hG sm_0 cl_X12 ok_X12 24 (by decide) rfl t_1633 dX12_nearestOf_18 ?_
    refine a_iload (pc := 21) hG 4 rfl dX12_nearestOf_21 ?_
    refine a_iald (pc := 23) hG sm_9 hd dX12_nearestOf_23 (fun hd => ?_)
    refine a_join hd (Q := fun J : Int32 → HS → Option (Int32 × HS) => ∀ (v5 : Int32) (h6 : HS), J v5 h6 = some q → AW SHm ad 6 (some (.int q.1), q.2) Γ 109 [(0, .ref (ad 0)), (1, .int x1), (2, .int x2), (3, .int v5), (4, .int x4)] [] h6) (fun v5 h6 hd => ?_) (fun J4 hJ4 hd => ?_)
    · refine a_iincN (pc := 109) hG (c0 := (nI 1)) 4 rfl hd dX12_nearestOf_109 rfl (by decide) (lf := fun x => [(4, .int x), (0, .ref (ad 0)), (1, .int x1), (2, .int x2), (3, .int v5)]) (fun _ => rfl) (fun v7 hd => ?_)
      refine a_goto (pc := 112) hG (tgt := 10) dX12_nearestOf_112 (by decide) ?_
      exact AW.sub [1, 2, 3, 4, 0] rfl (ih hd)
    refine a_if_eq (pc := 24) hG (tgt := 109) hd dX12_nearestOf_24 (by decide) (fun hd => ?_) (fun hd => ?_)
    · exact AW.sub [0, 1, 2, 3, 4] rfl (hJ4 _ _ hd)
    refine a_iload (pc := 27) hG 4 rfl dX12_nearestOf_27 ?_
    refine a_csI (pc := 29) hG (As := [.int x4]) (st := []) mk_X12_bits t_1968 (by omega) (fun z hz => c_M_bits F x4 _  z hz) rfl (Nat.le_of_ble_eq_true rfl) hd dX12_nearestOf_29 (fun r9 h8 hd => ?_)
    refine a_iload_n (pc := 32) hG 2 rfl dX12_nearestOf_32 rfl ?_
    refine a_ic_le (pc := 33) hG (tgt := 39) hd dX12_nearestOf_33 (by decide) (fun hd => ?_) (fun hd => ?_)
    · refine a_iload_n (pc := 39) hG 3 rfl dX12_nearestOf_39 rfl ?_
      refine a_join hd (Q := fun J : Int32 → HS → Option (Int32 × HS) => ∀ (v11 : Int32) (h12 : HS), J v11 h12 = some q → AW SHm ad 6 (some (.int q.1), q.2) Γ 76 [(0, .ref (ad 0)), (1, .int x1), (2, .int x2), (3, .int x3), (4, .int x4)] [.int v11] h12) (fun v11 h12 hd => ?_) (fun J10 hJ10 hd => ?_)
      · refine a_istoreN (pc := 76) hG hd dX12_nearestOf_76 (by decide) (lf := fun x => [(5, .int x), (0, .ref (ad 0)), (1, .int x1), (2, .int x2), (3, .int x3), (4, .int x4)]) (fun _ => rfl) (fun v13 hd => ?_)
        refine a_iload (pc := 78) hG 0 rfl dX12_nearestOf_78 ?_
        refine a_join hd (Q := fun J : HS → Option (Int32 × HS) => ∀  (h15 : HS), J  h15 = some q → AW SHm ad 6 (some (.int q.1), q.2) Γ 106 [(0, .ref (ad 0)), (1, .int x1), (2, .int x2), (4, .int x4)] [] h15) (fun  h15 hd => ?_) (fun J14 hJ14 hd => ?_)
        · refine a_iload (pc := 106) hG 3 rfl dX12_nearestOf_106 ?_
          refine a_istore_nN (pc := 108) hG hd dX12_nearestOf_108 rfl (by decide) (lf := fun x => [(3, .int x), (0, .ref (ad 0)), (1, .int x1), (2, .int x2), (4, .int x4)]) (fun _ => rfl) (fun v16 hd => ?_)
          exact AW.sub [1, 2, 3, 0, 4] rfl (hJ4 _ _ hd)
        refine a_if_gt (pc := 80) hG (tgt := 106) hd dX12_nearestOf_80 (by decide) (fun hd => ?_) (fun hd => ?_)
        · exact AW.sub [1, 2, 3, 5] rfl (hJ14  _ hd)
        refine a_iload (pc := 83) hG 0 rfl dX12_nearestOf_83 ?_
        refine a_if_ne (pc := 85) hG (tgt := 109) hd dX12_nearestOf_85 (by decide) (fun hd => ?_) (fun hd => ?_)
        · exact AW.sub [1, 2, 3, 4, 5] rfl (hJ4 _ _ hd)
        refine a_aload_n (pc := 88) hG 1 rfl dX12_nearestOf_88 rfl ?_
        refine a_bipush (pc := 89) hG dX12_nearestOf_89 (v := (nI 61)) rfl ?_
        refine a_iload (pc := 91) hG 5 rfl dX12_nearestOf_91 ?_
        refine a_cvI (pc := 93) hG (As := [.int (nI 61), .int x4]) (st := []) sm_0 cl_X12 mk_X12_sum t_1846 (by omega) (fun z hz => c_M_sum F (nI 61) x4 _  z hz) rfl (Nat.le_of_ble_eq_true rfl) hd dX12_nearestOf_93 (fun r18 h17 hd => ?_)
        refine a_aload_n (pc := 96) hG 1 rfl dX12_nearestOf_96 rfl ?_
        refine a_bipush (pc := 97) hG dX12_nearestOf_97 (v := (nI 61)) rfl ?_
        refine a_iload_n (pc := 99) hG 4 rfl dX12_nearestOf_99 rfl ?_
        refine a_cvI (pc := 100) hG (As := [.int (nI 61), .int x3]) (st := [.int r18]) sm_0 cl_X12 mk_X12_sum t_1846 (by omega) (fun z hz => c_M_sum F (nI 61) x3 _  z hz) rfl (Nat.le_of_ble_eq_true rfl) hd dX12_nearestOf_100 (fun r20 h19 hd => ?_)
        refine a_ic_ge (pc := 103) hG (tgt := 109) hd dX12_nearestOf_103 (by decide) (fun hd => ?_) (fun hd => ?_)
        · exact AW.sub [1, 2, 3, 4, 5] rfl (hJ4 _ _ hd)
        exact AW.sub [1, 2, 3, 5] rfl (hJ14  _ hd)
      refine a_if_ge (pc := 40) hG (tgt := 47) hd dX12_nearestOf_40 (by decide) (fun hd => ?_) (fun hd => ?_)
      · refine a_aload_n (pc := 47) hG 0 rfl dX12_nearestOf_47 rfl ?_
        refine a_iload_n (pc := 48) hG 1 rfl dX12_nearestOf_48 rfl ?_
        refine a_iload (pc := 49) hG 4 rfl dX12_nearestOf_49 ?_
        refine a_cvI (pc := 51) hG (As := [.int x1, .int x4]) (st := []) sm_0 cl_X12 mk_X12_forOf t_1842 (by omega) (fun z hz => c_M_forOf F x1 x4 _  z hz) rfl (Nat.le_of_ble_eq_true rfl) hd dX12_nearestOf_51 (fun r22 h21 hd => ?_)
        refine a_aload_n (pc := 54) hG 0 rfl dX12_nearestOf_54 rfl ?_
        refine a_iload_n (pc := 55) hG 1 rfl dX12_nearestOf_55 rfl ?_
        refine a_iload_n (pc := 56) hG 3 rfl dX12_nearestOf_56 rfl ?_
        refine a_cvI (pc := 57) hG (As := [.int x1, .int x3]) (st := [.int r22]) sm_0 cl_X12 mk_X12_allOf t_1850 (by omega) (fun z hz => c_M_allOf F x1 x3 _  z hz) rfl (Nat.le_of_ble_eq_true rfl) hd dX12_nearestOf_57 (fun r24 h23 hd => ?_)
        refine a_imul (pc := 60) hG dX12_nearestOf_60 ?_
        refine a_aload_n (pc := 61) hG 0 rfl dX12_nearestOf_61 rfl ?_
        refine a_iload_n (pc := 62) hG 1 rfl dX12_nearestOf_62 rfl ?_
        refine a_iload_n (pc := 63) hG 3 rfl dX12_nearestOf_63 rfl ?_
        refine a_cvI (pc := 64) hG (As := [.int x1, .int x3]) (st := [.int (r22 * r24)]) sm_0 cl_X12 mk_X12_forOf t_1842 (by omega) (fun z hz => c_M_forOf F x1 x3 _  z hz) rfl (Nat.le_of_ble_eq_true rfl) hd dX12_nearestOf_64 (fun r26 h25 hd => ?_)
        refine a_aload_n (pc := 67) hG 0 rfl dX12_nearestOf_67 rfl ?_
        refine a_iload_n (pc := 68) hG 1 rfl dX12_nearestOf_68 rfl ?_
        refine a_iload (pc := 69) hG 4 rfl dX12_nearestOf_69 ?_
        refine a_cvI (pc := 71) hG (As := [.int x1, .int x4]) (st := [.int r26, .int (r22 * r24)]) sm_0 cl_X12 mk_X12_allOf t_1850 (by omega) (fun z hz => c_M_allOf F x1 x4 _  z hz) rfl (Nat.le_of_ble_eq_true rfl) hd dX12_nearestOf_71 (fun r28 h27 hd => ?_)
        refine a_imul (pc := 74) hG dX12_nearestOf_74 ?_
        refine a_isub (pc := 75) hG dX12_nearestOf_75 ?_
        exact AW.sub [0, 1, 2, 3, 4] rfl (hJ10 _ _ hd)
      refine a_iconst (pc := 43) hG dX12_nearestOf_43 (v := (nI 1)) rfl ?_
      refine a_goto (pc := 44) hG (tgt := 76) dX12_nearestOf_44 (by decide) ?_
      exact AW.sub [0, 1, 2, 3, 4] rfl (hJ10 _ _ hd)
    refine a_goto (pc := 36) hG (tgt := 109) dX12_nearestOf_36 (by decide) ?_
    exact AW.sub [0, 1, 2, 3, 4] rfl (hJ4 _ _ hd)
set_option maxHeartbeats 4000000 in
theorem c_M_nearestOf {ad wad : Nat → Nat} (F : Nat) (a0 : Int32) (a1 : Int32) (h : HS)  (q : Int32 × HS) (hd : f_M_nearestOf F a0 a1 h = some q) : Ctr SHm ad wad yX12_nearestOf cX12_nearestOf 6 (some .int) 7 [.ref (ad 0), .int a0, .int a1] h (some (.int q.1), q.2) := by
  refine enter (own := RX12) (lv := [(0, .ref (ad 0)), (1, .int a0), (2, .int a1)]) (by decide +kernel) rfl (Nat.le_of_ble_eq_true rfl) rfl (fun Γ hG => ?_)
  unfold f_M_nearestOf at hd
  refine a_aload_n (pc := 0) hG 0 rfl dX12_nearestOf_0 rfl ?_
  refine a_iload_n (pc := 1) hG 1 rfl dX12_nearestOf_1 rfl ?_
  refine a_cvN (pc := 2) hG (As := [.int a0]) (st := []) sm_0 cl_X12 mk_X12_ordersBy t_1960 (by omega) (fun z hz => c_M_ordersBy F a0 _  z hz) rfl (Nat.le_of_ble_eq_true rfl) hd dX12_nearestOf_2 (fun _ h1 hd => ?_)
  refine a_iconst (pc := 5) hG dX12_nearestOf_5 (v := (-1 : Int32)) rfl ?_
  refine a_istore_nN (pc := 6) hG hd dX12_nearestOf_6 rfl (by decide) (lf := fun x => [(3, .int x), (0, .ref (ad 0)), (1, .int a0), (2, .int a1)]) (fun _ => rfl) (fun v2 hd => ?_)
  refine a_iconst (pc := 7) hG dX12_nearestOf_7 (v := (nI 0)) rfl ?_
  refine a_istoreN (pc := 8) hG hd dX12_nearestOf_8 (by decide) (lf := fun x => [(4, .int x), (3, .int v2), (0, .ref (ad 0)), (1, .int a0), (2, .int a1)]) (fun _ => rfl) (fun v3 hd => ?_)
  refine AW.sub [2, 3, 4, 1, 0] rfl ?_
  exact w_l_M_nearestOf_0 F (by omega) hG hd
theorem dX12_nearest_0 : decode cX12_nearest 0 = .ok (.aload_n 0, 1) := by decide +kernel
theorem dX12_nearest_1 : decode cX12_nearest 1 = .ok (.iconst 0, 1) := by decide +kernel
theorem dX12_nearest_2 : decode cX12_nearest 2 = .ok (.putfield 1, 3) := by decide +kernel
theorem dX12_nearest_5 : decode cX12_nearest 5 = .ok (.aload_n 0, 1) := by decide +kernel
theorem dX12_nearest_6 : decode cX12_nearest 6 = .ok (.iload_n 1, 1) := by decide +kernel
theorem dX12_nearest_7 : decode cX12_nearest 7 = .ok (.invokevirtual 255, 3) := by decide +kernel
theorem dX12_nearest_10 : decode cX12_nearest 10 = .ok (.ifCond .eq 22, 3) := by decide +kernel
theorem dX12_nearest_13 : decode cX12_nearest 13 = .ok (.iload_n 2, 1) := by decide +kernel
theorem dX12_nearest_14 : decode cX12_nearest 14 = .ok (.iconst 0, 1) := by decide +kernel
theorem dX12_nearest_15 : decode cX12_nearest 15 = .ok (.bipush 6, 2) := by decide +kernel
theorem dX12_nearest_17 : decode cX12_nearest 17 = .ok (.invokestatic 184, 3) := by decide +kernel
theorem dX12_nearest_20 : decode cX12_nearest 20 = .ok (.ifCond .eq 12, 3) := by decide +kernel
theorem dX12_nearest_23 : decode cX12_nearest 23 = .ok (.aload_n 0, 1) := by decide +kernel
theorem dX12_nearest_24 : decode cX12_nearest 24 = .ok (.iload_n 1, 1) := by decide +kernel
theorem dX12_nearest_25 : decode cX12_nearest 25 = .ok (.iload_n 2, 1) := by decide +kernel
theorem dX12_nearest_26 : decode cX12_nearest 26 = .ok (.invokevirtual 319, 3) := by decide +kernel
theorem dX12_nearest_29 : decode cX12_nearest 29 = .ok (.goto 4, 3) := by decide +kernel
theorem dX12_nearest_32 : decode cX12_nearest 32 = .ok (.iconst (-1), 1) := by decide +kernel
theorem dX12_nearest_33 : decode cX12_nearest 33 = .ok (.ireturn, 1) := by decide +kernel
set_option maxHeartbeats 4000000 in
theorem c_M_nearest {ad wad : Nat → Nat} (F : Nat) (a0 : Int32) (a1 : Int32) (h : HS)  (q : Int32 × HS) (hd : f_M_nearest F a0 a1 h = some q) : Ctr SHm ad wad yX12_nearest cX12_nearest 3 (some .int) 8 [.ref (ad 0), .int a0, .int a1] h (some (.int q.1), q.2) := by
  refine enter (own := RX12) (lv := [(0, .ref (ad 0)), (1, .int a0), (2, .int a1)]) (by decide +kernel) rfl (Nat.le_of_ble_eq_true rfl) rfl (fun Γ hG => ?_)
  unfold f_M_nearest at hd
  refine a_aload_n (pc := 0) hG 0 rfl dX12_nearest_0 rfl ?_
  refine a_iconst (pc := 1) hG dX12_nearest_1 (v := (nI 0)) rfl ?_
  refine a_putI (pc := 2) hG sm_0 cl_X12 ok_X12 0 (by decide) rfl t_1609 rfl (ty := .int) rfl rfl rfl hd dX12_nearest_2 (fun h1 hd => ?_)
  refine a_aload_n (pc := 5) hG 0 rfl dX12_nearest_5 rfl ?_
  refine a_iload_n (pc := 6) hG 1 rfl dX12_nearest_6 rfl ?_
  refine a_cvI (pc := 7) hG (As := [.int a0]) (st := []) sm_0 cl_X12 mk_X12_isCause t_1830 (by omega) (fun z hz => c_M_isCause a0 _  z hz) rfl (Nat.le_of_ble_eq_true rfl) hd dX12_nearest_7 (fun r3 h2 hd => ?_)
  refine a_if_eq (pc := 10) hG (tgt := 32) hd dX12_nearest_10 (by decide) (fun hd => ?_) (fun hd => ?_)
  · refine a_iconst (pc := 32) hG dX12_nearest_32 (v := (-1 : Int32)) rfl ?_
    exact a_iret (pc := 33) hG hd dX12_nearest_33
  refine a_iload_n (pc := 13) hG 2 rfl dX12_nearest_13 rfl ?_
  refine a_iconst (pc := 14) hG dX12_nearest_14 (v := (nI 0)) rfl ?_
  refine a_bipush (pc := 15) hG dX12_nearest_15 (v := (nI 6)) rfl ?_
  refine a_csI (pc := 17) hG (As := [.int a1, .int (nI 0), .int (nI 6)]) (st := []) mk_X12_isIn t_1795 (by omega) (fun z hz => c_M_isIn a1 (nI 0) (nI 6) _  z hz) rfl (Nat.le_of_ble_eq_true rfl) hd dX12_nearest_17 (fun r5 h4 hd => ?_)
  refine a_if_eq (pc := 20) hG (tgt := 32) hd dX12_nearest_20 (by decide) (fun hd => ?_) (fun hd => ?_)
  · refine a_iconst (pc := 32) hG dX12_nearest_32 (v := (-1 : Int32)) rfl ?_
    exact a_iret (pc := 33) hG hd dX12_nearest_33
  refine a_aload_n (pc := 23) hG 0 rfl dX12_nearest_23 rfl ?_
  refine a_iload_n (pc := 24) hG 1 rfl dX12_nearest_24 rfl ?_
  refine a_iload_n (pc := 25) hG 2 rfl dX12_nearest_25 rfl ?_
  refine a_cvI (pc := 26) hG (As := [.int a0, .int a1]) (st := []) sm_0 cl_X12 mk_X12_nearestOf t_1956 (by omega) (fun z hz => c_M_nearestOf F a0 a1 _  z hz) rfl (Nat.le_of_ble_eq_true rfl) hd dX12_nearest_26 (fun r7 h6 hd => ?_)
  refine a_goto (pc := 29) hG (tgt := 33) dX12_nearest_29 (by decide) ?_
  exact a_iret (pc := 33) hG hd dX12_nearest_33
theorem dX12_areFree_0 : decode cX12_areFree 0 = .ok (.aload_n 0, 1) := by decide +kernel
theorem dX12_areFree_1 : decode cX12_areFree 1 = .ok (.iload_n 1, 1) := by decide +kernel
theorem dX12_areFree_2 : decode cX12_areFree 2 = .ok (.invokevirtual 255, 3) := by decide +kernel
theorem dX12_areFree_5 : decode cX12_areFree 5 = .ok (.ifCond .eq 23, 3) := by decide +kernel
theorem dX12_areFree_8 : decode cX12_areFree 8 = .ok (.iload_n 2, 1) := by decide +kernel
theorem dX12_areFree_9 : decode cX12_areFree 9 = .ok (.ifCond .lt 19, 3) := by decide +kernel
theorem dX12_areFree_12 : decode cX12_areFree 12 = .ok (.iload_n 2, 1) := by decide +kernel
theorem dX12_areFree_13 : decode cX12_areFree 13 = .ok (.aload_n 0, 1) := by decide +kernel
theorem dX12_areFree_14 : decode cX12_areFree 14 = .ok (.iload_n 1, 1) := by decide +kernel
theorem dX12_areFree_15 : decode cX12_areFree 15 = .ok (.invokevirtual 310, 3) := by decide +kernel
theorem dX12_areFree_18 : decode cX12_areFree 18 = .ok (.iconst (-1), 1) := by decide +kernel
theorem dX12_areFree_19 : decode cX12_areFree 19 = .ok (.ixor, 1) := by decide +kernel
theorem dX12_areFree_20 : decode cX12_areFree 20 = .ok (.iand, 1) := by decide +kernel
theorem dX12_areFree_21 : decode cX12_areFree 21 = .ok (.ifCond .ne 7, 3) := by decide +kernel
theorem dX12_areFree_24 : decode cX12_areFree 24 = .ok (.iconst 1, 1) := by decide +kernel
theorem dX12_areFree_25 : decode cX12_areFree 25 = .ok (.goto 4, 3) := by decide +kernel
theorem dX12_areFree_28 : decode cX12_areFree 28 = .ok (.iconst 0, 1) := by decide +kernel
theorem dX12_areFree_29 : decode cX12_areFree 29 = .ok (.ireturn, 1) := by decide +kernel
set_option maxHeartbeats 4000000 in
theorem c_M_areFree {ad wad : Nat → Nat} (a0 : Int32) (a1 : Int32) (h : HS)  (q : Int32 × HS) (hd : f_M_areFree a0 a1 h = some q) : Ctr SHm ad wad yX12_areFree cX12_areFree 3 (some .boolean) 3 [.ref (ad 0), .int a0, .int a1] h (some (.int q.1), q.2) := by
  refine enter (own := RX12) (lv := [(0, .ref (ad 0)), (1, .int a0), (2, .int a1)]) (by decide +kernel) rfl (Nat.le_of_ble_eq_true rfl) rfl (fun Γ hG => ?_)
  unfold f_M_areFree at hd
  refine a_aload_n (pc := 0) hG 0 rfl dX12_areFree_0 rfl ?_
  refine a_iload_n (pc := 1) hG 1 rfl dX12_areFree_1 rfl ?_
  refine a_cvI (pc := 2) hG (As := [.int a0]) (st := []) sm_0 cl_X12 mk_X12_isCause t_1830 (by omega) (fun z hz => c_M_isCause a0 _  z hz) rfl (Nat.le_of_ble_eq_true rfl) hd dX12_areFree_2 (fun r2 h1 hd => ?_)
  refine a_if_eq (pc := 5) hG (tgt := 28) hd dX12_areFree_5 (by decide) (fun hd => ?_) (fun hd => ?_)
  · refine a_iconst (pc := 28) hG dX12_areFree_28 (v := (nI 0)) rfl ?_
    exact a_zret (pc := 29) hG hd dX12_areFree_29
  refine a_iload_n (pc := 8) hG 2 rfl dX12_areFree_8 rfl ?_
  refine a_if_lt (pc := 9) hG (tgt := 28) hd dX12_areFree_9 (by decide) (fun hd => ?_) (fun hd => ?_)
  · refine a_iconst (pc := 28) hG dX12_areFree_28 (v := (nI 0)) rfl ?_
    exact a_zret (pc := 29) hG hd dX12_areFree_29
  refine a_iload_n (pc := 12) hG 2 rfl dX12_areFree_12 rfl ?_
  refine a_aload_n (pc := 13) hG 0 rfl dX12_areFree_13 rfl ?_
  refine a_iload_n (pc := 14) hG 1 rfl dX12_areFree_14 rfl ?_
  refine a_cvI (pc := 15) hG (As := [.int a0]) (st := [.int a1]) sm_0 cl_X12 mk_X12_free t_1964 (by omega) (fun z hz => c_M_free a0 _  z hz) rfl (Nat.le_of_ble_eq_true rfl) hd dX12_areFree_15 (fun r4 h3 hd => ?_)
  refine a_iconst (pc := 18) hG dX12_areFree_18 (v := (-1 : Int32)) rfl ?_
  refine a_ixor (pc := 19) hG dX12_areFree_19 ?_
  refine a_iand (pc := 20) hG dX12_areFree_20 ?_
  refine a_if_ne (pc := 21) hG (tgt := 28) hd dX12_areFree_21 (by decide) (fun hd => ?_) (fun hd => ?_)
  · refine a_iconst (pc := 28) hG dX12_areFree_28 (v := (nI 0)) rfl ?_
    exact a_zret (pc := 29) hG hd dX12_areFree_29
  refine a_iconst (pc := 24) hG dX12_areFree_24 (v := (nI 1)) rfl ?_
  refine a_goto (pc := 25) hG (tgt := 29) dX12_areFree_25 (by decide) ?_
  exact a_zret (pc := 29) hG hd dX12_areFree_29
theorem dX12_near_0 : decode cX12_near 0 = .ok (.aload_n 0, 1) := by decide +kernel
theorem dX12_near_1 : decode cX12_near 1 = .ok (.iconst 0, 1) := by decide +kernel
theorem dX12_near_2 : decode cX12_near 2 = .ok (.putfield 1, 3) := by decide +kernel
theorem dX12_near_5 : decode cX12_near 5 = .ok (.aload_n 0, 1) := by decide +kernel
theorem dX12_near_6 : decode cX12_near 6 = .ok (.iload_n 1, 1) := by decide +kernel
theorem dX12_near_7 : decode cX12_near 7 = .ok (.iload_n 2, 1) := by decide +kernel
theorem dX12_near_8 : decode cX12_near 8 = .ok (.invokevirtual 322, 3) := by decide +kernel
theorem dX12_near_11 : decode cX12_near 11 = .ok (.ifCond .eq 12, 3) := by decide +kernel
theorem dX12_near_14 : decode cX12_near 14 = .ok (.aload_n 0, 1) := by decide +kernel
theorem dX12_near_15 : decode cX12_near 15 = .ok (.iload_n 1, 1) := by decide +kernel
theorem dX12_near_16 : decode cX12_near 16 = .ok (.iload_n 2, 1) := by decide +kernel
theorem dX12_near_17 : decode cX12_near 17 = .ok (.invokevirtual 252, 3) := by decide +kernel
theorem dX12_near_20 : decode cX12_near 20 = .ok (.goto 4, 3) := by decide +kernel
theorem dX12_near_23 : decode cX12_near 23 = .ok (.iconst (-1), 1) := by decide +kernel
theorem dX12_near_24 : decode cX12_near 24 = .ok (.ireturn, 1) := by decide +kernel
set_option maxHeartbeats 4000000 in
theorem c_M_near {ad wad : Nat → Nat} (F : Nat) (a0 : Int32) (a1 : Int32) (h : HS)  (q : Int32 × HS) (hd : f_M_near F a0 a1 h = some q) : Ctr SHm ad wad yX12_near cX12_near 3 (some .int) 6 [.ref (ad 0), .int a0, .int a1] h (some (.int q.1), q.2) := by
  refine enter (own := RX12) (lv := [(0, .ref (ad 0)), (1, .int a0), (2, .int a1)]) (by decide +kernel) rfl (Nat.le_of_ble_eq_true rfl) rfl (fun Γ hG => ?_)
  unfold f_M_near at hd
  refine a_aload_n (pc := 0) hG 0 rfl dX12_near_0 rfl ?_
  refine a_iconst (pc := 1) hG dX12_near_1 (v := (nI 0)) rfl ?_
  refine a_putI (pc := 2) hG sm_0 cl_X12 ok_X12 0 (by decide) rfl t_1609 rfl (ty := .int) rfl rfl rfl hd dX12_near_2 (fun h1 hd => ?_)
  refine a_aload_n (pc := 5) hG 0 rfl dX12_near_5 rfl ?_
  refine a_iload_n (pc := 6) hG 1 rfl dX12_near_6 rfl ?_
  refine a_iload_n (pc := 7) hG 2 rfl dX12_near_7 rfl ?_
  refine a_cvI (pc := 8) hG (As := [.int a0, .int a1]) (st := []) sm_0 cl_X12 mk_X12_areFree t_1975 (by omega) (fun z hz => c_M_areFree a0 a1 _  z hz) rfl (Nat.le_of_ble_eq_true rfl) hd dX12_near_8 (fun r3 h2 hd => ?_)
  refine a_if_eq (pc := 11) hG (tgt := 23) hd dX12_near_11 (by decide) (fun hd => ?_) (fun hd => ?_)
  · refine a_iconst (pc := 23) hG dX12_near_23 (v := (-1 : Int32)) rfl ?_
    exact a_iret (pc := 24) hG hd dX12_near_24
  refine a_aload_n (pc := 14) hG 0 rfl dX12_near_14 rfl ?_
  refine a_iload_n (pc := 15) hG 1 rfl dX12_near_15 rfl ?_
  refine a_iload_n (pc := 16) hG 2 rfl dX12_near_16 rfl ?_
  refine a_cvI (pc := 17) hG (As := [.int a0, .int a1]) (st := []) sm_0 cl_X12 mk_X12_nearOf t_1838 (by omega) (fun z hz => c_M_nearOf F a0 a1 _  z hz) rfl (Nat.le_of_ble_eq_true rfl) hd dX12_near_17 (fun r5 h4 hd => ?_)
  refine a_goto (pc := 20) hG (tgt := 24) dX12_near_20 (by decide) ?_
  exact a_iret (pc := 24) hG hd dX12_near_24
theorem dX12_orders_0 : decode cX12_orders 0 = .ok (.aload_n 0, 1) := by decide +kernel
theorem dX12_orders_1 : decode cX12_orders 1 = .ok (.iconst 0, 1) := by decide +kernel
theorem dX12_orders_2 : decode cX12_orders 2 = .ok (.putfield 1, 3) := by decide +kernel
theorem dX12_orders_5 : decode cX12_orders 5 = .ok (.aload_n 0, 1) := by decide +kernel
theorem dX12_orders_6 : decode cX12_orders 6 = .ok (.iload_n 1, 1) := by decide +kernel
theorem dX12_orders_7 : decode cX12_orders 7 = .ok (.iload_n 2, 1) := by decide +kernel
theorem dX12_orders_8 : decode cX12_orders 8 = .ok (.invokevirtual 322, 3) := by decide +kernel
theorem dX12_orders_11 : decode cX12_orders 11 = .ok (.ifCond .ne 5, 3) := by decide +kernel
theorem dX12_orders_14 : decode cX12_orders 14 = .ok (.iconst (-1), 1) := by decide +kernel
theorem dX12_orders_15 : decode cX12_orders 15 = .ok (.ireturn, 1) := by decide +kernel
theorem dX12_orders_16 : decode cX12_orders 16 = .ok (.aload_n 0, 1) := by decide +kernel
theorem dX12_orders_17 : decode cX12_orders 17 = .ok (.iload_n 1, 1) := by decide +kernel
theorem dX12_orders_18 : decode cX12_orders 18 = .ok (.invokevirtual 313, 3) := by decide +kernel
theorem dX12_orders_21 : decode cX12_orders 21 = .ok (.aload_n 0, 1) := by decide +kernel
theorem dX12_orders_22 : decode cX12_orders 22 = .ok (.getfield 56, 3) := by decide +kernel
theorem dX12_orders_25 : decode cX12_orders 25 = .ok (.iload_n 2, 1) := by decide +kernel
theorem dX12_orders_26 : decode cX12_orders 26 = .ok (.iaload, 1) := by decide +kernel
theorem dX12_orders_27 : decode cX12_orders 27 = .ok (.ireturn, 1) := by decide +kernel
set_option maxHeartbeats 4000000 in
theorem c_M_orders {ad wad : Nat → Nat} (F : Nat) (a0 : Int32) (a1 : Int32) (h : HS)  (q : Int32 × HS) (hd : f_M_orders F a0 a1 h = some q) : Ctr SHm ad wad yX12_orders cX12_orders 3 (some .int) 7 [.ref (ad 0), .int a0, .int a1] h (some (.int q.1), q.2) := by
  refine enter (own := RX12) (lv := [(0, .ref (ad 0)), (1, .int a0), (2, .int a1)]) (by decide +kernel) rfl (Nat.le_of_ble_eq_true rfl) rfl (fun Γ hG => ?_)
  unfold f_M_orders at hd
  refine a_aload_n (pc := 0) hG 0 rfl dX12_orders_0 rfl ?_
  refine a_iconst (pc := 1) hG dX12_orders_1 (v := (nI 0)) rfl ?_
  refine a_putI (pc := 2) hG sm_0 cl_X12 ok_X12 0 (by decide) rfl t_1609 rfl (ty := .int) rfl rfl rfl hd dX12_orders_2 (fun h1 hd => ?_)
  refine a_aload_n (pc := 5) hG 0 rfl dX12_orders_5 rfl ?_
  refine a_iload_n (pc := 6) hG 1 rfl dX12_orders_6 rfl ?_
  refine a_iload_n (pc := 7) hG 2 rfl dX12_orders_7 rfl ?_
  refine a_cvI (pc := 8) hG (As := [.int a0, .int a1]) (st := []) sm_0 cl_X12 mk_X12_areFree t_1975 (by omega) (fun z hz => c_M_areFree a0 a1 _  z hz) rfl (Nat.le_of_ble_eq_true rfl) hd dX12_orders_8 (fun r3 h2 hd => ?_)
  refine a_if_ne (pc := 11) hG (tgt := 16) hd dX12_orders_11 (by decide) (fun hd => ?_) (fun hd => ?_)
  · refine a_aload_n (pc := 16) hG 0 rfl dX12_orders_16 rfl ?_
    refine a_iload_n (pc := 17) hG 1 rfl dX12_orders_17 rfl ?_
    refine a_cvN (pc := 18) hG (As := [.int a0]) (st := []) sm_0 cl_X12 mk_X12_ordersBy t_1960 (by omega) (fun z hz => c_M_ordersBy F a0 _  z hz) rfl (Nat.le_of_ble_eq_true rfl) hd dX12_orders_18 (fun _ h4 hd => ?_)
    refine a_aload_n (pc := 21) hG 0 rfl dX12_orders_21 rfl ?_
    refine a_getR (pc := 22) hG sm_0 cl_X12 ok_X12 24 (by decide) rfl t_1633 dX12_orders_22 ?_
    refine a_iload_n (pc := 25) hG 2 rfl dX12_orders_25 rfl ?_
    refine a_iald (pc := 26) hG sm_9 hd dX12_orders_26 (fun hd => ?_)
    exact a_iret (pc := 27) hG hd dX12_orders_27
  refine a_iconst (pc := 14) hG dX12_orders_14 (v := (-1 : Int32)) rfl ?_
  exact a_iret (pc := 15) hG hd dX12_orders_15
theorem dX12_ways_0 : decode cX12_ways 0 = .ok (.aload_n 0, 1) := by decide +kernel
theorem dX12_ways_1 : decode cX12_ways 1 = .ok (.iconst 0, 1) := by decide +kernel
theorem dX12_ways_2 : decode cX12_ways 2 = .ok (.putfield 1, 3) := by decide +kernel
theorem dX12_ways_5 : decode cX12_ways 5 = .ok (.aload_n 0, 1) := by decide +kernel
theorem dX12_ways_6 : decode cX12_ways 6 = .ok (.iload_n 1, 1) := by decide +kernel
theorem dX12_ways_7 : decode cX12_ways 7 = .ok (.invokevirtual 255, 3) := by decide +kernel
theorem dX12_ways_10 : decode cX12_ways 10 = .ok (.ifCond .eq 13, 3) := by decide +kernel
theorem dX12_ways_13 : decode cX12_ways 13 = .ok (.iload_n 2, 1) := by decide +kernel
theorem dX12_ways_14 : decode cX12_ways 14 = .ok (.iconst 0, 1) := by decide +kernel
theorem dX12_ways_15 : decode cX12_ways 15 = .ok (.bipush 6, 2) := by decide +kernel
theorem dX12_ways_17 : decode cX12_ways 17 = .ok (.invokestatic 184, 3) := by decide +kernel
theorem dX12_ways_20 : decode cX12_ways 20 = .ok (.ifCond .ne 5, 3) := by decide +kernel
theorem dX12_ways_23 : decode cX12_ways 23 = .ok (.iconst (-1), 1) := by decide +kernel
theorem dX12_ways_24 : decode cX12_ways 24 = .ok (.ireturn, 1) := by decide +kernel
theorem dX12_ways_25 : decode cX12_ways 25 = .ok (.aload_n 0, 1) := by decide +kernel
theorem dX12_ways_26 : decode cX12_ways 26 = .ok (.iload_n 1, 1) := by decide +kernel
theorem dX12_ways_27 : decode cX12_ways 27 = .ok (.invokevirtual 313, 3) := by decide +kernel
theorem dX12_ways_30 : decode cX12_ways 30 = .ok (.iconst 0, 1) := by decide +kernel
theorem dX12_ways_31 : decode cX12_ways 31 = .ok (.istore_n 3, 1) := by decide +kernel
theorem dX12_ways_32 : decode cX12_ways 32 = .ok (.iconst 0, 1) := by decide +kernel
theorem dX12_ways_33 : decode cX12_ways 33 = .ok (.istore 4, 2) := by decide +kernel
theorem dX12_ways_35 : decode cX12_ways 35 = .ok (.iload 4, 2) := by decide +kernel
theorem dX12_ways_37 : decode cX12_ways 37 = .ok (.bipush 64, 2) := by decide +kernel
theorem dX12_ways_39 : decode cX12_ways 39 = .ok (.if_icmp .ge 36, 3) := by decide +kernel
theorem dX12_ways_42 : decode cX12_ways 42 = .ok (.iload_n 3, 1) := by decide +kernel
theorem dX12_ways_43 : decode cX12_ways 43 = .ok (.aload_n 0, 1) := by decide +kernel
theorem dX12_ways_44 : decode cX12_ways 44 = .ok (.getfield 56, 3) := by decide +kernel
theorem dX12_ways_47 : decode cX12_ways 47 = .ok (.iload 4, 2) := by decide +kernel
theorem dX12_ways_49 : decode cX12_ways 49 = .ok (.iaload, 1) := by decide +kernel
theorem dX12_ways_50 : decode cX12_ways 50 = .ok (.ifCond .le 16, 3) := by decide +kernel
theorem dX12_ways_53 : decode cX12_ways 53 = .ok (.iload 4, 2) := by decide +kernel
theorem dX12_ways_55 : decode cX12_ways 55 = .ok (.invokestatic 316, 3) := by decide +kernel
theorem dX12_ways_58 : decode cX12_ways 58 = .ok (.iload_n 2, 1) := by decide +kernel
theorem dX12_ways_59 : decode cX12_ways 59 = .ok (.if_icmp .gt 7, 3) := by decide +kernel
theorem dX12_ways_62 : decode cX12_ways 62 = .ok (.iconst 1, 1) := by decide +kernel
theorem dX12_ways_63 : decode cX12_ways 63 = .ok (.goto 4, 3) := by decide +kernel
theorem dX12_ways_66 : decode cX12_ways 66 = .ok (.iconst 0, 1) := by decide +kernel
theorem dX12_ways_67 : decode cX12_ways 67 = .ok (.iadd, 1) := by decide +kernel
theorem dX12_ways_68 : decode cX12_ways 68 = .ok (.istore_n 3, 1) := by decide +kernel
theorem dX12_ways_69 : decode cX12_ways 69 = .ok (.iinc 4 1, 3) := by decide +kernel
theorem dX12_ways_72 : decode cX12_ways 72 = .ok (.goto (-37), 3) := by decide +kernel
theorem dX12_ways_75 : decode cX12_ways 75 = .ok (.iload_n 3, 1) := by decide +kernel
theorem dX12_ways_76 : decode cX12_ways 76 = .ok (.ireturn, 1) := by decide +kernel
set_option maxHeartbeats 4000000 in
theorem w_l_M_ways_0 {ad wad : Nat → Nat} {Γ : Ctx} (F : Nat) {n : Nat} (hn : 7 ≤ n) (hG : Cx SHm ad wad cX12_ways 5 RX12 (some .int) (n) Γ) {q : Int32 × HS} {x2 : Int32} {g : Nat} {x3 : Int32} {x4 : Int32} {h : HS} (hd : l_M_ways_0 F x2 g x3 x4 h = some q) : AW SHm ad 5 (some (.int q.1), q.2) Γ 35 [(0, .ref (ad 0)), (2, .int x2), (3, .int x3), (4, .int x4)] [] h := by
  induction g generalizing x3 x4 h with
  | zero => unfold l_M_ways_0 at hd; cases hd
  | succ g ih =>
    unfold l_M_ways_0 at hd
    refine a_iload (pc := 35) hG 3 rfl dX12_ways_35 ?_
    refine a_bipush (pc := 37) hG dX12_ways_37 (v := (nI 64)) rfl ?_
    refine a_ic_ge (pc := 39) hG (tgt := 75) hd dX12_ways_39 (by decide) (fun hd => ?_) (fun hd => ?_)
    · refine a_iload_n (pc := 75) hG 2 rfl dX12_ways_75 rfl ?_
      exact a_iret (pc := 76) hG hd dX12_ways_76
    refine a_iload_n (pc := 42) hG 2 rfl dX12_ways_42 rfl ?_
    refine a_aload_n (pc := 43) hG 0 rfl dX12_ways_43 rfl ?_
    refine a_getR (pc := 44) hG sm_0 cl_X12 ok_X12 24 (by decide) rfl t_1633 dX12_ways_44 ?_
    refine a_iload (pc := 47) hG 3 rfl dX12_ways_47 ?_
    refine a_iald (pc := 49) hG sm_9 hd dX12_ways_49 (fun hd => ?_)
    refine a_join hd (Q := fun J : Int32 → HS → Option (Int32 × HS) => ∀ (v10 : Int32) (h11 : HS), J v10 h11 = some q → AW SHm ad 5 (some (.int q.1), q.2) Γ 67 [(0, .ref (ad 0)), (2, .int x2), (4, .int x4)] [.int v10, .int x3] h11) (fun v10 h11 hd => ?_) (fun J9 hJ9 hd => ?_)
    · refine a_iadd (pc := 67) hG dX12_ways_67 ?_
      refine a_istore_nN (pc := 68) hG hd dX12_ways_68 rfl (by decide) (lf := fun x => [(3, .int x), (0, .ref (ad 0)), (2, .int x2), (4, .int x4)]) (fun _ => rfl) (fun v12 hd => ?_)
      refine a_iincN (pc := 69) hG (c0 := (nI 1)) 3 rfl hd dX12_ways_69 rfl (by decide) (lf := fun x => [(4, .int x), (3, .int v12), (0, .ref (ad 0)), (2, .int x2)]) (fun _ => rfl) (fun v13 hd => ?_)
      refine a_goto (pc := 72) hG (tgt := 35) dX12_ways_72 (by decide) ?_
      exact AW.sub [2, 3, 1, 0] rfl (ih hd)
    refine a_join hd (Q := fun J : HS → Option (Int32 × HS) => ∀  (h15 : HS), J  h15 = some q → AW SHm ad 5 (some (.int q.1), q.2) Γ 66 [(0, .ref (ad 0)), (2, .int x2), (4, .int x4)] [.int x3] h15) (fun  h15 hd => ?_) (fun J14 hJ14 hd => ?_)
    · refine a_iconst (pc := 66) hG dX12_ways_66 (v := (nI 0)) rfl ?_
      exact AW.sub [0, 1, 2] rfl (hJ9 _ _ hd)
    refine a_if_le (pc := 50) hG (tgt := 66) hd dX12_ways_50 (by decide) (fun hd => ?_) (fun hd => ?_)
    · exact AW.sub [0, 1, 3] rfl (hJ14  _ hd)
    refine a_iload (pc := 53) hG 3 rfl dX12_ways_53 ?_
    refine a_csI (pc := 55) hG (As := [.int x4]) (st := [.int x3]) mk_X12_bits t_1968 (by omega) (fun z hz => c_M_bits F x4 _  z hz) rfl (Nat.le_of_ble_eq_true rfl) hd dX12_ways_55 (fun r17 h16 hd => ?_)
    refine a_iload_n (pc := 58) hG 1 rfl dX12_ways_58 rfl ?_
    refine a_ic_gt (pc := 59) hG (tgt := 66) hd dX12_ways_59 (by decide) (fun hd => ?_) (fun hd => ?_)
    · exact AW.sub [0, 1, 3] rfl (hJ14  _ hd)
    refine a_iconst (pc := 62) hG dX12_ways_62 (v := (nI 1)) rfl ?_
    refine a_goto (pc := 63) hG (tgt := 67) dX12_ways_63 (by decide) ?_
    exact AW.sub [0, 1, 3] rfl (hJ9 _ _ hd)
set_option maxHeartbeats 4000000 in
theorem c_M_ways {ad wad : Nat → Nat} (F : Nat) (a0 : Int32) (a1 : Int32) (h : HS)  (q : Int32 × HS) (hd : f_M_ways F a0 a1 h = some q) : Ctr SHm ad wad yX12_ways cX12_ways 5 (some .int) 7 [.ref (ad 0), .int a0, .int a1] h (some (.int q.1), q.2) := by
  refine enter (own := RX12) (lv := [(0, .ref (ad 0)), (1, .int a0), (2, .int a1)]) (by decide +kernel) rfl (Nat.le_of_ble_eq_true rfl) rfl (fun Γ hG => ?_)
  unfold f_M_ways at hd
  refine a_aload_n (pc := 0) hG 0 rfl dX12_ways_0 rfl ?_
  refine a_iconst (pc := 1) hG dX12_ways_1 (v := (nI 0)) rfl ?_
  refine a_putI (pc := 2) hG sm_0 cl_X12 ok_X12 0 (by decide) rfl t_1609 rfl (ty := .int) rfl rfl rfl hd dX12_ways_2 (fun h1 hd => ?_)
  refine a_aload_n (pc := 5) hG 0 rfl dX12_ways_5 rfl ?_
  refine a_iload_n (pc := 6) hG 1 rfl dX12_ways_6 rfl ?_
  refine a_cvI (pc := 7) hG (As := [.int a0]) (st := []) sm_0 cl_X12 mk_X12_isCause t_1830 (by omega) (fun z hz => c_M_isCause a0 _  z hz) rfl (Nat.le_of_ble_eq_true rfl) hd dX12_ways_7 (fun r3 h2 hd => ?_)
  refine a_if_eq (pc := 10) hG (tgt := 23) hd dX12_ways_10 (by decide) (fun hd => ?_) (fun hd => ?_)
  · refine a_iconst (pc := 23) hG dX12_ways_23 (v := (-1 : Int32)) rfl ?_
    exact a_iret (pc := 24) hG hd dX12_ways_24
  refine a_iload_n (pc := 13) hG 2 rfl dX12_ways_13 rfl ?_
  refine a_iconst (pc := 14) hG dX12_ways_14 (v := (nI 0)) rfl ?_
  refine a_bipush (pc := 15) hG dX12_ways_15 (v := (nI 6)) rfl ?_
  refine a_csI (pc := 17) hG (As := [.int a1, .int (nI 0), .int (nI 6)]) (st := []) mk_X12_isIn t_1795 (by omega) (fun z hz => c_M_isIn a1 (nI 0) (nI 6) _  z hz) rfl (Nat.le_of_ble_eq_true rfl) hd dX12_ways_17 (fun r5 h4 hd => ?_)
  refine a_if_ne (pc := 20) hG (tgt := 25) hd dX12_ways_20 (by decide) (fun hd => ?_) (fun hd => ?_)
  · refine a_aload_n (pc := 25) hG 0 rfl dX12_ways_25 rfl ?_
    refine a_iload_n (pc := 26) hG 1 rfl dX12_ways_26 rfl ?_
    refine a_cvN (pc := 27) hG (As := [.int a0]) (st := []) sm_0 cl_X12 mk_X12_ordersBy t_1960 (by omega) (fun z hz => c_M_ordersBy F a0 _  z hz) rfl (Nat.le_of_ble_eq_true rfl) hd dX12_ways_27 (fun _ h6 hd => ?_)
    refine a_iconst (pc := 30) hG dX12_ways_30 (v := (nI 0)) rfl ?_
    refine a_istore_nN (pc := 31) hG hd dX12_ways_31 rfl (by decide) (lf := fun x => [(3, .int x), (0, .ref (ad 0)), (1, .int a0), (2, .int a1)]) (fun _ => rfl) (fun v7 hd => ?_)
    refine a_iconst (pc := 32) hG dX12_ways_32 (v := (nI 0)) rfl ?_
    refine a_istoreN (pc := 33) hG hd dX12_ways_33 (by decide) (lf := fun x => [(4, .int x), (3, .int v7), (0, .ref (ad 0)), (1, .int a0), (2, .int a1)]) (fun _ => rfl) (fun v8 hd => ?_)
    refine AW.sub [2, 4, 1, 0] rfl ?_
    exact w_l_M_ways_0 F (by omega) hG hd
  refine a_iconst (pc := 23) hG dX12_ways_23 (v := (-1 : Int32)) rfl ?_
  exact a_iret (pc := 24) hG hd dX12_ways_24
theorem dX12_valueOf_0 : decode cX12_valueOf 0 = .ok (.aload_n 0, 1) := by decide +kernel
theorem dX12_valueOf_1 : decode cX12_valueOf 1 = .ok (.getfield 33, 3) := by decide +kernel
theorem dX12_valueOf_4 : decode cX12_valueOf 4 = .ok (.bipush 96, 2) := by decide +kernel
theorem dX12_valueOf_6 : decode cX12_valueOf 6 = .ok (.iload_n 2, 1) := by decide +kernel
theorem dX12_valueOf_7 : decode cX12_valueOf 7 = .ok (.iadd, 1) := by decide +kernel
theorem dX12_valueOf_8 : decode cX12_valueOf 8 = .ok (.iaload, 1) := by decide +kernel
theorem dX12_valueOf_9 : decode cX12_valueOf 9 = .ok (.ifCond .ne 12, 3) := by decide +kernel
theorem dX12_valueOf_12 : decode cX12_valueOf 12 = .ok (.aload_n 0, 1) := by decide +kernel
theorem dX12_valueOf_13 : decode cX12_valueOf 13 = .ok (.iload_n 2, 1) := by decide +kernel
theorem dX12_valueOf_14 : decode cX12_valueOf 14 = .ok (.iconst 0, 1) := by decide +kernel
theorem dX12_valueOf_15 : decode cX12_valueOf 15 = .ok (.invokevirtual 272, 3) := by decide +kernel
theorem dX12_valueOf_18 : decode cX12_valueOf 18 = .ok (.ifCond .ne 5, 3) := by decide +kernel
theorem dX12_valueOf_21 : decode cX12_valueOf 21 = .ok (.iconst 0, 1) := by decide +kernel
theorem dX12_valueOf_22 : decode cX12_valueOf 22 = .ok (.ireturn, 1) := by decide +kernel
theorem dX12_valueOf_23 : decode cX12_valueOf 23 = .ok (.aload_n 0, 1) := by decide +kernel
theorem dX12_valueOf_24 : decode cX12_valueOf 24 = .ok (.iload_n 2, 1) := by decide +kernel
theorem dX12_valueOf_25 : decode cX12_valueOf 25 = .ok (.aload_n 0, 1) := by decide +kernel
theorem dX12_valueOf_26 : decode cX12_valueOf 26 = .ok (.getfield 33, 3) := by decide +kernel
theorem dX12_valueOf_29 : decode cX12_valueOf 29 = .ok (.bipush 126, 2) := by decide +kernel
theorem dX12_valueOf_31 : decode cX12_valueOf 31 = .ok (.iload_n 1, 1) := by decide +kernel
theorem dX12_valueOf_32 : decode cX12_valueOf 32 = .ok (.iadd, 1) := by decide +kernel
theorem dX12_valueOf_33 : decode cX12_valueOf 33 = .ok (.iaload, 1) := by decide +kernel
theorem dX12_valueOf_34 : decode cX12_valueOf 34 = .ok (.invokevirtual 319, 3) := by decide +kernel
theorem dX12_valueOf_37 : decode cX12_valueOf 37 = .ok (.istore_n 3, 1) := by decide +kernel
theorem dX12_valueOf_38 : decode cX12_valueOf 38 = .ok (.aload_n 0, 1) := by decide +kernel
theorem dX12_valueOf_39 : decode cX12_valueOf 39 = .ok (.iload_n 2, 1) := by decide +kernel
theorem dX12_valueOf_40 : decode cX12_valueOf 40 = .ok (.iload_n 3, 1) := by decide +kernel
theorem dX12_valueOf_41 : decode cX12_valueOf 41 = .ok (.invokevirtual 275, 3) := by decide +kernel
theorem dX12_valueOf_44 : decode cX12_valueOf 44 = .ok (.aload_n 0, 1) := by decide +kernel
theorem dX12_valueOf_45 : decode cX12_valueOf 45 = .ok (.bipush 61, 2) := by decide +kernel
theorem dX12_valueOf_47 : decode cX12_valueOf 47 = .ok (.iload_n 3, 1) := by decide +kernel
theorem dX12_valueOf_48 : decode cX12_valueOf 48 = .ok (.invokevirtual 240, 3) := by decide +kernel
theorem dX12_valueOf_51 : decode cX12_valueOf 51 = .ok (.isub, 1) := by decide +kernel
theorem dX12_valueOf_52 : decode cX12_valueOf 52 = .ok (.ireturn, 1) := by decide +kernel
set_option maxHeartbeats 4000000 in
theorem c_M_valueOf {ad wad : Nat → Nat} (F : Nat) (a0 : Int32) (a1 : Int32) (h : HS)  (q : Int32 × HS) (hd : f_M_valueOf F a0 a1 h = some q) : Ctr SHm ad wad yX12_valueOf cX12_valueOf 4 (some .int) 8 [.ref (ad 0), .int a0, .int a1] h (some (.int q.1), q.2) := by
  refine enter (own := RX12) (lv := [(0, .ref (ad 0)), (1, .int a0), (2, .int a1)]) (by decide +kernel) rfl (Nat.le_of_ble_eq_true rfl) rfl (fun Γ hG => ?_)
  unfold f_M_valueOf at hd
  refine a_aload_n (pc := 0) hG 0 rfl dX12_valueOf_0 rfl ?_
  refine a_getR (pc := 1) hG sm_0 cl_X12 ok_X12 6 (by decide) rfl t_1615 dX12_valueOf_1 ?_
  refine a_bipush (pc := 4) hG dX12_valueOf_4 (v := (nI 96)) rfl ?_
  refine a_iload_n (pc := 6) hG 2 rfl dX12_valueOf_6 rfl ?_
  refine a_iadd (pc := 7) hG dX12_valueOf_7 ?_
  refine a_iald (pc := 8) hG sm_2 hd dX12_valueOf_8 (fun hd => ?_)
  refine a_if_ne (pc := 9) hG (tgt := 21) hd dX12_valueOf_9 (by decide) (fun hd => ?_) (fun hd => ?_)
  · refine a_iconst (pc := 21) hG dX12_valueOf_21 (v := (nI 0)) rfl ?_
    exact a_iret (pc := 22) hG hd dX12_valueOf_22
  refine a_aload_n (pc := 12) hG 0 rfl dX12_valueOf_12 rfl ?_
  refine a_iload_n (pc := 13) hG 2 rfl dX12_valueOf_13 rfl ?_
  refine a_iconst (pc := 14) hG dX12_valueOf_14 (v := (nI 0)) rfl ?_
  refine a_cvI (pc := 15) hG (As := [.int a1, .int (nI 0)]) (st := []) sm_0 cl_X12 mk_X12_isSafe t_1889 (by omega) (fun z hz => c_M_isSafe F a1 (nI 0) _  z hz) rfl (Nat.le_of_ble_eq_true rfl) hd dX12_valueOf_15 (fun r2 h1 hd => ?_)
  refine a_if_ne (pc := 18) hG (tgt := 23) hd dX12_valueOf_18 (by decide) (fun hd => ?_) (fun hd => ?_)
  · refine a_aload_n (pc := 23) hG 0 rfl dX12_valueOf_23 rfl ?_
    refine a_iload_n (pc := 24) hG 2 rfl dX12_valueOf_24 rfl ?_
    refine a_aload_n (pc := 25) hG 0 rfl dX12_valueOf_25 rfl ?_
    refine a_getR (pc := 26) hG sm_0 cl_X12 ok_X12 6 (by decide) rfl t_1615 dX12_valueOf_26 ?_
    refine a_bipush (pc := 29) hG dX12_valueOf_29 (v := (nI 126)) rfl ?_
    refine a_iload_n (pc := 31) hG 1 rfl dX12_valueOf_31 rfl ?_
    refine a_iadd (pc := 32) hG dX12_valueOf_32 ?_
    refine a_iald (pc := 33) hG sm_2 hd dX12_valueOf_33 (fun hd => ?_)
    refine a_cvI (pc := 34) hG (As := [.int a1, .int (h1.1 2 ((nI 126) + a0).toNatClampNeg)]) (st := []) sm_0 cl_X12 mk_X12_nearestOf t_1956 (by omega) (fun z hz => c_M_nearestOf F a1 (h1.1 2 ((nI 126) + a0).toNatClampNeg) _  z hz) rfl (Nat.le_of_ble_eq_true rfl) hd dX12_valueOf_34 (fun r4 h3 hd => ?_)
    refine a_istore_nN (pc := 37) hG hd dX12_valueOf_37 rfl (by decide) (lf := fun x => [(3, .int x), (0, .ref (ad 0)), (1, .int a0), (2, .int a1)]) (fun _ => rfl) (fun v5 hd => ?_)
    refine a_aload_n (pc := 38) hG 1 rfl dX12_valueOf_38 rfl ?_
    refine a_iload_n (pc := 39) hG 3 rfl dX12_valueOf_39 rfl ?_
    refine a_iload_n (pc := 40) hG 0 rfl dX12_valueOf_40 rfl ?_
    refine a_cvI (pc := 41) hG (As := [.int a1, .int v5]) (st := []) sm_0 cl_X12 mk_X12_payOf t_1929 (by omega) (fun z hz => c_M_payOf F a1 v5 _  z hz) rfl (Nat.le_of_ble_eq_true rfl) hd dX12_valueOf_41 (fun r7 h6 hd => ?_)
    refine a_aload_n (pc := 44) hG 1 rfl dX12_valueOf_44 rfl ?_
    refine a_bipush (pc := 45) hG dX12_valueOf_45 (v := (nI 61)) rfl ?_
    refine a_iload_n (pc := 47) hG 0 rfl dX12_valueOf_47 rfl ?_
    refine a_cvI (pc := 48) hG (As := [.int (nI 61), .int v5]) (st := [.int r7]) sm_0 cl_X12 mk_X12_sum t_1846 (by omega) (fun z hz => c_M_sum F (nI 61) v5 _  z hz) rfl (Nat.le_of_ble_eq_true rfl) hd dX12_valueOf_48 (fun r9 h8 hd => ?_)
    refine a_isub (pc := 51) hG dX12_valueOf_51 ?_
    exact a_iret (pc := 52) hG hd dX12_valueOf_52
  refine a_iconst (pc := 21) hG dX12_valueOf_21 (v := (nI 0)) rfl ?_
  exact a_iret (pc := 22) hG hd dX12_valueOf_22
theorem dX12_value_0 : decode cX12_value 0 = .ok (.aload_n 0, 1) := by decide +kernel
theorem dX12_value_1 : decode cX12_value 1 = .ok (.aload_n 0, 1) := by decide +kernel
theorem dX12_value_2 : decode cX12_value 2 = .ok (.iload_n 1, 1) := by decide +kernel
theorem dX12_value_3 : decode cX12_value 3 = .ok (.invokevirtual 269, 3) := by decide +kernel
theorem dX12_value_6 : decode cX12_value 6 = .ok (.ifCond .eq 11, 3) := by decide +kernel
theorem dX12_value_9 : decode cX12_value 9 = .ok (.aload_n 0, 1) := by decide +kernel
theorem dX12_value_10 : decode cX12_value 10 = .ok (.iload_n 2, 1) := by decide +kernel
theorem dX12_value_11 : decode cX12_value 11 = .ok (.invokevirtual 255, 3) := by decide +kernel
theorem dX12_value_14 : decode cX12_value 14 = .ok (.ifCond .ne 7, 3) := by decide +kernel
theorem dX12_value_17 : decode cX12_value 17 = .ok (.iconst 1, 1) := by decide +kernel
theorem dX12_value_18 : decode cX12_value 18 = .ok (.goto 4, 3) := by decide +kernel
theorem dX12_value_21 : decode cX12_value 21 = .ok (.iconst 0, 1) := by decide +kernel
theorem dX12_value_22 : decode cX12_value 22 = .ok (.invokevirtual 258, 3) := by decide +kernel
theorem dX12_value_25 : decode cX12_value 25 = .ok (.ifCond .eq 7, 3) := by decide +kernel
theorem dX12_value_28 : decode cX12_value 28 = .ok (.iconst 0, 1) := by decide +kernel
theorem dX12_value_29 : decode cX12_value 29 = .ok (.goto 9, 3) := by decide +kernel
theorem dX12_value_32 : decode cX12_value 32 = .ok (.aload_n 0, 1) := by decide +kernel
theorem dX12_value_33 : decode cX12_value 33 = .ok (.iload_n 1, 1) := by decide +kernel
theorem dX12_value_34 : decode cX12_value 34 = .ok (.iload_n 2, 1) := by decide +kernel
theorem dX12_value_35 : decode cX12_value 35 = .ok (.invokevirtual 325, 3) := by decide +kernel
theorem dX12_value_38 : decode cX12_value 38 = .ok (.ireturn, 1) := by decide +kernel
set_option maxHeartbeats 4000000 in
theorem c_M_value {ad wad : Nat → Nat} (F : Nat) (a0 : Int32) (a1 : Int32) (h : HS)  (q : Int32 × HS) (hd : f_M_value F a0 a1 h = some q) : Ctr SHm ad wad yX12_value cX12_value 3 (some .int) 9 [.ref (ad 0), .int a0, .int a1] h (some (.int q.1), q.2) := by
  refine enter (own := RX12) (lv := [(0, .ref (ad 0)), (1, .int a0), (2, .int a1)]) (by decide +kernel) rfl (Nat.le_of_ble_eq_true rfl) rfl (fun Γ hG => ?_)
  unfold f_M_value at hd
  refine a_aload_n (pc := 0) hG 0 rfl dX12_value_0 rfl ?_
  refine a_aload_n (pc := 1) hG 0 rfl dX12_value_1 rfl ?_
  refine a_iload_n (pc := 2) hG 1 rfl dX12_value_2 rfl ?_
  refine a_cvI (pc := 3) hG (As := [.int a0]) (st := [.ref (ad 0)]) sm_0 cl_X12 mk_X12_isClerk t_1873 (by omega) (fun z hz => c_M_isClerk a0 _  z hz) rfl (Nat.le_of_ble_eq_true rfl) hd dX12_value_3 (fun r2 h1 hd => ?_)
  refine a_join hd (Q := fun J : Int32 → HS → Option (Int32 × HS) => ∀ (v4 : Int32) (h5 : HS), J v4 h5 = some q → AW SHm ad 3 (some (.int q.1), q.2) Γ 22 [(0, .ref (ad 0)), (1, .int a0), (2, .int a1)] [.int v4, .ref (ad 0)] h5) (fun v4 h5 hd => ?_) (fun J3 hJ3 hd => ?_)
  · refine a_cvI (pc := 22) hG (As := [.int v4]) (st := []) sm_0 cl_X12 mk_X12_throwsIf t_1834 (by omega) (fun z hz => c_M_throwsIf v4 _  z hz) rfl (Nat.le_of_ble_eq_true rfl) hd dX12_value_22 (fun r7 h6 hd => ?_)
    refine a_if_eq (pc := 25) hG (tgt := 32) hd dX12_value_25 (by decide) (fun hd => ?_) (fun hd => ?_)
    · refine a_aload_n (pc := 32) hG 0 rfl dX12_value_32 rfl ?_
      refine a_iload_n (pc := 33) hG 1 rfl dX12_value_33 rfl ?_
      refine a_iload_n (pc := 34) hG 2 rfl dX12_value_34 rfl ?_
      refine a_cvI (pc := 35) hG (As := [.int a0, .int a1]) (st := []) sm_0 cl_X12 mk_X12_valueOf t_1991 (by omega) (fun z hz => c_M_valueOf F a0 a1 _  z hz) rfl (Nat.le_of_ble_eq_true rfl) hd dX12_value_35 (fun r9 h8 hd => ?_)
      exact a_iret (pc := 38) hG hd dX12_value_38
    refine a_iconst (pc := 28) hG dX12_value_28 (v := (nI 0)) rfl ?_
    refine a_goto (pc := 29) hG (tgt := 38) dX12_value_29 (by decide) ?_
    exact a_iret (pc := 38) hG hd dX12_value_38
  refine a_join hd (Q := fun J : HS → Option (Int32 × HS) => ∀  (h11 : HS), J  h11 = some q → AW SHm ad 3 (some (.int q.1), q.2) Γ 17 [(0, .ref (ad 0)), (1, .int a0), (2, .int a1)] [.ref (ad 0)] h11) (fun  h11 hd => ?_) (fun J10 hJ10 hd => ?_)
  · refine a_iconst (pc := 17) hG dX12_value_17 (v := (nI 1)) rfl ?_
    refine a_goto (pc := 18) hG (tgt := 22) dX12_value_18 (by decide) ?_
    exact AW.sub [0, 1, 2] rfl (hJ3 _ _ hd)
  refine a_if_eq (pc := 6) hG (tgt := 17) hd dX12_value_6 (by decide) (fun hd => ?_) (fun hd => ?_)
  · exact AW.sub [0, 1, 2] rfl (hJ10  _ hd)
  refine a_aload_n (pc := 9) hG 0 rfl dX12_value_9 rfl ?_
  refine a_iload_n (pc := 10) hG 2 rfl dX12_value_10 rfl ?_
  refine a_cvI (pc := 11) hG (As := [.int a1]) (st := [.ref (ad 0)]) sm_0 cl_X12 mk_X12_isCause t_1830 (by omega) (fun z hz => c_M_isCause a1 _  z hz) rfl (Nat.le_of_ble_eq_true rfl) hd dX12_value_11 (fun r13 h12 hd => ?_)
  refine a_if_ne (pc := 14) hG (tgt := 21) hd dX12_value_14 (by decide) (fun hd => ?_) (fun hd => ?_)
  · refine a_iconst (pc := 21) hG dX12_value_21 (v := (nI 0)) rfl ?_
    exact AW.sub [0, 1, 2] rfl (hJ3 _ _ hd)
  exact AW.sub [0, 1, 2] rfl (hJ10  _ hd)
theorem dX12_rowValue_0 : decode cX12_rowValue 0 = .ok (.iconst 0, 1) := by decide +kernel
theorem dX12_rowValue_1 : decode cX12_rowValue 1 = .ok (.istore_n 1, 1) := by decide +kernel
theorem dX12_rowValue_2 : decode cX12_rowValue 2 = .ok (.iconst 0, 1) := by decide +kernel
theorem dX12_rowValue_3 : decode cX12_rowValue 3 = .ok (.istore_n 2, 1) := by decide +kernel
theorem dX12_rowValue_4 : decode cX12_rowValue 4 = .ok (.iconst 0, 1) := by decide +kernel
theorem dX12_rowValue_5 : decode cX12_rowValue 5 = .ok (.istore_n 3, 1) := by decide +kernel
theorem dX12_rowValue_6 : decode cX12_rowValue 6 = .ok (.iload_n 3, 1) := by decide +kernel
theorem dX12_rowValue_7 : decode cX12_rowValue 7 = .ok (.aload_n 0, 1) := by decide +kernel
theorem dX12_rowValue_8 : decode cX12_rowValue 8 = .ok (.getfield 33, 3) := by decide +kernel
theorem dX12_rowValue_11 : decode cX12_rowValue 11 = .ok (.iconst 2, 1) := by decide +kernel
theorem dX12_rowValue_12 : decode cX12_rowValue 12 = .ok (.iaload, 1) := by decide +kernel
theorem dX12_rowValue_13 : decode cX12_rowValue 13 = .ok (.if_icmp .ge 79, 3) := by decide +kernel
theorem dX12_rowValue_16 : decode cX12_rowValue 16 = .ok (.aload_n 0, 1) := by decide +kernel
theorem dX12_rowValue_17 : decode cX12_rowValue 17 = .ok (.getfield 62, 3) := by decide +kernel
theorem dX12_rowValue_20 : decode cX12_rowValue 20 = .ok (.iload_n 3, 1) := by decide +kernel
theorem dX12_rowValue_21 : decode cX12_rowValue 21 = .ok (.iaload, 1) := by decide +kernel
theorem dX12_rowValue_22 : decode cX12_rowValue 22 = .ok (.ifCond .ne 6, 3) := by decide +kernel
theorem dX12_rowValue_25 : decode cX12_rowValue 25 = .ok (.goto 61, 3) := by decide +kernel
theorem dX12_rowValue_28 : decode cX12_rowValue 28 = .ok (.aload_n 0, 1) := by decide +kernel
theorem dX12_rowValue_29 : decode cX12_rowValue 29 = .ok (.getfield 62, 3) := by decide +kernel
theorem dX12_rowValue_32 : decode cX12_rowValue 32 = .ok (.iload_n 3, 1) := by decide +kernel
theorem dX12_rowValue_33 : decode cX12_rowValue 33 = .ok (.iaload, 1) := by decide +kernel
theorem dX12_rowValue_34 : decode cX12_rowValue 34 = .ok (.iconst 1, 1) := by decide +kernel
theorem dX12_rowValue_35 : decode cX12_rowValue 35 = .ok (.isub, 1) := by decide +kernel
theorem dX12_rowValue_36 : decode cX12_rowValue 36 = .ok (.istore 4, 2) := by decide +kernel
theorem dX12_rowValue_38 : decode cX12_rowValue 38 = .ok (.aload_n 0, 1) := by decide +kernel
theorem dX12_rowValue_39 : decode cX12_rowValue 39 = .ok (.getfield 33, 3) := by decide +kernel
theorem dX12_rowValue_42 : decode cX12_rowValue 42 = .ok (.sipush 131, 3) := by decide +kernel
theorem dX12_rowValue_45 : decode cX12_rowValue 45 = .ok (.iload_n 3, 1) := by decide +kernel
theorem dX12_rowValue_46 : decode cX12_rowValue 46 = .ok (.iadd, 1) := by decide +kernel
theorem dX12_rowValue_47 : decode cX12_rowValue 47 = .ok (.iaload, 1) := by decide +kernel
theorem dX12_rowValue_48 : decode cX12_rowValue 48 = .ok (.ifCond .gt 12, 3) := by decide +kernel
theorem dX12_rowValue_51 : decode cX12_rowValue 51 = .ok (.iload_n 1, 1) := by decide +kernel
theorem dX12_rowValue_52 : decode cX12_rowValue 52 = .ok (.iload 4, 2) := by decide +kernel
theorem dX12_rowValue_54 : decode cX12_rowValue 54 = .ok (.invokestatic 206, 3) := by decide +kernel
theorem dX12_rowValue_57 : decode cX12_rowValue 57 = .ok (.ifCond .eq 7, 3) := by decide +kernel
theorem dX12_rowValue_60 : decode cX12_rowValue 60 = .ok (.ldc_w 328, 3) := by decide +kernel
theorem dX12_rowValue_63 : decode cX12_rowValue 63 = .ok (.ireturn, 1) := by decide +kernel
theorem dX12_rowValue_64 : decode cX12_rowValue 64 = .ok (.iload_n 1, 1) := by decide +kernel
theorem dX12_rowValue_65 : decode cX12_rowValue 65 = .ok (.iconst 1, 1) := by decide +kernel
theorem dX12_rowValue_66 : decode cX12_rowValue 66 = .ok (.iload 4, 2) := by decide +kernel
theorem dX12_rowValue_68 : decode cX12_rowValue 68 = .ok (.ishl, 1) := by decide +kernel
theorem dX12_rowValue_69 : decode cX12_rowValue 69 = .ok (.ior, 1) := by decide +kernel
theorem dX12_rowValue_70 : decode cX12_rowValue 70 = .ok (.istore_n 1, 1) := by decide +kernel
theorem dX12_rowValue_71 : decode cX12_rowValue 71 = .ok (.iload_n 2, 1) := by decide +kernel
theorem dX12_rowValue_72 : decode cX12_rowValue 72 = .ok (.aload_n 0, 1) := by decide +kernel
theorem dX12_rowValue_73 : decode cX12_rowValue 73 = .ok (.getfield 59, 3) := by decide +kernel
theorem dX12_rowValue_76 : decode cX12_rowValue 76 = .ok (.bipush 6, 2) := by decide +kernel
theorem dX12_rowValue_78 : decode cX12_rowValue 78 = .ok (.iload_n 3, 1) := by decide +kernel
theorem dX12_rowValue_79 : decode cX12_rowValue 79 = .ok (.imul, 1) := by decide +kernel
theorem dX12_rowValue_80 : decode cX12_rowValue 80 = .ok (.iload 4, 2) := by decide +kernel
theorem dX12_rowValue_82 : decode cX12_rowValue 82 = .ok (.iadd, 1) := by decide +kernel
theorem dX12_rowValue_83 : decode cX12_rowValue 83 = .ok (.iaload, 1) := by decide +kernel
theorem dX12_rowValue_84 : decode cX12_rowValue 84 = .ok (.iadd, 1) := by decide +kernel
theorem dX12_rowValue_85 : decode cX12_rowValue 85 = .ok (.istore_n 2, 1) := by decide +kernel
theorem dX12_rowValue_86 : decode cX12_rowValue 86 = .ok (.iinc 3 1, 3) := by decide +kernel
theorem dX12_rowValue_89 : decode cX12_rowValue 89 = .ok (.goto (-83), 3) := by decide +kernel
theorem dX12_rowValue_92 : decode cX12_rowValue 92 = .ok (.iload_n 2, 1) := by decide +kernel
theorem dX12_rowValue_93 : decode cX12_rowValue 93 = .ok (.ireturn, 1) := by decide +kernel
set_option maxHeartbeats 4000000 in
theorem w_l_M_rowValue_0 {ad wad : Nat → Nat} {Γ : Ctx} (F : Nat) {n : Nat} (hn : 2 ≤ n) (hG : Cx SHm ad wad cX12_rowValue 5 RX12 (some .int) (n) Γ) {q : Int32 × HS} {g : Nat} {x1 : Int32} {x2 : Int32} {x3 : Int32} {h : HS} (hd : l_M_rowValue_0 F g x1 x2 x3 h = some q) : AW SHm ad 5 (some (.int q.1), q.2) Γ 6 [(0, .ref (ad 0)), (1, .int x1), (2, .int x2), (3, .int x3)] [] h := by
  induction g generalizing x1 x2 x3 h with
  | zero => unfold l_M_rowValue_0 at hd; cases hd
  | succ g ih =>
    unfold l_M_rowValue_0 at hd
    refine a_iload_n (pc := 6) hG 3 rfl dX12_rowValue_6 rfl ?_
    refine a_aload_n (pc := 7) hG 0 rfl dX12_rowValue_7 rfl ?_
    refine a_getR (pc := 8) hG sm_0 cl_X12 ok_X12 6 (by decide) rfl t_1615 dX12_rowValue_8 ?_
    refine a_iconst (pc := 11) hG dX12_rowValue_11 (v := (nI 2)) rfl ?_
    refine a_iald (pc := 12) hG sm_2 hd dX12_rowValue_12 (fun hd => ?_)
    refine a_ic_ge (pc := 13) hG (tgt := 92) hd dX12_rowValue_13 (by decide) (fun hd => ?_) (fun hd => ?_)
    · refine a_iload_n (pc := 92) hG 2 rfl dX12_rowValue_92 rfl ?_
      exact a_iret (pc := 93) hG hd dX12_rowValue_93
    refine a_aload_n (pc := 16) hG 0 rfl dX12_rowValue_16 rfl ?_
    refine a_getR (pc := 17) hG sm_0 cl_X12 ok_X12 26 (by decide) rfl t_1635 dX12_rowValue_17 ?_
    refine a_iload_n (pc := 20) hG 3 rfl dX12_rowValue_20 rfl ?_
    refine a_iald (pc := 21) hG sm_11 hd dX12_rowValue_21 (fun hd => ?_)
    refine a_join hd (Q := fun J : Int32 → Int32 → HS → Option (Int32 × HS) => ∀ (v5 : Int32) (v6 : Int32) (h7 : HS), J v5 v6 h7 = some q → AW SHm ad 5 (some (.int q.1), q.2) Γ 86 [(0, .ref (ad 0)), (1, .int v5), (2, .int v6), (3, .int x3)] [] h7) (fun v5 v6 h7 hd => ?_) (fun J4 hJ4 hd => ?_)
    · refine a_iincN (pc := 86) hG (c0 := (nI 1)) 3 rfl hd dX12_rowValue_86 rfl (by decide) (lf := fun x => [(3, .int x), (0, .ref (ad 0)), (1, .int v5), (2, .int v6)]) (fun _ => rfl) (fun v8 hd => ?_)
      refine a_goto (pc := 89) hG (tgt := 6) dX12_rowValue_89 (by decide) ?_
      exact AW.sub [1, 2, 3, 0] rfl (ih hd)
    refine a_if_ne (pc := 22) hG (tgt := 28) hd dX12_rowValue_22 (by decide) (fun hd => ?_) (fun hd => ?_)
    · refine a_aload_n (pc := 28) hG 0 rfl dX12_rowValue_28 rfl ?_
      refine a_getR (pc := 29) hG sm_0 cl_X12 ok_X12 26 (by decide) rfl t_1635 dX12_rowValue_29 ?_
      refine a_iload_n (pc := 32) hG 3 rfl dX12_rowValue_32 rfl ?_
      refine a_iald (pc := 33) hG sm_11 hd dX12_rowValue_33 (fun hd => ?_)
      refine a_iconst (pc := 34) hG dX12_rowValue_34 (v := (nI 1)) rfl ?_
      refine a_isub (pc := 35) hG dX12_rowValue_35 ?_
      refine a_istoreN (pc := 36) hG hd dX12_rowValue_36 (by decide) (lf := fun x => [(4, .int x), (0, .ref (ad 0)), (1, .int x1), (2, .int x2), (3, .int x3)]) (fun _ => rfl) (fun v9 hd => ?_)
      refine a_aload_n (pc := 38) hG 1 rfl dX12_rowValue_38 rfl ?_
      refine a_getR (pc := 39) hG sm_0 cl_X12 ok_X12 6 (by decide) rfl t_1615 dX12_rowValue_39 ?_
      refine a_sipush (pc := 42) hG dX12_rowValue_42 (v := (nI 131)) rfl ?_
      refine a_iload_n (pc := 45) hG 4 rfl dX12_rowValue_45 rfl ?_
      refine a_iadd (pc := 46) hG dX12_rowValue_46 ?_
      refine a_iald (pc := 47) hG sm_2 hd dX12_rowValue_47 (fun hd => ?_)
      refine a_if_gt (pc := 48) hG (tgt := 60) hd dX12_rowValue_48 (by decide) (fun hd => ?_) (fun hd => ?_)
      · refine a_ldc_w (pc := 60) hG (v := (-1000000 : Int32)) t_2003 dX12_rowValue_60 ?_
        exact a_iret (pc := 63) hG hd dX12_rowValue_63
      refine a_iload_n (pc := 51) hG 2 rfl dX12_rowValue_51 rfl ?_
      refine a_iload (pc := 52) hG 0 rfl dX12_rowValue_52 ?_
      refine a_csI (pc := 54) hG (As := [.int x1, .int v9]) (st := []) mk_X12_bitOf t_1780 (by omega) (fun z hz => c_M_bitOf x1 v9 _  z hz) rfl (Nat.le_of_ble_eq_true rfl) hd dX12_rowValue_54 (fun r11 h10 hd => ?_)
      refine a_if_eq (pc := 57) hG (tgt := 64) hd dX12_rowValue_57 (by decide) (fun hd => ?_) (fun hd => ?_)
      · refine a_iload_n (pc := 64) hG 2 rfl dX12_rowValue_64 rfl ?_
        refine a_iconst (pc := 65) hG dX12_rowValue_65 (v := (nI 1)) rfl ?_
        refine a_iload (pc := 66) hG 0 rfl dX12_rowValue_66 ?_
        refine a_ishl (pc := 68) hG dX12_rowValue_68 ?_
        refine a_ior (pc := 69) hG dX12_rowValue_69 ?_
        refine a_istore_nN (pc := 70) hG hd dX12_rowValue_70 rfl (by decide) (lf := fun x => [(1, .int x), (4, .int v9), (0, .ref (ad 0)), (2, .int x2), (3, .int x3)]) (fun _ => rfl) (fun v12 hd => ?_)
        refine a_iload_n (pc := 71) hG 3 rfl dX12_rowValue_71 rfl ?_
        refine a_aload_n (pc := 72) hG 2 rfl dX12_rowValue_72 rfl ?_
        refine a_getR (pc := 73) hG sm_0 cl_X12 ok_X12 25 (by decide) rfl t_1634 dX12_rowValue_73 ?_
        refine a_bipush (pc := 76) hG dX12_rowValue_76 (v := (nI 6)) rfl ?_
        refine a_iload_n (pc := 78) hG 4 rfl dX12_rowValue_78 rfl ?_
        refine a_imul (pc := 79) hG dX12_rowValue_79 ?_
        refine a_iload (pc := 80) hG 1 rfl dX12_rowValue_80 ?_
        refine a_iadd (pc := 82) hG dX12_rowValue_82 ?_
        refine a_iald (pc := 83) hG sm_10 hd dX12_rowValue_83 (fun hd => ?_)
        refine a_iadd (pc := 84) hG dX12_rowValue_84 ?_
        refine a_istore_nN (pc := 85) hG hd dX12_rowValue_85 rfl (by decide) (lf := fun x => [(2, .int x), (1, .int v12), (4, .int v9), (0, .ref (ad 0)), (3, .int x3)]) (fun _ => rfl) (fun v13 hd => ?_)
        exact AW.sub [3, 1, 0, 4] rfl (hJ4 _ _ _ hd)
      refine a_ldc_w (pc := 60) hG (v := (-1000000 : Int32)) t_2003 dX12_rowValue_60 ?_
      exact a_iret (pc := 63) hG hd dX12_rowValue_63
    refine a_goto (pc := 25) hG (tgt := 86) dX12_rowValue_25 (by decide) ?_
    exact AW.sub [0, 1, 2, 3] rfl (hJ4 _ _ _ hd)
set_option maxHeartbeats 4000000 in
theorem c_M_rowValue {ad wad : Nat → Nat} (F : Nat)  (h : HS)  (q : Int32 × HS) (hd : f_M_rowValue F  h = some q) : Ctr SHm ad wad yX12_rowValue cX12_rowValue 5 (some .int) 2 [.ref (ad 0)] h (some (.int q.1), q.2) := by
  refine enter (own := RX12) (lv := [(0, .ref (ad 0))]) (by decide +kernel) rfl (Nat.le_of_ble_eq_true rfl) rfl (fun Γ hG => ?_)
  unfold f_M_rowValue at hd
  refine a_iconst (pc := 0) hG dX12_rowValue_0 (v := (nI 0)) rfl ?_
  refine a_istore_nN (pc := 1) hG hd dX12_rowValue_1 rfl (by decide) (lf := fun x => [(1, .int x), (0, .ref (ad 0))]) (fun _ => rfl) (fun v1 hd => ?_)
  refine a_iconst (pc := 2) hG dX12_rowValue_2 (v := (nI 0)) rfl ?_
  refine a_istore_nN (pc := 3) hG hd dX12_rowValue_3 rfl (by decide) (lf := fun x => [(2, .int x), (1, .int v1), (0, .ref (ad 0))]) (fun _ => rfl) (fun v2 hd => ?_)
  refine a_iconst (pc := 4) hG dX12_rowValue_4 (v := (nI 0)) rfl ?_
  refine a_istore_nN (pc := 5) hG hd dX12_rowValue_5 rfl (by decide) (lf := fun x => [(3, .int x), (2, .int v2), (1, .int v1), (0, .ref (ad 0))]) (fun _ => rfl) (fun v3 hd => ?_)
  refine AW.sub [3, 2, 1, 0] rfl ?_
  exact w_l_M_rowValue_0 F (by omega) hG hd
