theorem dX9_proBehind_0 : decode cX9_proBehind 0 = .ok (.aload_n 0, 1) := by decide +kernel
theorem dX9_proBehind_1 : decode cX9_proBehind 1 = .ok (.getfield 32, 3) := by decide +kernel
theorem dX9_proBehind_4 : decode cX9_proBehind 4 = .ok (.iload_n 1, 1) := by decide +kernel
theorem dX9_proBehind_5 : decode cX9_proBehind 5 = .ok (.iconst 0, 1) := by decide +kernel
theorem dX9_proBehind_6 : decode cX9_proBehind 6 = .ok (.invokevirtual 46, 3) := by decide +kernel
theorem dX9_proBehind_9 : decode cX9_proBehind 9 = .ok (.aload_n 0, 1) := by decide +kernel
theorem dX9_proBehind_10 : decode cX9_proBehind 10 = .ok (.getfield 9, 3) := by decide +kernel
theorem dX9_proBehind_13 : decode cX9_proBehind 13 = .ok (.iload_n 2, 1) := by decide +kernel
theorem dX9_proBehind_14 : decode cX9_proBehind 14 = .ok (.iaload, 1) := by decide +kernel
theorem dX9_proBehind_15 : decode cX9_proBehind 15 = .ok (.iadd, 1) := by decide +kernel
theorem dX9_proBehind_16 : decode cX9_proBehind 16 = .ok (.ireturn, 1) := by decide +kernel
set_option maxHeartbeats 4000000 in
theorem c_Ways_proBehind {ad wad : Nat → Nat} (a0 : Int32) (a1 : Int32) (h : HS)  (q : Int32 × HS) (hd : f_Ways_proBehind a0 a1 h = some q) : Ctr SHc ad wad yX9_proBehind cX9_proBehind 3 (some .int) 2 [.ref (ad 31), .int a0, .int a1] h (some (.int q.1), q.2) := by
  refine enter (own := RX9) (lv := [(0, .ref (ad 31)), (1, .int a0), (2, .int a1)]) (by decide +kernel) rfl (Nat.le_of_ble_eq_true rfl) rfl (fun Γ hG => ?_)
  unfold f_Ways_proBehind at hd
  refine a_aload_n (pc := 0) hG 0 rfl dX9_proBehind_0 rfl ?_
  refine a_getR (pc := 1) hG sc_31 cl_X9 ok_X9 1 (by decide) rfl t_289 dX9_proBehind_1 ?_
  refine a_iload_n (pc := 4) hG 1 rfl dX9_proBehind_4 rfl ?_
  refine a_iconst (pc := 5) hG dX9_proBehind_5 (v := (nI 0)) rfl ?_
  refine a_cvI (pc := 6) hG (As := [.int a0, .int (nI 0)]) (st := []) sc_20 cl_X0 mk_X0_ofCause t_953 (by omega) (fun z hz => c_Desk_ofCause a0 (nI 0) _  z hz) rfl (Nat.le_of_ble_eq_true rfl) hd dX9_proBehind_6 (fun r2 h1 hd => ?_)
  refine a_aload_n (pc := 9) hG 0 rfl dX9_proBehind_9 rfl ?_
  refine a_getR (pc := 10) hG sc_31 cl_X9 ok_X9 2 (by decide) rfl t_290 dX9_proBehind_10 ?_
  refine a_iload_n (pc := 13) hG 2 rfl dX9_proBehind_13 rfl ?_
  refine a_iald (pc := 14) hG sc_32 hd dX9_proBehind_14 (fun hd => ?_)
  refine a_iadd (pc := 15) hG dX9_proBehind_15 ?_
  exact a_iret (pc := 16) hG hd dX9_proBehind_16
theorem dX9_contraBehind_0 : decode cX9_contraBehind 0 = .ok (.aload_n 0, 1) := by decide +kernel
theorem dX9_contraBehind_1 : decode cX9_contraBehind 1 = .ok (.getfield 32, 3) := by decide +kernel
theorem dX9_contraBehind_4 : decode cX9_contraBehind 4 = .ok (.iload_n 1, 1) := by decide +kernel
theorem dX9_contraBehind_5 : decode cX9_contraBehind 5 = .ok (.iconst 1, 1) := by decide +kernel
theorem dX9_contraBehind_6 : decode cX9_contraBehind 6 = .ok (.invokevirtual 46, 3) := by decide +kernel
theorem dX9_contraBehind_9 : decode cX9_contraBehind 9 = .ok (.aload_n 0, 1) := by decide +kernel
theorem dX9_contraBehind_10 : decode cX9_contraBehind 10 = .ok (.getfield 15, 3) := by decide +kernel
theorem dX9_contraBehind_13 : decode cX9_contraBehind 13 = .ok (.iload_n 2, 1) := by decide +kernel
theorem dX9_contraBehind_14 : decode cX9_contraBehind 14 = .ok (.iaload, 1) := by decide +kernel
theorem dX9_contraBehind_15 : decode cX9_contraBehind 15 = .ok (.iadd, 1) := by decide +kernel
theorem dX9_contraBehind_16 : decode cX9_contraBehind 16 = .ok (.ireturn, 1) := by decide +kernel
set_option maxHeartbeats 4000000 in
theorem c_Ways_contraBehind {ad wad : Nat → Nat} (a0 : Int32) (a1 : Int32) (h : HS)  (q : Int32 × HS) (hd : f_Ways_contraBehind a0 a1 h = some q) : Ctr SHc ad wad yX9_contraBehind cX9_contraBehind 3 (some .int) 2 [.ref (ad 31), .int a0, .int a1] h (some (.int q.1), q.2) := by
  refine enter (own := RX9) (lv := [(0, .ref (ad 31)), (1, .int a0), (2, .int a1)]) (by decide +kernel) rfl (Nat.le_of_ble_eq_true rfl) rfl (fun Γ hG => ?_)
  unfold f_Ways_contraBehind at hd
  refine a_aload_n (pc := 0) hG 0 rfl dX9_contraBehind_0 rfl ?_
  refine a_getR (pc := 1) hG sc_31 cl_X9 ok_X9 1 (by decide) rfl t_289 dX9_contraBehind_1 ?_
  refine a_iload_n (pc := 4) hG 1 rfl dX9_contraBehind_4 rfl ?_
  refine a_iconst (pc := 5) hG dX9_contraBehind_5 (v := (nI 1)) rfl ?_
  refine a_cvI (pc := 6) hG (As := [.int a0, .int (nI 1)]) (st := []) sc_20 cl_X0 mk_X0_ofCause t_953 (by omega) (fun z hz => c_Desk_ofCause a0 (nI 1) _  z hz) rfl (Nat.le_of_ble_eq_true rfl) hd dX9_contraBehind_6 (fun r2 h1 hd => ?_)
  refine a_aload_n (pc := 9) hG 0 rfl dX9_contraBehind_9 rfl ?_
  refine a_getR (pc := 10) hG sc_31 cl_X9 ok_X9 3 (by decide) rfl t_291 dX9_contraBehind_10 ?_
  refine a_iload_n (pc := 13) hG 2 rfl dX9_contraBehind_13 rfl ?_
  refine a_iald (pc := 14) hG sc_33 hd dX9_contraBehind_14 (fun hd => ?_)
  refine a_iadd (pc := 15) hG dX9_contraBehind_15 ?_
  exact a_iret (pc := 16) hG hd dX9_contraBehind_16
theorem dX9_isNearer_0 : decode cX9_isNearer 0 = .ok (.aload_n 0, 1) := by decide +kernel
theorem dX9_isNearer_1 : decode cX9_isNearer 1 = .ok (.iload_n 1, 1) := by decide +kernel
theorem dX9_isNearer_2 : decode cX9_isNearer 2 = .ok (.iload_n 2, 1) := by decide +kernel
theorem dX9_isNearer_3 : decode cX9_isNearer 3 = .ok (.invokevirtual 51, 3) := by decide +kernel
theorem dX9_isNearer_6 : decode cX9_isNearer 6 = .ok (.aload_n 0, 1) := by decide +kernel
theorem dX9_isNearer_7 : decode cX9_isNearer 7 = .ok (.iload_n 1, 1) := by decide +kernel
theorem dX9_isNearer_8 : decode cX9_isNearer 8 = .ok (.iload_n 3, 1) := by decide +kernel
theorem dX9_isNearer_9 : decode cX9_isNearer 9 = .ok (.invokevirtual 51, 3) := by decide +kernel
theorem dX9_isNearer_12 : decode cX9_isNearer 12 = .ok (.aload_n 0, 1) := by decide +kernel
theorem dX9_isNearer_13 : decode cX9_isNearer 13 = .ok (.iload_n 1, 1) := by decide +kernel
theorem dX9_isNearer_14 : decode cX9_isNearer 14 = .ok (.iload_n 3, 1) := by decide +kernel
theorem dX9_isNearer_15 : decode cX9_isNearer 15 = .ok (.invokevirtual 54, 3) := by decide +kernel
theorem dX9_isNearer_18 : decode cX9_isNearer 18 = .ok (.iadd, 1) := by decide +kernel
theorem dX9_isNearer_19 : decode cX9_isNearer 19 = .ok (.imul, 1) := by decide +kernel
theorem dX9_isNearer_20 : decode cX9_isNearer 20 = .ok (.istore 4, 2) := by decide +kernel
theorem dX9_isNearer_22 : decode cX9_isNearer 22 = .ok (.aload_n 0, 1) := by decide +kernel
theorem dX9_isNearer_23 : decode cX9_isNearer 23 = .ok (.iload_n 1, 1) := by decide +kernel
theorem dX9_isNearer_24 : decode cX9_isNearer 24 = .ok (.iload_n 3, 1) := by decide +kernel
theorem dX9_isNearer_25 : decode cX9_isNearer 25 = .ok (.invokevirtual 51, 3) := by decide +kernel
theorem dX9_isNearer_28 : decode cX9_isNearer 28 = .ok (.aload_n 0, 1) := by decide +kernel
theorem dX9_isNearer_29 : decode cX9_isNearer 29 = .ok (.iload_n 1, 1) := by decide +kernel
theorem dX9_isNearer_30 : decode cX9_isNearer 30 = .ok (.iload_n 2, 1) := by decide +kernel
theorem dX9_isNearer_31 : decode cX9_isNearer 31 = .ok (.invokevirtual 51, 3) := by decide +kernel
theorem dX9_isNearer_34 : decode cX9_isNearer 34 = .ok (.aload_n 0, 1) := by decide +kernel
theorem dX9_isNearer_35 : decode cX9_isNearer 35 = .ok (.iload_n 1, 1) := by decide +kernel
theorem dX9_isNearer_36 : decode cX9_isNearer 36 = .ok (.iload_n 2, 1) := by decide +kernel
theorem dX9_isNearer_37 : decode cX9_isNearer 37 = .ok (.invokevirtual 54, 3) := by decide +kernel
theorem dX9_isNearer_40 : decode cX9_isNearer 40 = .ok (.iadd, 1) := by decide +kernel
theorem dX9_isNearer_41 : decode cX9_isNearer 41 = .ok (.imul, 1) := by decide +kernel
theorem dX9_isNearer_42 : decode cX9_isNearer 42 = .ok (.istore 5, 2) := by decide +kernel
theorem dX9_isNearer_44 : decode cX9_isNearer 44 = .ok (.iload 4, 2) := by decide +kernel
theorem dX9_isNearer_46 : decode cX9_isNearer 46 = .ok (.iload 5, 2) := by decide +kernel
theorem dX9_isNearer_48 : decode cX9_isNearer 48 = .ok (.if_icmp .eq 18, 3) := by decide +kernel
theorem dX9_isNearer_51 : decode cX9_isNearer 51 = .ok (.iload 4, 2) := by decide +kernel
theorem dX9_isNearer_53 : decode cX9_isNearer 53 = .ok (.iload 5, 2) := by decide +kernel
theorem dX9_isNearer_55 : decode cX9_isNearer 55 = .ok (.if_icmp .le 7, 3) := by decide +kernel
theorem dX9_isNearer_58 : decode cX9_isNearer 58 = .ok (.iconst 1, 1) := by decide +kernel
theorem dX9_isNearer_59 : decode cX9_isNearer 59 = .ok (.goto 27, 3) := by decide +kernel
theorem dX9_isNearer_62 : decode cX9_isNearer 62 = .ok (.iconst 0, 1) := by decide +kernel
theorem dX9_isNearer_63 : decode cX9_isNearer 63 = .ok (.goto 23, 3) := by decide +kernel
theorem dX9_isNearer_66 : decode cX9_isNearer 66 = .ok (.aload_n 0, 1) := by decide +kernel
theorem dX9_isNearer_67 : decode cX9_isNearer 67 = .ok (.getfield 18, 3) := by decide +kernel
theorem dX9_isNearer_70 : decode cX9_isNearer 70 = .ok (.iload_n 2, 1) := by decide +kernel
theorem dX9_isNearer_71 : decode cX9_isNearer 71 = .ok (.iaload, 1) := by decide +kernel
theorem dX9_isNearer_72 : decode cX9_isNearer 72 = .ok (.aload_n 0, 1) := by decide +kernel
theorem dX9_isNearer_73 : decode cX9_isNearer 73 = .ok (.getfield 18, 3) := by decide +kernel
theorem dX9_isNearer_76 : decode cX9_isNearer 76 = .ok (.iload_n 3, 1) := by decide +kernel
theorem dX9_isNearer_77 : decode cX9_isNearer 77 = .ok (.iaload, 1) := by decide +kernel
theorem dX9_isNearer_78 : decode cX9_isNearer 78 = .ok (.if_icmp .ge 7, 3) := by decide +kernel
theorem dX9_isNearer_81 : decode cX9_isNearer 81 = .ok (.iconst 1, 1) := by decide +kernel
theorem dX9_isNearer_82 : decode cX9_isNearer 82 = .ok (.goto 4, 3) := by decide +kernel
theorem dX9_isNearer_85 : decode cX9_isNearer 85 = .ok (.iconst 0, 1) := by decide +kernel
theorem dX9_isNearer_86 : decode cX9_isNearer 86 = .ok (.ireturn, 1) := by decide +kernel
set_option maxHeartbeats 4000000 in
theorem c_Ways_isNearer {ad wad : Nat → Nat} (a0 : Int32) (a1 : Int32) (a2 : Int32) (h : HS)  (q : Int32 × HS) (hd : f_Ways_isNearer a0 a1 a2 h = some q) : Ctr SHc ad wad yX9_isNearer cX9_isNearer 6 (some .boolean) 3 [.ref (ad 31), .int a0, .int a1, .int a2] h (some (.int q.1), q.2) := by
  refine enter (own := RX9) (lv := [(0, .ref (ad 31)), (1, .int a0), (2, .int a1), (3, .int a2)]) (by decide +kernel) rfl (Nat.le_of_ble_eq_true rfl) rfl (fun Γ hG => ?_)
  unfold f_Ways_isNearer at hd
  refine a_aload_n (pc := 0) hG 0 rfl dX9_isNearer_0 rfl ?_
  refine a_iload_n (pc := 1) hG 1 rfl dX9_isNearer_1 rfl ?_
  refine a_iload_n (pc := 2) hG 2 rfl dX9_isNearer_2 rfl ?_
  refine a_cvI (pc := 3) hG (As := [.int a0, .int a1]) (st := []) sc_31 cl_X9 mk_X9_proBehind t_969 (by omega) (fun z hz => c_Ways_proBehind a0 a1 _  z hz) rfl (Nat.le_of_ble_eq_true rfl) hd dX9_isNearer_3 (fun r2 h1 hd => ?_)
  refine a_aload_n (pc := 6) hG 0 rfl dX9_isNearer_6 rfl ?_
  refine a_iload_n (pc := 7) hG 1 rfl dX9_isNearer_7 rfl ?_
  refine a_iload_n (pc := 8) hG 3 rfl dX9_isNearer_8 rfl ?_
  refine a_cvI (pc := 9) hG (As := [.int a0, .int a2]) (st := [.int r2]) sc_31 cl_X9 mk_X9_proBehind t_969 (by omega) (fun z hz => c_Ways_proBehind a0 a2 _  z hz) rfl (Nat.le_of_ble_eq_true rfl) hd dX9_isNearer_9 (fun r4 h3 hd => ?_)
  refine a_aload_n (pc := 12) hG 0 rfl dX9_isNearer_12 rfl ?_
  refine a_iload_n (pc := 13) hG 1 rfl dX9_isNearer_13 rfl ?_
  refine a_iload_n (pc := 14) hG 3 rfl dX9_isNearer_14 rfl ?_
  refine a_cvI (pc := 15) hG (As := [.int a0, .int a2]) (st := [.int r4, .int r2]) sc_31 cl_X9 mk_X9_contraBehind t_973 (by omega) (fun z hz => c_Ways_contraBehind a0 a2 _  z hz) rfl (Nat.le_of_ble_eq_true rfl) hd dX9_isNearer_15 (fun r6 h5 hd => ?_)
  refine a_iadd (pc := 18) hG dX9_isNearer_18 ?_
  refine a_imul (pc := 19) hG dX9_isNearer_19 ?_
  refine a_istoreN (pc := 20) hG hd dX9_isNearer_20 (by decide) (lf := fun x => [(4, .int x), (0, .ref (ad 31)), (1, .int a0), (2, .int a1), (3, .int a2)]) (fun _ => rfl) (fun v7 hd => ?_)
  refine a_aload_n (pc := 22) hG 1 rfl dX9_isNearer_22 rfl ?_
  refine a_iload_n (pc := 23) hG 2 rfl dX9_isNearer_23 rfl ?_
  refine a_iload_n (pc := 24) hG 4 rfl dX9_isNearer_24 rfl ?_
  refine a_cvI (pc := 25) hG (As := [.int a0, .int a2]) (st := []) sc_31 cl_X9 mk_X9_proBehind t_969 (by omega) (fun z hz => c_Ways_proBehind a0 a2 _  z hz) rfl (Nat.le_of_ble_eq_true rfl) hd dX9_isNearer_25 (fun r9 h8 hd => ?_)
  refine a_aload_n (pc := 28) hG 1 rfl dX9_isNearer_28 rfl ?_
  refine a_iload_n (pc := 29) hG 2 rfl dX9_isNearer_29 rfl ?_
  refine a_iload_n (pc := 30) hG 3 rfl dX9_isNearer_30 rfl ?_
  refine a_cvI (pc := 31) hG (As := [.int a0, .int a1]) (st := [.int r9]) sc_31 cl_X9 mk_X9_proBehind t_969 (by omega) (fun z hz => c_Ways_proBehind a0 a1 _  z hz) rfl (Nat.le_of_ble_eq_true rfl) hd dX9_isNearer_31 (fun r11 h10 hd => ?_)
  refine a_aload_n (pc := 34) hG 1 rfl dX9_isNearer_34 rfl ?_
  refine a_iload_n (pc := 35) hG 2 rfl dX9_isNearer_35 rfl ?_
  refine a_iload_n (pc := 36) hG 3 rfl dX9_isNearer_36 rfl ?_
  refine a_cvI (pc := 37) hG (As := [.int a0, .int a1]) (st := [.int r11, .int r9]) sc_31 cl_X9 mk_X9_contraBehind t_973 (by omega) (fun z hz => c_Ways_contraBehind a0 a1 _  z hz) rfl (Nat.le_of_ble_eq_true rfl) hd dX9_isNearer_37 (fun r13 h12 hd => ?_)
  refine a_iadd (pc := 40) hG dX9_isNearer_40 ?_
  refine a_imul (pc := 41) hG dX9_isNearer_41 ?_
  refine a_istoreN (pc := 42) hG hd dX9_isNearer_42 (by decide) (lf := fun x => [(5, .int x), (4, .int v7), (0, .ref (ad 31)), (1, .int a0), (2, .int a1), (3, .int a2)]) (fun _ => rfl) (fun v14 hd => ?_)
  refine a_iload (pc := 44) hG 1 rfl dX9_isNearer_44 ?_
  refine a_iload (pc := 46) hG 0 rfl dX9_isNearer_46 ?_
  refine a_ic_eq (pc := 48) hG (tgt := 66) hd dX9_isNearer_48 (by decide) (fun hd => ?_) (fun hd => ?_)
  · refine a_aload_n (pc := 66) hG 2 rfl dX9_isNearer_66 rfl ?_
    refine a_getR (pc := 67) hG sc_31 cl_X9 ok_X9 4 (by decide) rfl t_292 dX9_isNearer_67 ?_
    refine a_iload_n (pc := 70) hG 4 rfl dX9_isNearer_70 rfl ?_
    refine a_iald (pc := 71) hG sc_34 hd dX9_isNearer_71 (fun hd => ?_)
    refine a_aload_n (pc := 72) hG 2 rfl dX9_isNearer_72 rfl ?_
    refine a_getR (pc := 73) hG sc_31 cl_X9 ok_X9 4 (by decide) rfl t_292 dX9_isNearer_73 ?_
    refine a_iload_n (pc := 76) hG 5 rfl dX9_isNearer_76 rfl ?_
    refine a_iald (pc := 77) hG sc_34 hd dX9_isNearer_77 (fun hd => ?_)
    refine a_ic_ge (pc := 78) hG (tgt := 85) hd dX9_isNearer_78 (by decide) (fun hd => ?_) (fun hd => ?_)
    · refine a_iconst (pc := 85) hG dX9_isNearer_85 (v := (nI 0)) rfl ?_
      exact a_zret (pc := 86) hG hd dX9_isNearer_86
    refine a_iconst (pc := 81) hG dX9_isNearer_81 (v := (nI 1)) rfl ?_
    refine a_goto (pc := 82) hG (tgt := 86) dX9_isNearer_82 (by decide) ?_
    exact a_zret (pc := 86) hG hd dX9_isNearer_86
  refine a_iload (pc := 51) hG 1 rfl dX9_isNearer_51 ?_
  refine a_iload (pc := 53) hG 0 rfl dX9_isNearer_53 ?_
  refine a_ic_le (pc := 55) hG (tgt := 62) hd dX9_isNearer_55 (by decide) (fun hd => ?_) (fun hd => ?_)
  · refine a_iconst (pc := 62) hG dX9_isNearer_62 (v := (nI 0)) rfl ?_
    refine a_goto (pc := 63) hG (tgt := 86) dX9_isNearer_63 (by decide) ?_
    exact a_zret (pc := 86) hG hd dX9_isNearer_86
  refine a_iconst (pc := 58) hG dX9_isNearer_58 (v := (nI 1)) rfl ?_
  refine a_goto (pc := 59) hG (tgt := 86) dX9_isNearer_59 (by decide) ?_
  exact a_zret (pc := 86) hG hd dX9_isNearer_86
theorem dX9_nearestSet_0 : decode cX9_nearestSet 0 = .ok (.aload_n 0, 1) := by decide +kernel
theorem dX9_nearestSet_1 : decode cX9_nearestSet 1 = .ok (.iload_n 1, 1) := by decide +kernel
theorem dX9_nearestSet_2 : decode cX9_nearestSet 2 = .ok (.invokevirtual 60, 3) := by decide +kernel
theorem dX9_nearestSet_5 : decode cX9_nearestSet 5 = .ok (.iconst (-1), 1) := by decide +kernel
theorem dX9_nearestSet_6 : decode cX9_nearestSet 6 = .ok (.istore_n 3, 1) := by decide +kernel
theorem dX9_nearestSet_7 : decode cX9_nearestSet 7 = .ok (.iconst 0, 1) := by decide +kernel
theorem dX9_nearestSet_8 : decode cX9_nearestSet 8 = .ok (.istore 4, 2) := by decide +kernel
theorem dX9_nearestSet_10 : decode cX9_nearestSet 10 = .ok (.iload 4, 2) := by decide +kernel
theorem dX9_nearestSet_12 : decode cX9_nearestSet 12 = .ok (.aload_n 0, 1) := by decide +kernel
theorem dX9_nearestSet_13 : decode cX9_nearestSet 13 = .ok (.getfield 24, 3) := by decide +kernel
theorem dX9_nearestSet_16 : decode cX9_nearestSet 16 = .ok (.if_icmp .ge 47, 3) := by decide +kernel
theorem dX9_nearestSet_19 : decode cX9_nearestSet 19 = .ok (.aload_n 0, 1) := by decide +kernel
theorem dX9_nearestSet_20 : decode cX9_nearestSet 20 = .ok (.getfield 21, 3) := by decide +kernel
theorem dX9_nearestSet_23 : decode cX9_nearestSet 23 = .ok (.iload 4, 2) := by decide +kernel
theorem dX9_nearestSet_25 : decode cX9_nearestSet 25 = .ok (.iaload, 1) := by decide +kernel
theorem dX9_nearestSet_26 : decode cX9_nearestSet 26 = .ok (.ifCond .le 31, 3) := by decide +kernel
theorem dX9_nearestSet_29 : decode cX9_nearestSet 29 = .ok (.iload 4, 2) := by decide +kernel
theorem dX9_nearestSet_31 : decode cX9_nearestSet 31 = .ok (.invokestatic 64, 3) := by decide +kernel
theorem dX9_nearestSet_34 : decode cX9_nearestSet 34 = .ok (.iload_n 2, 1) := by decide +kernel
theorem dX9_nearestSet_35 : decode cX9_nearestSet 35 = .ok (.if_icmp .gt 22, 3) := by decide +kernel
theorem dX9_nearestSet_38 : decode cX9_nearestSet 38 = .ok (.iload_n 3, 1) := by decide +kernel
theorem dX9_nearestSet_39 : decode cX9_nearestSet 39 = .ok (.iconst (-1), 1) := by decide +kernel
theorem dX9_nearestSet_40 : decode cX9_nearestSet 40 = .ok (.if_icmp .eq 14, 3) := by decide +kernel
theorem dX9_nearestSet_43 : decode cX9_nearestSet 43 = .ok (.aload_n 0, 1) := by decide +kernel
theorem dX9_nearestSet_44 : decode cX9_nearestSet 44 = .ok (.iload_n 1, 1) := by decide +kernel
theorem dX9_nearestSet_45 : decode cX9_nearestSet 45 = .ok (.iload 4, 2) := by decide +kernel
theorem dX9_nearestSet_47 : decode cX9_nearestSet 47 = .ok (.iload_n 3, 1) := by decide +kernel
theorem dX9_nearestSet_48 : decode cX9_nearestSet 48 = .ok (.invokevirtual 70, 3) := by decide +kernel
theorem dX9_nearestSet_51 : decode cX9_nearestSet 51 = .ok (.ifCond .eq 6, 3) := by decide +kernel
theorem dX9_nearestSet_54 : decode cX9_nearestSet 54 = .ok (.iload 4, 2) := by decide +kernel
theorem dX9_nearestSet_56 : decode cX9_nearestSet 56 = .ok (.istore_n 3, 1) := by decide +kernel
theorem dX9_nearestSet_57 : decode cX9_nearestSet 57 = .ok (.iinc 4 1, 3) := by decide +kernel
theorem dX9_nearestSet_60 : decode cX9_nearestSet 60 = .ok (.goto (-50), 3) := by decide +kernel
theorem dX9_nearestSet_63 : decode cX9_nearestSet 63 = .ok (.iload_n 3, 1) := by decide +kernel
theorem dX9_nearestSet_64 : decode cX9_nearestSet 64 = .ok (.ireturn, 1) := by decide +kernel
set_option maxHeartbeats 4000000 in
theorem w_l_Ways_nearestSet_0 {ad wad : Nat → Nat} {Γ : Ctx} (F : Nat) {n : Nat} (hn : 4 ≤ n) (hG : Cx SHc ad wad cX9_nearestSet 5 RX9 (some .int) (n) Γ) {q : Int32 × HS} {x1 : Int32} {x2 : Int32} {g : Nat} {x3 : Int32} {x4 : Int32} {h : HS} (hd : l_Ways_nearestSet_0 F x1 x2 g x3 x4 h = some q) : AW SHc ad 5 (some (.int q.1), q.2) Γ 10 [(0, .ref (ad 31)), (1, .int x1), (2, .int x2), (3, .int x3), (4, .int x4)] [] h := by
  induction g generalizing x3 x4 h with
  | zero => unfold l_Ways_nearestSet_0 at hd; cases hd
  | succ g ih =>
    unfold l_Ways_nearestSet_0 at hd
    refine a_iload (pc := 10) hG 4 rfl dX9_nearestSet_10 ?_
    refine a_aload_n (pc := 12) hG 0 rfl dX9_nearestSet_12 rfl ?_
    refine a_getI (pc := 13) hG sc_31 cl_X9 ok_X9 6 (by decide) rfl t_294 dX9_nearestSet_13 ?_
    refine a_ic_ge (pc := 16) hG (tgt := 63) hd dX9_nearestSet_16 (by decide) (fun hd => ?_) (fun hd => ?_)
    · refine a_iload_n (pc := 63) hG 3 rfl dX9_nearestSet_63 rfl ?_
      exact a_iret (pc := 64) hG hd dX9_nearestSet_64
    refine a_aload_n (pc := 19) hG 0 rfl dX9_nearestSet_19 rfl ?_
    refine a_getR (pc := 20) hG sc_31 cl_X9 ok_X9 5 (by decide) rfl t_293 dX9_nearestSet_20 ?_
    refine a_iload (pc := 23) hG 4 rfl dX9_nearestSet_23 ?_
    refine a_iald (pc := 25) hG sc_35 hd dX9_nearestSet_25 (fun hd => ?_)
    refine a_join hd (Q := fun J : Int32 → HS → Option (Int32 × HS) => ∀ (v5 : Int32) (h6 : HS), J v5 h6 = some q → AW SHc ad 5 (some (.int q.1), q.2) Γ 57 [(0, .ref (ad 31)), (1, .int x1), (2, .int x2), (3, .int v5), (4, .int x4)] [] h6) (fun v5 h6 hd => ?_) (fun J4 hJ4 hd => ?_)
    · refine a_iincN (pc := 57) hG (c0 := (nI 1)) 4 rfl hd dX9_nearestSet_57 rfl (by decide) (lf := fun x => [(4, .int x), (0, .ref (ad 31)), (1, .int x1), (2, .int x2), (3, .int v5)]) (fun _ => rfl) (fun v7 hd => ?_)
      refine a_goto (pc := 60) hG (tgt := 10) dX9_nearestSet_60 (by decide) ?_
      exact AW.sub [1, 2, 3, 4, 0] rfl (ih hd)
    refine a_if_le (pc := 26) hG (tgt := 57) hd dX9_nearestSet_26 (by decide) (fun hd => ?_) (fun hd => ?_)
    · exact AW.sub [0, 1, 2, 3, 4] rfl (hJ4 _ _ hd)
    refine a_iload (pc := 29) hG 4 rfl dX9_nearestSet_29 ?_
    refine a_csI (pc := 31) hG (As := [.int x4]) (st := []) mk_J6_bitCount_0f7a4 t_959 (by omega) (fun z hz => c_Int_bitCount_0f7a4 x4 _  z hz) rfl (Nat.le_of_ble_eq_true rfl) hd dX9_nearestSet_31 (fun r9 h8 hd => ?_)
    refine a_iload_n (pc := 34) hG 2 rfl dX9_nearestSet_34 rfl ?_
    refine a_ic_gt (pc := 35) hG (tgt := 57) hd dX9_nearestSet_35 (by decide) (fun hd => ?_) (fun hd => ?_)
    · exact AW.sub [0, 1, 2, 3, 4] rfl (hJ4 _ _ hd)
    refine a_iload_n (pc := 38) hG 3 rfl dX9_nearestSet_38 rfl ?_
    refine a_iconst (pc := 39) hG dX9_nearestSet_39 (v := (-1 : Int32)) rfl ?_
    refine a_join hd (Q := fun J : HS → Option (Int32 × HS) => ∀  (h11 : HS), J  h11 = some q → AW SHc ad 5 (some (.int q.1), q.2) Γ 54 [(0, .ref (ad 31)), (1, .int x1), (2, .int x2), (4, .int x4)] [] h11) (fun  h11 hd => ?_) (fun J10 hJ10 hd => ?_)
    · refine a_iload (pc := 54) hG 3 rfl dX9_nearestSet_54 ?_
      refine a_istore_nN (pc := 56) hG hd dX9_nearestSet_56 rfl (by decide) (lf := fun x => [(3, .int x), (0, .ref (ad 31)), (1, .int x1), (2, .int x2), (4, .int x4)]) (fun _ => rfl) (fun v12 hd => ?_)
      exact AW.sub [1, 2, 3, 0, 4] rfl (hJ4 _ _ hd)
    refine a_ic_eq (pc := 40) hG (tgt := 54) hd dX9_nearestSet_40 (by decide) (fun hd => ?_) (fun hd => ?_)
    · exact AW.sub [0, 1, 2, 4] rfl (hJ10  _ hd)
    refine a_aload_n (pc := 43) hG 0 rfl dX9_nearestSet_43 rfl ?_
    refine a_iload_n (pc := 44) hG 1 rfl dX9_nearestSet_44 rfl ?_
    refine a_iload (pc := 45) hG 4 rfl dX9_nearestSet_45 ?_
    refine a_iload_n (pc := 47) hG 3 rfl dX9_nearestSet_47 rfl ?_
    refine a_cvI (pc := 48) hG (As := [.int x1, .int x4, .int x3]) (st := []) sc_31 cl_X9 mk_X9_isNearer t_965 (by omega) (fun z hz => c_Ways_isNearer x1 x4 x3 _  z hz) rfl (Nat.le_of_ble_eq_true rfl) hd dX9_nearestSet_48 (fun r14 h13 hd => ?_)
    refine a_if_eq (pc := 51) hG (tgt := 57) hd dX9_nearestSet_51 (by decide) (fun hd => ?_) (fun hd => ?_)
    · exact AW.sub [0, 1, 2, 3, 4] rfl (hJ4 _ _ hd)
    exact AW.sub [0, 1, 2, 4] rfl (hJ10  _ hd)
set_option maxHeartbeats 4000000 in
theorem c_Ways_nearestSet {ad wad : Nat → Nat} (F : Nat) (a0 : Int32) (a1 : Int32) (h : HS)  (q : Int32 × HS) (hd : f_Ways_nearestSet F a0 a1 h = some q) : Ctr SHc ad wad yX9_nearestSet cX9_nearestSet 5 (some .int) 4 [.ref (ad 31), .int a0, .int a1] h (some (.int q.1), q.2) := by
  refine enter (own := RX9) (lv := [(0, .ref (ad 31)), (1, .int a0), (2, .int a1)]) (by decide +kernel) rfl (Nat.le_of_ble_eq_true rfl) rfl (fun Γ hG => ?_)
  unfold f_Ways_nearestSet at hd
  refine a_aload_n (pc := 0) hG 0 rfl dX9_nearestSet_0 rfl ?_
  refine a_iload_n (pc := 1) hG 1 rfl dX9_nearestSet_1 rfl ?_
  refine a_cvN (pc := 2) hG (As := [.int a0]) (st := []) sc_31 cl_X9 mk_X9_countOrders t_949 (by omega) (fun z hz => c_Ways_countOrders F a0 _  z hz) rfl (Nat.le_of_ble_eq_true rfl) hd dX9_nearestSet_2 (fun _ h1 hd => ?_)
  refine a_iconst (pc := 5) hG dX9_nearestSet_5 (v := (-1 : Int32)) rfl ?_
  refine a_istore_nN (pc := 6) hG hd dX9_nearestSet_6 rfl (by decide) (lf := fun x => [(3, .int x), (0, .ref (ad 31)), (1, .int a0), (2, .int a1)]) (fun _ => rfl) (fun v2 hd => ?_)
  refine a_iconst (pc := 7) hG dX9_nearestSet_7 (v := (nI 0)) rfl ?_
  refine a_istoreN (pc := 8) hG hd dX9_nearestSet_8 (by decide) (lf := fun x => [(4, .int x), (3, .int v2), (0, .ref (ad 31)), (1, .int a0), (2, .int a1)]) (fun _ => rfl) (fun v3 hd => ?_)
  refine AW.sub [2, 3, 4, 1, 0] rfl ?_
  exact w_l_Ways_nearestSet_0 F (by omega) hG hd
theorem dX11_nearest_0 : decode cX11_nearest 0 = .ok (.aload_n 0, 1) := by decide +kernel
theorem dX11_nearest_1 : decode cX11_nearest 1 = .ok (.getfield 19, 3) := by decide +kernel
theorem dX11_nearest_4 : decode cX11_nearest 4 = .ok (.iload_n 1, 1) := by decide +kernel
theorem dX11_nearest_5 : decode cX11_nearest 5 = .ok (.invokevirtual 147, 3) := by decide +kernel
theorem dX11_nearest_8 : decode cX11_nearest 8 = .ok (.ifCond .eq 22, 3) := by decide +kernel
theorem dX11_nearest_11 : decode cX11_nearest 11 = .ok (.iload_n 2, 1) := by decide +kernel
theorem dX11_nearest_12 : decode cX11_nearest 12 = .ok (.invokestatic 220, 3) := by decide +kernel
theorem dX11_nearest_15 : decode cX11_nearest 15 = .ok (.ifCond .eq 15, 3) := by decide +kernel
theorem dX11_nearest_18 : decode cX11_nearest 18 = .ok (.aload_n 0, 1) := by decide +kernel
theorem dX11_nearest_19 : decode cX11_nearest 19 = .ok (.getfield 49, 3) := by decide +kernel
theorem dX11_nearest_22 : decode cX11_nearest 22 = .ok (.iload_n 1, 1) := by decide +kernel
theorem dX11_nearest_23 : decode cX11_nearest 23 = .ok (.iload_n 2, 1) := by decide +kernel
theorem dX11_nearest_24 : decode cX11_nearest 24 = .ok (.invokevirtual 223, 3) := by decide +kernel
theorem dX11_nearest_27 : decode cX11_nearest 27 = .ok (.goto 4, 3) := by decide +kernel
theorem dX11_nearest_30 : decode cX11_nearest 30 = .ok (.iconst (-1), 1) := by decide +kernel
theorem dX11_nearest_31 : decode cX11_nearest 31 = .ok (.ireturn, 1) := by decide +kernel
set_option maxHeartbeats 4000000 in
theorem c_LC_nearest {ad wad : Nat → Nat} (F : Nat) (a0 : Int32) (a1 : Int32) (h : HS)  (q : Int32 × HS) (hd : f_LC_nearest F a0 a1 h = some q) : Ctr SHc ad wad yX11_nearest cX11_nearest 3 (some .int) 5 [.ref (ad 0), .int a0, .int a1] h (some (.int q.1), q.2) := by
  refine enter (own := RX11) (lv := [(0, .ref (ad 0)), (1, .int a0), (2, .int a1)]) (by decide +kernel) rfl (Nat.le_of_ble_eq_true rfl) rfl (fun Γ hG => ?_)
  unfold f_LC_nearest at hd
  refine a_aload_n (pc := 0) hG 0 rfl dX11_nearest_0 rfl ?_
  refine a_getR (pc := 1) hG sc_0 cl_X11 ok_X11 1 (by decide) rfl t_482 dX11_nearest_1 ?_
  refine a_iload_n (pc := 4) hG 1 rfl dX11_nearest_4 rfl ?_
  refine a_cvI (pc := 5) hG (As := [.int a0]) (st := []) sc_3 cl_X5 mk_X5_hasCause t_818 (by omega) (fun z hz => c_Plan_hasCause_3 a0 _  z hz) rfl (Nat.le_of_ble_eq_true rfl) hd dX11_nearest_5 (fun r2 h1 hd => ?_)
  refine a_if_eq (pc := 8) hG (tgt := 30) hd dX11_nearest_8 (by decide) (fun hd => ?_) (fun hd => ?_)
  · refine a_iconst (pc := 30) hG dX11_nearest_30 (v := (-1 : Int32)) rfl ?_
    exact a_iret (pc := 31) hG hd dX11_nearest_31
  refine a_iload_n (pc := 11) hG 2 rfl dX11_nearest_11 rfl ?_
  refine a_csI (pc := 12) hG (As := [.int a1]) (st := []) mk_X11_isDeedNumber t_942 (by omega) (fun z hz => c_LC_isDeedNumber a1 _  z hz) rfl (Nat.le_of_ble_eq_true rfl) hd dX11_nearest_12 (fun r4 h3 hd => ?_)
  refine a_if_eq (pc := 15) hG (tgt := 30) hd dX11_nearest_15 (by decide) (fun hd => ?_) (fun hd => ?_)
  · refine a_iconst (pc := 30) hG dX11_nearest_30 (v := (-1 : Int32)) rfl ?_
    exact a_iret (pc := 31) hG hd dX11_nearest_31
  refine a_aload_n (pc := 18) hG 0 rfl dX11_nearest_18 rfl ?_
  refine a_getR (pc := 19) hG sc_0 cl_X11 ok_X11 5 (by decide) rfl t_486 dX11_nearest_19 ?_
  refine a_iload_n (pc := 22) hG 1 rfl dX11_nearest_22 rfl ?_
  refine a_iload_n (pc := 23) hG 2 rfl dX11_nearest_23 rfl ?_
  refine a_cvI (pc := 24) hG (As := [.int a0, .int a1]) (st := []) sc_31 cl_X9 mk_X9_nearestSet t_945 (by omega) (fun z hz => c_Ways_nearestSet F a0 a1 _  z hz) rfl (Nat.le_of_ble_eq_true rfl) hd dX11_nearest_24 (fun r6 h5 hd => ?_)
  refine a_goto (pc := 27) hG (tgt := 31) dX11_nearest_27 (by decide) ?_
  exact a_iret (pc := 31) hG hd dX11_nearest_31
theorem dX9_canStillDo_0 : decode cX9_canStillDo 0 = .ok (.iload_n 2, 1) := by decide +kernel
theorem dX9_canStillDo_1 : decode cX9_canStillDo 1 = .ok (.ifCond .lt 30, 3) := by decide +kernel
theorem dX9_canStillDo_4 : decode cX9_canStillDo 4 = .ok (.iload_n 2, 1) := by decide +kernel
theorem dX9_canStillDo_5 : decode cX9_canStillDo 5 = .ok (.aload_n 0, 1) := by decide +kernel
theorem dX9_canStillDo_6 : decode cX9_canStillDo 6 = .ok (.getfield 24, 3) := by decide +kernel
theorem dX9_canStillDo_9 : decode cX9_canStillDo 9 = .ok (.if_icmp .ge 22, 3) := by decide +kernel
theorem dX9_canStillDo_12 : decode cX9_canStillDo 12 = .ok (.iload_n 2, 1) := by decide +kernel
theorem dX9_canStillDo_13 : decode cX9_canStillDo 13 = .ok (.aload_n 0, 1) := by decide +kernel
theorem dX9_canStillDo_14 : decode cX9_canStillDo 14 = .ok (.getfield 32, 3) := by decide +kernel
theorem dX9_canStillDo_17 : decode cX9_canStillDo 17 = .ok (.iload_n 1, 1) := by decide +kernel
theorem dX9_canStillDo_18 : decode cX9_canStillDo 18 = .ok (.bipush 6, 2) := by decide +kernel
theorem dX9_canStillDo_20 : decode cX9_canStillDo 20 = .ok (.invokevirtual 46, 3) := by decide +kernel
theorem dX9_canStillDo_23 : decode cX9_canStillDo 23 = .ok (.iand, 1) := by decide +kernel
theorem dX9_canStillDo_24 : decode cX9_canStillDo 24 = .ok (.ifCond .ne 7, 3) := by decide +kernel
theorem dX9_canStillDo_27 : decode cX9_canStillDo 27 = .ok (.iconst 1, 1) := by decide +kernel
theorem dX9_canStillDo_28 : decode cX9_canStillDo 28 = .ok (.goto 4, 3) := by decide +kernel
theorem dX9_canStillDo_31 : decode cX9_canStillDo 31 = .ok (.iconst 0, 1) := by decide +kernel
theorem dX9_canStillDo_32 : decode cX9_canStillDo 32 = .ok (.ireturn, 1) := by decide +kernel
set_option maxHeartbeats 4000000 in
theorem c_Ways_canStillDo {ad wad : Nat → Nat} (a0 : Int32) (a1 : Int32) (h : HS)  (q : Int32 × HS) (hd : f_Ways_canStillDo a0 a1 h = some q) : Ctr SHc ad wad yX9_canStillDo cX9_canStillDo 3 (some .boolean) 2 [.ref (ad 31), .int a0, .int a1] h (some (.int q.1), q.2) := by
  refine enter (own := RX9) (lv := [(0, .ref (ad 31)), (1, .int a0), (2, .int a1)]) (by decide +kernel) rfl (Nat.le_of_ble_eq_true rfl) rfl (fun Γ hG => ?_)
  unfold f_Ways_canStillDo at hd
  refine a_iload_n (pc := 0) hG 2 rfl dX9_canStillDo_0 rfl ?_
  refine a_if_lt (pc := 1) hG (tgt := 31) hd dX9_canStillDo_1 (by decide) (fun hd => ?_) (fun hd => ?_)
  · refine a_iconst (pc := 31) hG dX9_canStillDo_31 (v := (nI 0)) rfl ?_
    exact a_zret (pc := 32) hG hd dX9_canStillDo_32
  refine a_iload_n (pc := 4) hG 2 rfl dX9_canStillDo_4 rfl ?_
  refine a_aload_n (pc := 5) hG 0 rfl dX9_canStillDo_5 rfl ?_
  refine a_getI (pc := 6) hG sc_31 cl_X9 ok_X9 6 (by decide) rfl t_294 dX9_canStillDo_6 ?_
  refine a_ic_ge (pc := 9) hG (tgt := 31) hd dX9_canStillDo_9 (by decide) (fun hd => ?_) (fun hd => ?_)
  · refine a_iconst (pc := 31) hG dX9_canStillDo_31 (v := (nI 0)) rfl ?_
    exact a_zret (pc := 32) hG hd dX9_canStillDo_32
  refine a_iload_n (pc := 12) hG 2 rfl dX9_canStillDo_12 rfl ?_
  refine a_aload_n (pc := 13) hG 0 rfl dX9_canStillDo_13 rfl ?_
  refine a_getR (pc := 14) hG sc_31 cl_X9 ok_X9 1 (by decide) rfl t_289 dX9_canStillDo_14 ?_
  refine a_iload_n (pc := 17) hG 1 rfl dX9_canStillDo_17 rfl ?_
  refine a_bipush (pc := 18) hG dX9_canStillDo_18 (v := (nI 6)) rfl ?_
  refine a_cvI (pc := 20) hG (As := [.int a0, .int (nI 6)]) (st := [.int a1]) sc_20 cl_X0 mk_X0_ofCause t_953 (by omega) (fun z hz => c_Desk_ofCause a0 (nI 6) _  z hz) rfl (Nat.le_of_ble_eq_true rfl) hd dX9_canStillDo_20 (fun r2 h1 hd => ?_)
  refine a_iand (pc := 23) hG dX9_canStillDo_23 ?_
  refine a_if_ne (pc := 24) hG (tgt := 31) hd dX9_canStillDo_24 (by decide) (fun hd => ?_) (fun hd => ?_)
  · refine a_iconst (pc := 31) hG dX9_canStillDo_31 (v := (nI 0)) rfl ?_
    exact a_zret (pc := 32) hG hd dX9_canStillDo_32
  refine a_iconst (pc := 27) hG dX9_canStillDo_27 (v := (nI 1)) rfl ?_
  refine a_goto (pc := 28) hG (tgt := 32) dX9_canStillDo_28 (by decide) ?_
  exact a_zret (pc := 32) hG hd dX9_canStillDo_32
theorem dX9_nearnessBehind_0 : decode cX9_nearnessBehind 0 = .ok (.aload_n 0, 1) := by decide +kernel
theorem dX9_nearnessBehind_1 : decode cX9_nearnessBehind 1 = .ok (.getfield 28, 3) := by decide +kernel
theorem dX9_nearnessBehind_4 : decode cX9_nearnessBehind 4 = .ok (.aload_n 0, 1) := by decide +kernel
theorem dX9_nearnessBehind_5 : decode cX9_nearnessBehind 5 = .ok (.iload_n 1, 1) := by decide +kernel
theorem dX9_nearnessBehind_6 : decode cX9_nearnessBehind 6 = .ok (.iload_n 2, 1) := by decide +kernel
theorem dX9_nearnessBehind_7 : decode cX9_nearnessBehind 7 = .ok (.invokevirtual 51, 3) := by decide +kernel
theorem dX9_nearnessBehind_10 : decode cX9_nearnessBehind 10 = .ok (.aload_n 0, 1) := by decide +kernel
theorem dX9_nearnessBehind_11 : decode cX9_nearnessBehind 11 = .ok (.iload_n 1, 1) := by decide +kernel
theorem dX9_nearnessBehind_12 : decode cX9_nearnessBehind 12 = .ok (.iload_n 2, 1) := by decide +kernel
theorem dX9_nearnessBehind_13 : decode cX9_nearnessBehind 13 = .ok (.invokevirtual 54, 3) := by decide +kernel
theorem dX9_nearnessBehind_16 : decode cX9_nearnessBehind 16 = .ok (.invokevirtual 57, 3) := by decide +kernel
theorem dX9_nearnessBehind_19 : decode cX9_nearnessBehind 19 = .ok (.ireturn, 1) := by decide +kernel
set_option maxHeartbeats 4000000 in
theorem c_Ways_nearnessBehind {ad wad : Nat → Nat} (a0 : Int32) (a1 : Int32) (h : HS)  (q : Int32 × HS) (hd : f_Ways_nearnessBehind a0 a1 h = some q) : Ctr SHc ad wad yX9_nearnessBehind cX9_nearnessBehind 3 (some .int) 3 [.ref (ad 31), .int a0, .int a1] h (some (.int q.1), q.2) := by
  refine enter (own := RX9) (lv := [(0, .ref (ad 31)), (1, .int a0), (2, .int a1)]) (by decide +kernel) rfl (Nat.le_of_ble_eq_true rfl) rfl (fun Γ hG => ?_)
  unfold f_Ways_nearnessBehind at hd
  refine a_aload_n (pc := 0) hG 0 rfl dX9_nearnessBehind_0 rfl ?_
  refine a_getR (pc := 1) hG sc_31 cl_X9 ok_X9 0 (by decide) rfl t_288 dX9_nearnessBehind_1 ?_
  refine a_aload_n (pc := 4) hG 0 rfl dX9_nearnessBehind_4 rfl ?_
  refine a_iload_n (pc := 5) hG 1 rfl dX9_nearnessBehind_5 rfl ?_
  refine a_iload_n (pc := 6) hG 2 rfl dX9_nearnessBehind_6 rfl ?_
  refine a_cvI (pc := 7) hG (As := [.int a0, .int a1]) (st := [.ref (ad 3)]) sc_31 cl_X9 mk_X9_proBehind t_969 (by omega) (fun z hz => c_Ways_proBehind a0 a1 _  z hz) rfl (Nat.le_of_ble_eq_true rfl) hd dX9_nearnessBehind_7 (fun r2 h1 hd => ?_)
  refine a_aload_n (pc := 10) hG 0 rfl dX9_nearnessBehind_10 rfl ?_
  refine a_iload_n (pc := 11) hG 1 rfl dX9_nearnessBehind_11 rfl ?_
  refine a_iload_n (pc := 12) hG 2 rfl dX9_nearnessBehind_12 rfl ?_
  refine a_cvI (pc := 13) hG (As := [.int a0, .int a1]) (st := [.int r2, .ref (ad 3)]) sc_31 cl_X9 mk_X9_contraBehind t_973 (by omega) (fun z hz => c_Ways_contraBehind a0 a1 _  z hz) rfl (Nat.le_of_ble_eq_true rfl) hd dX9_nearnessBehind_13 (fun r4 h3 hd => ?_)
  refine a_cvI (pc := 16) hG (As := [.int r2, .int r4]) (st := []) sc_3 cl_X5 mk_X5_nearness t_989 (by omega) (fun z hz => c_Plan_nearness_3 r2 r4 _  z hz) rfl (Nat.le_of_ble_eq_true rfl) hd dX9_nearnessBehind_16 (fun r6 h5 hd => ?_)
  exact a_iret (pc := 19) hG hd dX9_nearnessBehind_19
theorem dX11_near_0 : decode cX11_near 0 = .ok (.aload_n 0, 1) := by decide +kernel
theorem dX11_near_1 : decode cX11_near 1 = .ok (.getfield 19, 3) := by decide +kernel
theorem dX11_near_4 : decode cX11_near 4 = .ok (.iload_n 1, 1) := by decide +kernel
theorem dX11_near_5 : decode cX11_near 5 = .ok (.invokevirtual 147, 3) := by decide +kernel
theorem dX11_near_8 : decode cX11_near 8 = .ok (.ifCond .eq 27, 3) := by decide +kernel
theorem dX11_near_11 : decode cX11_near 11 = .ok (.aload_n 0, 1) := by decide +kernel
theorem dX11_near_12 : decode cX11_near 12 = .ok (.getfield 49, 3) := by decide +kernel
theorem dX11_near_15 : decode cX11_near 15 = .ok (.iload_n 1, 1) := by decide +kernel
theorem dX11_near_16 : decode cX11_near 16 = .ok (.iload_n 2, 1) := by decide +kernel
theorem dX11_near_17 : decode cX11_near 17 = .ok (.invokevirtual 226, 3) := by decide +kernel
theorem dX11_near_20 : decode cX11_near 20 = .ok (.ifCond .eq 15, 3) := by decide +kernel
theorem dX11_near_23 : decode cX11_near 23 = .ok (.aload_n 0, 1) := by decide +kernel
theorem dX11_near_24 : decode cX11_near 24 = .ok (.getfield 49, 3) := by decide +kernel
theorem dX11_near_27 : decode cX11_near 27 = .ok (.iload_n 1, 1) := by decide +kernel
theorem dX11_near_28 : decode cX11_near 28 = .ok (.iload_n 2, 1) := by decide +kernel
theorem dX11_near_29 : decode cX11_near 29 = .ok (.invokevirtual 230, 3) := by decide +kernel
theorem dX11_near_32 : decode cX11_near 32 = .ok (.goto 4, 3) := by decide +kernel
theorem dX11_near_35 : decode cX11_near 35 = .ok (.iconst (-1), 1) := by decide +kernel
theorem dX11_near_36 : decode cX11_near 36 = .ok (.ireturn, 1) := by decide +kernel
set_option maxHeartbeats 4000000 in
theorem c_LC_near {ad wad : Nat → Nat} (a0 : Int32) (a1 : Int32) (h : HS)  (q : Int32 × HS) (hd : f_LC_near a0 a1 h = some q) : Ctr SHc ad wad yX11_near cX11_near 3 (some .int) 4 [.ref (ad 0), .int a0, .int a1] h (some (.int q.1), q.2) := by
  refine enter (own := RX11) (lv := [(0, .ref (ad 0)), (1, .int a0), (2, .int a1)]) (by decide +kernel) rfl (Nat.le_of_ble_eq_true rfl) rfl (fun Γ hG => ?_)
  unfold f_LC_near at hd
  refine a_aload_n (pc := 0) hG 0 rfl dX11_near_0 rfl ?_
  refine a_getR (pc := 1) hG sc_0 cl_X11 ok_X11 1 (by decide) rfl t_482 dX11_near_1 ?_
  refine a_iload_n (pc := 4) hG 1 rfl dX11_near_4 rfl ?_
  refine a_cvI (pc := 5) hG (As := [.int a0]) (st := []) sc_3 cl_X5 mk_X5_hasCause t_818 (by omega) (fun z hz => c_Plan_hasCause_3 a0 _  z hz) rfl (Nat.le_of_ble_eq_true rfl) hd dX11_near_5 (fun r2 h1 hd => ?_)
  refine a_if_eq (pc := 8) hG (tgt := 35) hd dX11_near_8 (by decide) (fun hd => ?_) (fun hd => ?_)
  · refine a_iconst (pc := 35) hG dX11_near_35 (v := (-1 : Int32)) rfl ?_
    exact a_iret (pc := 36) hG hd dX11_near_36
  refine a_aload_n (pc := 11) hG 0 rfl dX11_near_11 rfl ?_
  refine a_getR (pc := 12) hG sc_0 cl_X11 ok_X11 5 (by decide) rfl t_486 dX11_near_12 ?_
  refine a_iload_n (pc := 15) hG 1 rfl dX11_near_15 rfl ?_
  refine a_iload_n (pc := 16) hG 2 rfl dX11_near_16 rfl ?_
  refine a_cvI (pc := 17) hG (As := [.int a0, .int a1]) (st := []) sc_31 cl_X9 mk_X9_canStillDo t_981 (by omega) (fun z hz => c_Ways_canStillDo a0 a1 _  z hz) rfl (Nat.le_of_ble_eq_true rfl) hd dX11_near_17 (fun r4 h3 hd => ?_)
  refine a_if_eq (pc := 20) hG (tgt := 35) hd dX11_near_20 (by decide) (fun hd => ?_) (fun hd => ?_)
  · refine a_iconst (pc := 35) hG dX11_near_35 (v := (-1 : Int32)) rfl ?_
    exact a_iret (pc := 36) hG hd dX11_near_36
  refine a_aload_n (pc := 23) hG 0 rfl dX11_near_23 rfl ?_
  refine a_getR (pc := 24) hG sc_0 cl_X11 ok_X11 5 (by decide) rfl t_486 dX11_near_24 ?_
  refine a_iload_n (pc := 27) hG 1 rfl dX11_near_27 rfl ?_
  refine a_iload_n (pc := 28) hG 2 rfl dX11_near_28 rfl ?_
  refine a_cvI (pc := 29) hG (As := [.int a0, .int a1]) (st := []) sc_31 cl_X9 mk_X9_nearnessBehind t_985 (by omega) (fun z hz => c_Ways_nearnessBehind a0 a1 _  z hz) rfl (Nat.le_of_ble_eq_true rfl) hd dX11_near_29 (fun r6 h5 hd => ?_)
  refine a_goto (pc := 32) hG (tgt := 36) dX11_near_32 (by decide) ?_
  exact a_iret (pc := 36) hG hd dX11_near_36
theorem dX9_ordersOf_0 : decode cX9_ordersOf 0 = .ok (.aload_n 0, 1) := by decide +kernel
theorem dX9_ordersOf_1 : decode cX9_ordersOf 1 = .ok (.iload_n 1, 1) := by decide +kernel
theorem dX9_ordersOf_2 : decode cX9_ordersOf 2 = .ok (.invokevirtual 60, 3) := by decide +kernel
theorem dX9_ordersOf_5 : decode cX9_ordersOf 5 = .ok (.aload_n 0, 1) := by decide +kernel
theorem dX9_ordersOf_6 : decode cX9_ordersOf 6 = .ok (.getfield 21, 3) := by decide +kernel
theorem dX9_ordersOf_9 : decode cX9_ordersOf 9 = .ok (.iload_n 2, 1) := by decide +kernel
theorem dX9_ordersOf_10 : decode cX9_ordersOf 10 = .ok (.iaload, 1) := by decide +kernel
theorem dX9_ordersOf_11 : decode cX9_ordersOf 11 = .ok (.ireturn, 1) := by decide +kernel
set_option maxHeartbeats 4000000 in
theorem c_Ways_ordersOf {ad wad : Nat → Nat} (F : Nat) (a0 : Int32) (a1 : Int32) (h : HS)  (q : Int32 × HS) (hd : f_Ways_ordersOf F a0 a1 h = some q) : Ctr SHc ad wad yX9_ordersOf cX9_ordersOf 3 (some .int) 3 [.ref (ad 31), .int a0, .int a1] h (some (.int q.1), q.2) := by
  refine enter (own := RX9) (lv := [(0, .ref (ad 31)), (1, .int a0), (2, .int a1)]) (by decide +kernel) rfl (Nat.le_of_ble_eq_true rfl) rfl (fun Γ hG => ?_)
  unfold f_Ways_ordersOf at hd
  refine a_aload_n (pc := 0) hG 0 rfl dX9_ordersOf_0 rfl ?_
  refine a_iload_n (pc := 1) hG 1 rfl dX9_ordersOf_1 rfl ?_
  refine a_cvN (pc := 2) hG (As := [.int a0]) (st := []) sc_31 cl_X9 mk_X9_countOrders t_949 (by omega) (fun z hz => c_Ways_countOrders F a0 _  z hz) rfl (Nat.le_of_ble_eq_true rfl) hd dX9_ordersOf_2 (fun _ h1 hd => ?_)
  refine a_aload_n (pc := 5) hG 0 rfl dX9_ordersOf_5 rfl ?_
  refine a_getR (pc := 6) hG sc_31 cl_X9 ok_X9 5 (by decide) rfl t_293 dX9_ordersOf_6 ?_
  refine a_iload_n (pc := 9) hG 2 rfl dX9_ordersOf_9 rfl ?_
  refine a_iald (pc := 10) hG sc_35 hd dX9_ordersOf_10 (fun hd => ?_)
  exact a_iret (pc := 11) hG hd dX9_ordersOf_11
theorem dX11_orders_0 : decode cX11_orders 0 = .ok (.aload_n 0, 1) := by decide +kernel
theorem dX11_orders_1 : decode cX11_orders 1 = .ok (.getfield 19, 3) := by decide +kernel
theorem dX11_orders_4 : decode cX11_orders 4 = .ok (.iload_n 1, 1) := by decide +kernel
theorem dX11_orders_5 : decode cX11_orders 5 = .ok (.invokevirtual 147, 3) := by decide +kernel
theorem dX11_orders_8 : decode cX11_orders 8 = .ok (.ifCond .eq 27, 3) := by decide +kernel
theorem dX11_orders_11 : decode cX11_orders 11 = .ok (.aload_n 0, 1) := by decide +kernel
theorem dX11_orders_12 : decode cX11_orders 12 = .ok (.getfield 49, 3) := by decide +kernel
theorem dX11_orders_15 : decode cX11_orders 15 = .ok (.iload_n 1, 1) := by decide +kernel
theorem dX11_orders_16 : decode cX11_orders 16 = .ok (.iload_n 2, 1) := by decide +kernel
theorem dX11_orders_17 : decode cX11_orders 17 = .ok (.invokevirtual 226, 3) := by decide +kernel
theorem dX11_orders_20 : decode cX11_orders 20 = .ok (.ifCond .eq 15, 3) := by decide +kernel
theorem dX11_orders_23 : decode cX11_orders 23 = .ok (.aload_n 0, 1) := by decide +kernel
theorem dX11_orders_24 : decode cX11_orders 24 = .ok (.getfield 49, 3) := by decide +kernel
theorem dX11_orders_27 : decode cX11_orders 27 = .ok (.iload_n 1, 1) := by decide +kernel
theorem dX11_orders_28 : decode cX11_orders 28 = .ok (.iload_n 2, 1) := by decide +kernel
theorem dX11_orders_29 : decode cX11_orders 29 = .ok (.invokevirtual 233, 3) := by decide +kernel
theorem dX11_orders_32 : decode cX11_orders 32 = .ok (.goto 4, 3) := by decide +kernel
theorem dX11_orders_35 : decode cX11_orders 35 = .ok (.iconst (-1), 1) := by decide +kernel
theorem dX11_orders_36 : decode cX11_orders 36 = .ok (.ireturn, 1) := by decide +kernel
set_option maxHeartbeats 4000000 in
theorem c_LC_orders {ad wad : Nat → Nat} (F : Nat) (a0 : Int32) (a1 : Int32) (h : HS)  (q : Int32 × HS) (hd : f_LC_orders F a0 a1 h = some q) : Ctr SHc ad wad yX11_orders cX11_orders 3 (some .int) 4 [.ref (ad 0), .int a0, .int a1] h (some (.int q.1), q.2) := by
  refine enter (own := RX11) (lv := [(0, .ref (ad 0)), (1, .int a0), (2, .int a1)]) (by decide +kernel) rfl (Nat.le_of_ble_eq_true rfl) rfl (fun Γ hG => ?_)
  unfold f_LC_orders at hd
  refine a_aload_n (pc := 0) hG 0 rfl dX11_orders_0 rfl ?_
  refine a_getR (pc := 1) hG sc_0 cl_X11 ok_X11 1 (by decide) rfl t_482 dX11_orders_1 ?_
  refine a_iload_n (pc := 4) hG 1 rfl dX11_orders_4 rfl ?_
  refine a_cvI (pc := 5) hG (As := [.int a0]) (st := []) sc_3 cl_X5 mk_X5_hasCause t_818 (by omega) (fun z hz => c_Plan_hasCause_3 a0 _  z hz) rfl (Nat.le_of_ble_eq_true rfl) hd dX11_orders_5 (fun r2 h1 hd => ?_)
  refine a_if_eq (pc := 8) hG (tgt := 35) hd dX11_orders_8 (by decide) (fun hd => ?_) (fun hd => ?_)
  · refine a_iconst (pc := 35) hG dX11_orders_35 (v := (-1 : Int32)) rfl ?_
    exact a_iret (pc := 36) hG hd dX11_orders_36
  refine a_aload_n (pc := 11) hG 0 rfl dX11_orders_11 rfl ?_
  refine a_getR (pc := 12) hG sc_0 cl_X11 ok_X11 5 (by decide) rfl t_486 dX11_orders_12 ?_
  refine a_iload_n (pc := 15) hG 1 rfl dX11_orders_15 rfl ?_
  refine a_iload_n (pc := 16) hG 2 rfl dX11_orders_16 rfl ?_
  refine a_cvI (pc := 17) hG (As := [.int a0, .int a1]) (st := []) sc_31 cl_X9 mk_X9_canStillDo t_981 (by omega) (fun z hz => c_Ways_canStillDo a0 a1 _  z hz) rfl (Nat.le_of_ble_eq_true rfl) hd dX11_orders_17 (fun r4 h3 hd => ?_)
  refine a_if_eq (pc := 20) hG (tgt := 35) hd dX11_orders_20 (by decide) (fun hd => ?_) (fun hd => ?_)
  · refine a_iconst (pc := 35) hG dX11_orders_35 (v := (-1 : Int32)) rfl ?_
    exact a_iret (pc := 36) hG hd dX11_orders_36
  refine a_aload_n (pc := 23) hG 0 rfl dX11_orders_23 rfl ?_
  refine a_getR (pc := 24) hG sc_0 cl_X11 ok_X11 5 (by decide) rfl t_486 dX11_orders_24 ?_
  refine a_iload_n (pc := 27) hG 1 rfl dX11_orders_27 rfl ?_
  refine a_iload_n (pc := 28) hG 2 rfl dX11_orders_28 rfl ?_
  refine a_cvI (pc := 29) hG (As := [.int a0, .int a1]) (st := []) sc_31 cl_X9 mk_X9_ordersOf t_994 (by omega) (fun z hz => c_Ways_ordersOf F a0 a1 _  z hz) rfl (Nat.le_of_ble_eq_true rfl) hd dX11_orders_29 (fun r6 h5 hd => ?_)
  refine a_goto (pc := 32) hG (tgt := 36) dX11_orders_32 (by decide) ?_
  exact a_iret (pc := 36) hG hd dX11_orders_36
theorem dX9_howMany_0 : decode cX9_howMany 0 = .ok (.aload_n 0, 1) := by decide +kernel
theorem dX9_howMany_1 : decode cX9_howMany 1 = .ok (.iload_n 1, 1) := by decide +kernel
theorem dX9_howMany_2 : decode cX9_howMany 2 = .ok (.invokevirtual 60, 3) := by decide +kernel
theorem dX9_howMany_5 : decode cX9_howMany 5 = .ok (.iconst 0, 1) := by decide +kernel
theorem dX9_howMany_6 : decode cX9_howMany 6 = .ok (.istore_n 3, 1) := by decide +kernel
theorem dX9_howMany_7 : decode cX9_howMany 7 = .ok (.iconst 0, 1) := by decide +kernel
theorem dX9_howMany_8 : decode cX9_howMany 8 = .ok (.istore 4, 2) := by decide +kernel
theorem dX9_howMany_10 : decode cX9_howMany 10 = .ok (.iload 4, 2) := by decide +kernel
theorem dX9_howMany_12 : decode cX9_howMany 12 = .ok (.aload_n 0, 1) := by decide +kernel
theorem dX9_howMany_13 : decode cX9_howMany 13 = .ok (.getfield 24, 3) := by decide +kernel
theorem dX9_howMany_16 : decode cX9_howMany 16 = .ok (.if_icmp .ge 31, 3) := by decide +kernel
theorem dX9_howMany_19 : decode cX9_howMany 19 = .ok (.aload_n 0, 1) := by decide +kernel
theorem dX9_howMany_20 : decode cX9_howMany 20 = .ok (.getfield 21, 3) := by decide +kernel
theorem dX9_howMany_23 : decode cX9_howMany 23 = .ok (.iload 4, 2) := by decide +kernel
theorem dX9_howMany_25 : decode cX9_howMany 25 = .ok (.iaload, 1) := by decide +kernel
theorem dX9_howMany_26 : decode cX9_howMany 26 = .ok (.ifCond .le 15, 3) := by decide +kernel
theorem dX9_howMany_29 : decode cX9_howMany 29 = .ok (.iload 4, 2) := by decide +kernel
theorem dX9_howMany_31 : decode cX9_howMany 31 = .ok (.invokestatic 64, 3) := by decide +kernel
theorem dX9_howMany_34 : decode cX9_howMany 34 = .ok (.iload_n 2, 1) := by decide +kernel
theorem dX9_howMany_35 : decode cX9_howMany 35 = .ok (.if_icmp .gt 6, 3) := by decide +kernel
theorem dX9_howMany_38 : decode cX9_howMany 38 = .ok (.iinc 3 1, 3) := by decide +kernel
theorem dX9_howMany_41 : decode cX9_howMany 41 = .ok (.iinc 4 1, 3) := by decide +kernel
theorem dX9_howMany_44 : decode cX9_howMany 44 = .ok (.goto (-34), 3) := by decide +kernel
theorem dX9_howMany_47 : decode cX9_howMany 47 = .ok (.iload_n 3, 1) := by decide +kernel
theorem dX9_howMany_48 : decode cX9_howMany 48 = .ok (.ireturn, 1) := by decide +kernel
set_option maxHeartbeats 4000000 in
theorem w_l_Ways_howMany_0 {ad wad : Nat → Nat} {Γ : Ctx} (F : Nat) {n : Nat} (hn : 3 ≤ n) (hG : Cx SHc ad wad cX9_howMany 5 RX9 (some .int) (n) Γ) {q : Int32 × HS} {x2 : Int32} {g : Nat} {x3 : Int32} {x4 : Int32} {h : HS} (hd : l_Ways_howMany_0 F x2 g x3 x4 h = some q) : AW SHc ad 5 (some (.int q.1), q.2) Γ 10 [(0, .ref (ad 31)), (2, .int x2), (3, .int x3), (4, .int x4)] [] h := by
  induction g generalizing x3 x4 h with
  | zero => unfold l_Ways_howMany_0 at hd; cases hd
  | succ g ih =>
    unfold l_Ways_howMany_0 at hd
    refine a_iload (pc := 10) hG 3 rfl dX9_howMany_10 ?_
    refine a_aload_n (pc := 12) hG 0 rfl dX9_howMany_12 rfl ?_
    refine a_getI (pc := 13) hG sc_31 cl_X9 ok_X9 6 (by decide) rfl t_294 dX9_howMany_13 ?_
    refine a_ic_ge (pc := 16) hG (tgt := 47) hd dX9_howMany_16 (by decide) (fun hd => ?_) (fun hd => ?_)
    · refine a_iload_n (pc := 47) hG 2 rfl dX9_howMany_47 rfl ?_
      exact a_iret (pc := 48) hG hd dX9_howMany_48
    refine a_aload_n (pc := 19) hG 0 rfl dX9_howMany_19 rfl ?_
    refine a_getR (pc := 20) hG sc_31 cl_X9 ok_X9 5 (by decide) rfl t_293 dX9_howMany_20 ?_
    refine a_iload (pc := 23) hG 3 rfl dX9_howMany_23 ?_
    refine a_iald (pc := 25) hG sc_35 hd dX9_howMany_25 (fun hd => ?_)
    refine a_join hd (Q := fun J : Int32 → HS → Option (Int32 × HS) => ∀ (v5 : Int32) (h6 : HS), J v5 h6 = some q → AW SHc ad 5 (some (.int q.1), q.2) Γ 41 [(0, .ref (ad 31)), (2, .int x2), (3, .int v5), (4, .int x4)] [] h6) (fun v5 h6 hd => ?_) (fun J4 hJ4 hd => ?_)
    · refine a_iincN (pc := 41) hG (c0 := (nI 1)) 3 rfl hd dX9_howMany_41 rfl (by decide) (lf := fun x => [(4, .int x), (0, .ref (ad 31)), (2, .int x2), (3, .int v5)]) (fun _ => rfl) (fun v7 hd => ?_)
      refine a_goto (pc := 44) hG (tgt := 10) dX9_howMany_44 (by decide) ?_
      exact AW.sub [1, 2, 3, 0] rfl (ih hd)
    refine a_if_le (pc := 26) hG (tgt := 41) hd dX9_howMany_26 (by decide) (fun hd => ?_) (fun hd => ?_)
    · exact AW.sub [0, 1, 2, 3] rfl (hJ4 _ _ hd)
    refine a_iload (pc := 29) hG 3 rfl dX9_howMany_29 ?_
    refine a_csI (pc := 31) hG (As := [.int x4]) (st := []) mk_J6_bitCount_0f7a4 t_959 (by omega) (fun z hz => c_Int_bitCount_0f7a4 x4 _  z hz) rfl (Nat.le_of_ble_eq_true rfl) hd dX9_howMany_31 (fun r9 h8 hd => ?_)
    refine a_iload_n (pc := 34) hG 1 rfl dX9_howMany_34 rfl ?_
    refine a_ic_gt (pc := 35) hG (tgt := 41) hd dX9_howMany_35 (by decide) (fun hd => ?_) (fun hd => ?_)
    · exact AW.sub [0, 1, 2, 3] rfl (hJ4 _ _ hd)
    refine a_iincN (pc := 38) hG (c0 := (nI 1)) 2 rfl hd dX9_howMany_38 rfl (by decide) (lf := fun x => [(3, .int x), (0, .ref (ad 31)), (2, .int x2), (4, .int x4)]) (fun _ => rfl) (fun v10 hd => ?_)
    exact AW.sub [1, 2, 0, 3] rfl (hJ4 _ _ hd)
set_option maxHeartbeats 4000000 in
theorem c_Ways_howMany {ad wad : Nat → Nat} (F : Nat) (a0 : Int32) (a1 : Int32) (h : HS)  (q : Int32 × HS) (hd : f_Ways_howMany F a0 a1 h = some q) : Ctr SHc ad wad yX9_howMany cX9_howMany 5 (some .int) 3 [.ref (ad 31), .int a0, .int a1] h (some (.int q.1), q.2) := by
  refine enter (own := RX9) (lv := [(0, .ref (ad 31)), (1, .int a0), (2, .int a1)]) (by decide +kernel) rfl (Nat.le_of_ble_eq_true rfl) rfl (fun Γ hG => ?_)
  unfold f_Ways_howMany at hd
  refine a_aload_n (pc := 0) hG 0 rfl dX9_howMany_0 rfl ?_
  refine a_iload_n (pc := 1) hG 1 rfl dX9_howMany_1 rfl ?_
  refine a_cvN (pc := 2) hG (As := [.int a0]) (st := []) sc_31 cl_X9 mk_X9_countOrders t_949 (by omega) (fun z hz => c_Ways_countOrders F a0 _  z hz) rfl (Nat.le_of_ble_eq_true rfl) hd dX9_howMany_2 (fun _ h1 hd => ?_)
  refine a_iconst (pc := 5) hG dX9_howMany_5 (v := (nI 0)) rfl ?_
  refine a_istore_nN (pc := 6) hG hd dX9_howMany_6 rfl (by decide) (lf := fun x => [(3, .int x), (0, .ref (ad 31)), (1, .int a0), (2, .int a1)]) (fun _ => rfl) (fun v2 hd => ?_)
  refine a_iconst (pc := 7) hG dX9_howMany_7 (v := (nI 0)) rfl ?_
  refine a_istoreN (pc := 8) hG hd dX9_howMany_8 (by decide) (lf := fun x => [(4, .int x), (3, .int v2), (0, .ref (ad 31)), (1, .int a0), (2, .int a1)]) (fun _ => rfl) (fun v3 hd => ?_)
  refine AW.sub [2, 4, 1, 0] rfl ?_
  exact w_l_Ways_howMany_0 F (by omega) hG hd
theorem dX11_ways_0 : decode cX11_ways 0 = .ok (.aload_n 0, 1) := by decide +kernel
theorem dX11_ways_1 : decode cX11_ways 1 = .ok (.getfield 19, 3) := by decide +kernel
theorem dX11_ways_4 : decode cX11_ways 4 = .ok (.iload_n 1, 1) := by decide +kernel
theorem dX11_ways_5 : decode cX11_ways 5 = .ok (.invokevirtual 147, 3) := by decide +kernel
theorem dX11_ways_8 : decode cX11_ways 8 = .ok (.ifCond .eq 22, 3) := by decide +kernel
theorem dX11_ways_11 : decode cX11_ways 11 = .ok (.iload_n 2, 1) := by decide +kernel
theorem dX11_ways_12 : decode cX11_ways 12 = .ok (.invokestatic 220, 3) := by decide +kernel
theorem dX11_ways_15 : decode cX11_ways 15 = .ok (.ifCond .eq 15, 3) := by decide +kernel
theorem dX11_ways_18 : decode cX11_ways 18 = .ok (.aload_n 0, 1) := by decide +kernel
theorem dX11_ways_19 : decode cX11_ways 19 = .ok (.getfield 49, 3) := by decide +kernel
theorem dX11_ways_22 : decode cX11_ways 22 = .ok (.iload_n 1, 1) := by decide +kernel
theorem dX11_ways_23 : decode cX11_ways 23 = .ok (.iload_n 2, 1) := by decide +kernel
theorem dX11_ways_24 : decode cX11_ways 24 = .ok (.invokevirtual 236, 3) := by decide +kernel
theorem dX11_ways_27 : decode cX11_ways 27 = .ok (.goto 4, 3) := by decide +kernel
theorem dX11_ways_30 : decode cX11_ways 30 = .ok (.iconst (-1), 1) := by decide +kernel
theorem dX11_ways_31 : decode cX11_ways 31 = .ok (.ireturn, 1) := by decide +kernel
set_option maxHeartbeats 4000000 in
theorem c_LC_ways {ad wad : Nat → Nat} (F : Nat) (a0 : Int32) (a1 : Int32) (h : HS)  (q : Int32 × HS) (hd : f_LC_ways F a0 a1 h = some q) : Ctr SHc ad wad yX11_ways cX11_ways 3 (some .int) 4 [.ref (ad 0), .int a0, .int a1] h (some (.int q.1), q.2) := by
  refine enter (own := RX11) (lv := [(0, .ref (ad 0)), (1, .int a0), (2, .int a1)]) (by decide +kernel) rfl (Nat.le_of_ble_eq_true rfl) rfl (fun Γ hG => ?_)
  unfold f_LC_ways at hd
  refine a_aload_n (pc := 0) hG 0 rfl dX11_ways_0 rfl ?_
  refine a_getR (pc := 1) hG sc_0 cl_X11 ok_X11 1 (by decide) rfl t_482 dX11_ways_1 ?_
  refine a_iload_n (pc := 4) hG 1 rfl dX11_ways_4 rfl ?_
  refine a_cvI (pc := 5) hG (As := [.int a0]) (st := []) sc_3 cl_X5 mk_X5_hasCause t_818 (by omega) (fun z hz => c_Plan_hasCause_3 a0 _  z hz) rfl (Nat.le_of_ble_eq_true rfl) hd dX11_ways_5 (fun r2 h1 hd => ?_)
  refine a_if_eq (pc := 8) hG (tgt := 30) hd dX11_ways_8 (by decide) (fun hd => ?_) (fun hd => ?_)
  · refine a_iconst (pc := 30) hG dX11_ways_30 (v := (-1 : Int32)) rfl ?_
    exact a_iret (pc := 31) hG hd dX11_ways_31
  refine a_iload_n (pc := 11) hG 2 rfl dX11_ways_11 rfl ?_
  refine a_csI (pc := 12) hG (As := [.int a1]) (st := []) mk_X11_isDeedNumber t_942 (by omega) (fun z hz => c_LC_isDeedNumber a1 _  z hz) rfl (Nat.le_of_ble_eq_true rfl) hd dX11_ways_12 (fun r4 h3 hd => ?_)
  refine a_if_eq (pc := 15) hG (tgt := 30) hd dX11_ways_15 (by decide) (fun hd => ?_) (fun hd => ?_)
  · refine a_iconst (pc := 30) hG dX11_ways_30 (v := (-1 : Int32)) rfl ?_
    exact a_iret (pc := 31) hG hd dX11_ways_31
  refine a_aload_n (pc := 18) hG 0 rfl dX11_ways_18 rfl ?_
  refine a_getR (pc := 19) hG sc_0 cl_X11 ok_X11 5 (by decide) rfl t_486 dX11_ways_19 ?_
  refine a_iload_n (pc := 22) hG 1 rfl dX11_ways_22 rfl ?_
  refine a_iload_n (pc := 23) hG 2 rfl dX11_ways_23 rfl ?_
  refine a_cvI (pc := 24) hG (As := [.int a0, .int a1]) (st := []) sc_31 cl_X9 mk_X9_howMany t_1002 (by omega) (fun z hz => c_Ways_howMany F a0 a1 _  z hz) rfl (Nat.le_of_ble_eq_true rfl) hd dX11_ways_24 (fun r6 h5 hd => ?_)
  refine a_goto (pc := 27) hG (tgt := 31) dX11_ways_27 (by decide) ?_
  exact a_iret (pc := 31) hG hd dX11_ways_31
theorem dX0_isOpenAndSafe_0 : decode cX0_isOpenAndSafe 0 = .ok (.aload_n 0, 1) := by decide +kernel
theorem dX0_isOpenAndSafe_1 : decode cX0_isOpenAndSafe 1 = .ok (.iload_n 1, 1) := by decide +kernel
theorem dX0_isOpenAndSafe_2 : decode cX0_isOpenAndSafe 2 = .ok (.iconst 4, 1) := by decide +kernel
theorem dX0_isOpenAndSafe_3 : decode cX0_isOpenAndSafe 3 = .ok (.invokevirtual 81, 3) := by decide +kernel
theorem dX0_isOpenAndSafe_6 : decode cX0_isOpenAndSafe 6 = .ok (.ifCond .ne 15, 3) := by decide +kernel
theorem dX0_isOpenAndSafe_9 : decode cX0_isOpenAndSafe 9 = .ok (.aload_n 0, 1) := by decide +kernel
theorem dX0_isOpenAndSafe_10 : decode cX0_isOpenAndSafe 10 = .ok (.iload_n 1, 1) := by decide +kernel
theorem dX0_isOpenAndSafe_11 : decode cX0_isOpenAndSafe 11 = .ok (.invokevirtual 86, 3) := by decide +kernel
theorem dX0_isOpenAndSafe_14 : decode cX0_isOpenAndSafe 14 = .ok (.ifCond .eq 7, 3) := by decide +kernel
theorem dX0_isOpenAndSafe_17 : decode cX0_isOpenAndSafe 17 = .ok (.iconst 1, 1) := by decide +kernel
theorem dX0_isOpenAndSafe_18 : decode cX0_isOpenAndSafe 18 = .ok (.goto 4, 3) := by decide +kernel
theorem dX0_isOpenAndSafe_21 : decode cX0_isOpenAndSafe 21 = .ok (.iconst 0, 1) := by decide +kernel
theorem dX0_isOpenAndSafe_22 : decode cX0_isOpenAndSafe 22 = .ok (.ireturn, 1) := by decide +kernel
set_option maxHeartbeats 4000000 in
theorem c_Desk_isOpenAndSafe {ad wad : Nat → Nat} (a0 : Int32) (h : HS)  (q : Int32 × HS) (hd : f_Desk_isOpenAndSafe a0 h = some q) : Ctr SHc ad wad yX0_isOpenAndSafe cX0_isOpenAndSafe 2 (some .boolean) 3 [.ref (ad 20), .int a0] h (some (.int q.1), q.2) := by
  refine enter (own := RX0) (lv := [(0, .ref (ad 20)), (1, .int a0)]) (by decide +kernel) rfl (Nat.le_of_ble_eq_true rfl) rfl (fun Γ hG => ?_)
  unfold f_Desk_isOpenAndSafe at hd
  refine a_aload_n (pc := 0) hG 0 rfl dX0_isOpenAndSafe_0 rfl ?_
  refine a_iload_n (pc := 1) hG 1 rfl dX0_isOpenAndSafe_1 rfl ?_
  refine a_iconst (pc := 2) hG dX0_isOpenAndSafe_2 (v := (nI 4)) rfl ?_
  refine a_cvI (pc := 3) hG (As := [.int a0, .int (nI 4)]) (st := []) sc_20 cl_X0 mk_X0_ofCause t_806 (by omega) (fun z hz => c_Desk_ofCause a0 (nI 4) _  z hz) rfl (Nat.le_of_ble_eq_true rfl) hd dX0_isOpenAndSafe_3 (fun r2 h1 hd => ?_)
  refine a_if_ne (pc := 6) hG (tgt := 21) hd dX0_isOpenAndSafe_6 (by decide) (fun hd => ?_) (fun hd => ?_)
  · refine a_iconst (pc := 21) hG dX0_isOpenAndSafe_21 (v := (nI 0)) rfl ?_
    exact a_zret (pc := 22) hG hd dX0_isOpenAndSafe_22
  refine a_aload_n (pc := 9) hG 0 rfl dX0_isOpenAndSafe_9 rfl ?_
  refine a_iload_n (pc := 10) hG 1 rfl dX0_isOpenAndSafe_10 rfl ?_
  refine a_cvI (pc := 11) hG (As := [.int a0]) (st := []) sc_20 cl_X0 mk_X0_isSafe t_828 (by omega) (fun z hz => c_Desk_isSafe a0 _  z hz) rfl (Nat.le_of_ble_eq_true rfl) hd dX0_isOpenAndSafe_11 (fun r4 h3 hd => ?_)
  refine a_if_eq (pc := 14) hG (tgt := 21) hd dX0_isOpenAndSafe_14 (by decide) (fun hd => ?_) (fun hd => ?_)
  · refine a_iconst (pc := 21) hG dX0_isOpenAndSafe_21 (v := (nI 0)) rfl ?_
    exact a_zret (pc := 22) hG hd dX0_isOpenAndSafe_22
  refine a_iconst (pc := 17) hG dX0_isOpenAndSafe_17 (v := (nI 1)) rfl ?_
  refine a_goto (pc := 18) hG (tgt := 22) dX0_isOpenAndSafe_18 (by decide) ?_
  exact a_zret (pc := 22) hG hd dX0_isOpenAndSafe_22
theorem dX9_valueFor_0 : decode cX9_valueFor 0 = .ok (.aload_n 0, 1) := by decide +kernel
theorem dX9_valueFor_1 : decode cX9_valueFor 1 = .ok (.getfield 32, 3) := by decide +kernel
theorem dX9_valueFor_4 : decode cX9_valueFor 4 = .ok (.iload_n 2, 1) := by decide +kernel
theorem dX9_valueFor_5 : decode cX9_valueFor 5 = .ok (.invokevirtual 74, 3) := by decide +kernel
theorem dX9_valueFor_8 : decode cX9_valueFor 8 = .ok (.ifCond .ne 5, 3) := by decide +kernel
theorem dX9_valueFor_11 : decode cX9_valueFor 11 = .ok (.iconst 0, 1) := by decide +kernel
theorem dX9_valueFor_12 : decode cX9_valueFor 12 = .ok (.ireturn, 1) := by decide +kernel
theorem dX9_valueFor_13 : decode cX9_valueFor 13 = .ok (.aload_n 0, 1) := by decide +kernel
theorem dX9_valueFor_14 : decode cX9_valueFor 14 = .ok (.iload_n 2, 1) := by decide +kernel
theorem dX9_valueFor_15 : decode cX9_valueFor 15 = .ok (.aload_n 0, 1) := by decide +kernel
theorem dX9_valueFor_16 : decode cX9_valueFor 16 = .ok (.getfield 32, 3) := by decide +kernel
theorem dX9_valueFor_19 : decode cX9_valueFor 19 = .ok (.iload_n 1, 1) := by decide +kernel
theorem dX9_valueFor_20 : decode cX9_valueFor 20 = .ok (.iconst 0, 1) := by decide +kernel
theorem dX9_valueFor_21 : decode cX9_valueFor 21 = .ok (.invokevirtual 78, 3) := by decide +kernel
theorem dX9_valueFor_24 : decode cX9_valueFor 24 = .ok (.invokevirtual 81, 3) := by decide +kernel
theorem dX9_valueFor_27 : decode cX9_valueFor 27 = .ok (.istore_n 3, 1) := by decide +kernel
theorem dX9_valueFor_28 : decode cX9_valueFor 28 = .ok (.iload_n 3, 1) := by decide +kernel
theorem dX9_valueFor_29 : decode cX9_valueFor 29 = .ok (.iconst (-1), 1) := by decide +kernel
theorem dX9_valueFor_30 : decode cX9_valueFor 30 = .ok (.if_icmp .ne 5, 3) := by decide +kernel
theorem dX9_valueFor_33 : decode cX9_valueFor 33 = .ok (.iconst 0, 1) := by decide +kernel
theorem dX9_valueFor_34 : decode cX9_valueFor 34 = .ok (.ireturn, 1) := by decide +kernel
theorem dX9_valueFor_35 : decode cX9_valueFor 35 = .ok (.aload_n 0, 1) := by decide +kernel
theorem dX9_valueFor_36 : decode cX9_valueFor 36 = .ok (.getfield 32, 3) := by decide +kernel
theorem dX9_valueFor_39 : decode cX9_valueFor 39 = .ok (.iload_n 2, 1) := by decide +kernel
theorem dX9_valueFor_40 : decode cX9_valueFor 40 = .ok (.iconst 2, 1) := by decide +kernel
theorem dX9_valueFor_41 : decode cX9_valueFor 41 = .ok (.invokevirtual 46, 3) := by decide +kernel
theorem dX9_valueFor_44 : decode cX9_valueFor 44 = .ok (.aload_n 0, 1) := by decide +kernel
theorem dX9_valueFor_45 : decode cX9_valueFor 45 = .ok (.iload_n 2, 1) := by decide +kernel
theorem dX9_valueFor_46 : decode cX9_valueFor 46 = .ok (.iload_n 3, 1) := by decide +kernel
theorem dX9_valueFor_47 : decode cX9_valueFor 47 = .ok (.invokevirtual 84, 3) := by decide +kernel
theorem dX9_valueFor_50 : decode cX9_valueFor 50 = .ok (.imul, 1) := by decide +kernel
theorem dX9_valueFor_51 : decode cX9_valueFor 51 = .ok (.sipush 1000, 3) := by decide +kernel
theorem dX9_valueFor_54 : decode cX9_valueFor 54 = .ok (.idiv, 1) := by decide +kernel
theorem dX9_valueFor_55 : decode cX9_valueFor 55 = .ok (.aload_n 0, 1) := by decide +kernel
theorem dX9_valueFor_56 : decode cX9_valueFor 56 = .ok (.getfield 18, 3) := by decide +kernel
theorem dX9_valueFor_59 : decode cX9_valueFor 59 = .ok (.iload_n 3, 1) := by decide +kernel
theorem dX9_valueFor_60 : decode cX9_valueFor 60 = .ok (.iaload, 1) := by decide +kernel
theorem dX9_valueFor_61 : decode cX9_valueFor 61 = .ok (.isub, 1) := by decide +kernel
theorem dX9_valueFor_62 : decode cX9_valueFor 62 = .ok (.ireturn, 1) := by decide +kernel
set_option maxHeartbeats 4000000 in
theorem c_Ways_valueFor {ad wad : Nat → Nat} (F : Nat) (a0 : Int32) (a1 : Int32) (h : HS)  (q : Int32 × HS) (hd : f_Ways_valueFor F a0 a1 h = some q) : Ctr SHc ad wad yX9_valueFor cX9_valueFor 4 (some .int) 5 [.ref (ad 31), .int a0, .int a1] h (some (.int q.1), q.2) := by
  refine enter (own := RX9) (lv := [(0, .ref (ad 31)), (1, .int a0), (2, .int a1)]) (by decide +kernel) rfl (Nat.le_of_ble_eq_true rfl) rfl (fun Γ hG => ?_)
  unfold f_Ways_valueFor at hd
  refine a_aload_n (pc := 0) hG 0 rfl dX9_valueFor_0 rfl ?_
  refine a_getR (pc := 1) hG sc_31 cl_X9 ok_X9 1 (by decide) rfl t_289 dX9_valueFor_1 ?_
  refine a_iload_n (pc := 4) hG 2 rfl dX9_valueFor_4 rfl ?_
  refine a_cvI (pc := 5) hG (As := [.int a1]) (st := []) sc_20 cl_X0 mk_X0_isOpenAndSafe t_1024 (by omega) (fun z hz => c_Desk_isOpenAndSafe a1 _  z hz) rfl (Nat.le_of_ble_eq_true rfl) hd dX9_valueFor_5 (fun r2 h1 hd => ?_)
  refine a_if_ne (pc := 8) hG (tgt := 13) hd dX9_valueFor_8 (by decide) (fun hd => ?_) (fun hd => ?_)
  · refine a_aload_n (pc := 13) hG 0 rfl dX9_valueFor_13 rfl ?_
    refine a_iload_n (pc := 14) hG 2 rfl dX9_valueFor_14 rfl ?_
    refine a_aload_n (pc := 15) hG 0 rfl dX9_valueFor_15 rfl ?_
    refine a_getR (pc := 16) hG sc_31 cl_X9 ok_X9 1 (by decide) rfl t_289 dX9_valueFor_16 ?_
    refine a_iload_n (pc := 19) hG 1 rfl dX9_valueFor_19 rfl ?_
    refine a_iconst (pc := 20) hG dX9_valueFor_20 (v := (nI 0)) rfl ?_
    refine a_cvI (pc := 21) hG (As := [.int a0, .int (nI 0)]) (st := [.int a1, .ref (ad 31)]) sc_20 cl_X0 mk_X0_ofClerk t_1028 (by omega) (fun z hz => c_Desk_ofClerk a0 (nI 0) _  z hz) rfl (Nat.le_of_ble_eq_true rfl) hd dX9_valueFor_21 (fun r4 h3 hd => ?_)
    refine a_cvI (pc := 24) hG (As := [.int a1, .int r4]) (st := []) sc_31 cl_X9 mk_X9_nearestSet t_1029 (by omega) (fun z hz => c_Ways_nearestSet F a1 r4 _  z hz) rfl (Nat.le_of_ble_eq_true rfl) hd dX9_valueFor_24 (fun r6 h5 hd => ?_)
    refine a_istore_nN (pc := 27) hG hd dX9_valueFor_27 rfl (by decide) (lf := fun x => [(3, .int x), (0, .ref (ad 31)), (1, .int a0), (2, .int a1)]) (fun _ => rfl) (fun v7 hd => ?_)
    refine a_iload_n (pc := 28) hG 0 rfl dX9_valueFor_28 rfl ?_
    refine a_iconst (pc := 29) hG dX9_valueFor_29 (v := (-1 : Int32)) rfl ?_
    refine a_ic_ne (pc := 30) hG (tgt := 35) hd dX9_valueFor_30 (by decide) (fun hd => ?_) (fun hd => ?_)
    · refine a_aload_n (pc := 35) hG 1 rfl dX9_valueFor_35 rfl ?_
      refine a_getR (pc := 36) hG sc_31 cl_X9 ok_X9 1 (by decide) rfl t_289 dX9_valueFor_36 ?_
      refine a_iload_n (pc := 39) hG 3 rfl dX9_valueFor_39 rfl ?_
      refine a_iconst (pc := 40) hG dX9_valueFor_40 (v := (nI 2)) rfl ?_
      refine a_cvI (pc := 41) hG (As := [.int a1, .int (nI 2)]) (st := []) sc_20 cl_X0 mk_X0_ofCause t_953 (by omega) (fun z hz => c_Desk_ofCause a1 (nI 2) _  z hz) rfl (Nat.le_of_ble_eq_true rfl) hd dX9_valueFor_41 (fun r9 h8 hd => ?_)
      refine a_aload_n (pc := 44) hG 1 rfl dX9_valueFor_44 rfl ?_
      refine a_iload_n (pc := 45) hG 3 rfl dX9_valueFor_45 rfl ?_
      refine a_iload_n (pc := 46) hG 0 rfl dX9_valueFor_46 rfl ?_
      refine a_cvI (pc := 47) hG (As := [.int a1, .int v7]) (st := [.int r9]) sc_31 cl_X9 mk_X9_nearnessBehind t_1030 (by omega) (fun z hz => c_Ways_nearnessBehind a1 v7 _  z hz) rfl (Nat.le_of_ble_eq_true rfl) hd dX9_valueFor_47 (fun r11 h10 hd => ?_)
      refine a_imul (pc := 50) hG dX9_valueFor_50 ?_
      refine a_sipush (pc := 51) hG dX9_valueFor_51 (v := (nI 1000)) rfl ?_
      refine a_idiv (pc := 54) hG hd dX9_valueFor_54 (fun hd => ?_)
      refine a_aload_n (pc := 55) hG 1 rfl dX9_valueFor_55 rfl ?_
      refine a_getR (pc := 56) hG sc_31 cl_X9 ok_X9 4 (by decide) rfl t_292 dX9_valueFor_56 ?_
      refine a_iload_n (pc := 59) hG 0 rfl dX9_valueFor_59 rfl ?_
      refine a_iald (pc := 60) hG sc_34 hd dX9_valueFor_60 (fun hd => ?_)
      refine a_isub (pc := 61) hG dX9_valueFor_61 ?_
      exact a_iret (pc := 62) hG hd dX9_valueFor_62
    refine a_iconst (pc := 33) hG dX9_valueFor_33 (v := (nI 0)) rfl ?_
    exact a_iret (pc := 34) hG hd dX9_valueFor_34
  refine a_iconst (pc := 11) hG dX9_valueFor_11 (v := (nI 0)) rfl ?_
  exact a_iret (pc := 12) hG hd dX9_valueFor_12
theorem dX11_value_0 : decode cX11_value 0 = .ok (.aload_n 0, 1) := by decide +kernel
theorem dX11_value_1 : decode cX11_value 1 = .ok (.getfield 19, 3) := by decide +kernel
theorem dX11_value_4 : decode cX11_value 4 = .ok (.iload_n 1, 1) := by decide +kernel
theorem dX11_value_5 : decode cX11_value 5 = .ok (.invokevirtual 177, 3) := by decide +kernel
theorem dX11_value_8 : decode cX11_value 8 = .ok (.ifCond .eq 14, 3) := by decide +kernel
theorem dX11_value_11 : decode cX11_value 11 = .ok (.aload_n 0, 1) := by decide +kernel
theorem dX11_value_12 : decode cX11_value 12 = .ok (.getfield 19, 3) := by decide +kernel
theorem dX11_value_15 : decode cX11_value 15 = .ok (.iload_n 2, 1) := by decide +kernel
theorem dX11_value_16 : decode cX11_value 16 = .ok (.invokevirtual 147, 3) := by decide +kernel
theorem dX11_value_19 : decode cX11_value 19 = .ok (.ifCond .ne 13, 3) := by decide +kernel
theorem dX11_value_22 : decode cX11_value 22 = .ok (.new 150, 3) := by decide +kernel
theorem dX11_value_25 : decode cX11_value 25 = .ok (.dup, 1) := by decide +kernel
theorem dX11_value_26 : decode cX11_value 26 = .ok (.ldc 239, 2) := by decide +kernel
theorem dX11_value_28 : decode cX11_value 28 = .ok (.invokespecial 154, 3) := by decide +kernel
theorem dX11_value_31 : decode cX11_value 31 = .ok (.athrow, 1) := by decide +kernel
theorem dX11_value_32 : decode cX11_value 32 = .ok (.aload_n 0, 1) := by decide +kernel
theorem dX11_value_33 : decode cX11_value 33 = .ok (.getfield 49, 3) := by decide +kernel
theorem dX11_value_36 : decode cX11_value 36 = .ok (.iload_n 1, 1) := by decide +kernel
theorem dX11_value_37 : decode cX11_value 37 = .ok (.iload_n 2, 1) := by decide +kernel
theorem dX11_value_38 : decode cX11_value 38 = .ok (.invokevirtual 241, 3) := by decide +kernel
theorem dX11_value_41 : decode cX11_value 41 = .ok (.ireturn, 1) := by decide +kernel
set_option maxHeartbeats 4000000 in
theorem c_LC_value {ad wad : Nat → Nat} (F : Nat) (a0 : Int32) (a1 : Int32) (h : HS)  (q : Int32 × HS) (hd : f_LC_value F a0 a1 h = some q) : Ctr SHc ad wad yX11_value cX11_value 3 (some .int) 6 [.ref (ad 0), .int a0, .int a1] h (some (.int q.1), q.2) := by
  refine enter (own := RX11) (lv := [(0, .ref (ad 0)), (1, .int a0), (2, .int a1)]) (by decide +kernel) rfl (Nat.le_of_ble_eq_true rfl) rfl (fun Γ hG => ?_)
  unfold f_LC_value at hd
  refine a_aload_n (pc := 0) hG 0 rfl dX11_value_0 rfl ?_
  refine a_getR (pc := 1) hG sc_0 cl_X11 ok_X11 1 (by decide) rfl t_482 dX11_value_1 ?_
  refine a_iload_n (pc := 4) hG 1 rfl dX11_value_4 rfl ?_
  refine a_cvI (pc := 5) hG (As := [.int a0]) (st := []) sc_3 cl_X5 mk_X5_hasClerk t_790 (by omega) (fun z hz => c_Plan_hasClerk_3 a0 _  z hz) rfl (Nat.le_of_ble_eq_true rfl) hd dX11_value_5 (fun r2 h1 hd => ?_)
  refine a_join hd (Q := fun J : HS → Option (Int32 × HS) => ∀  (h4 : HS), J  h4 = some q → AW SHc ad 3 (some (.int q.1), q.2) Γ 22 [] [] h4) (fun  h4 hd => ?_) (fun J3 hJ3 hd => ?_)
  · cases hd
  refine a_if_eq (pc := 8) hG (tgt := 22) hd dX11_value_8 (by decide) (fun hd => ?_) (fun hd => ?_)
  · exact AW.sub [] rfl (hJ3  _ hd)
  refine a_aload_n (pc := 11) hG 0 rfl dX11_value_11 rfl ?_
  refine a_getR (pc := 12) hG sc_0 cl_X11 ok_X11 1 (by decide) rfl t_482 dX11_value_12 ?_
  refine a_iload_n (pc := 15) hG 2 rfl dX11_value_15 rfl ?_
  refine a_cvI (pc := 16) hG (As := [.int a1]) (st := []) sc_3 cl_X5 mk_X5_hasCause t_818 (by omega) (fun z hz => c_Plan_hasCause_3 a1 _  z hz) rfl (Nat.le_of_ble_eq_true rfl) hd dX11_value_16 (fun r6 h5 hd => ?_)
  refine a_if_ne (pc := 19) hG (tgt := 32) hd dX11_value_19 (by decide) (fun hd => ?_) (fun hd => ?_)
  · refine a_aload_n (pc := 32) hG 0 rfl dX11_value_32 rfl ?_
    refine a_getR (pc := 33) hG sc_0 cl_X11 ok_X11 5 (by decide) rfl t_486 dX11_value_33 ?_
    refine a_iload_n (pc := 36) hG 1 rfl dX11_value_36 rfl ?_
    refine a_iload_n (pc := 37) hG 2 rfl dX11_value_37 rfl ?_
    refine a_cvI (pc := 38) hG (As := [.int a0, .int a1]) (st := []) sc_31 cl_X9 mk_X9_valueFor t_1547 (by omega) (fun z hz => c_Ways_valueFor F a0 a1 _  z hz) rfl (Nat.le_of_ble_eq_true rfl) hd dX11_value_38 (fun r8 h7 hd => ?_)
    exact a_iret (pc := 41) hG hd dX11_value_41
  exact AW.sub [] rfl (hJ3  _ hd)
theorem dX3_fillValues_0 : decode cX3_fillValues 0 = .ok (.iconst 0, 1) := by decide +kernel
theorem dX3_fillValues_1 : decode cX3_fillValues 1 = .ok (.istore_n 2, 1) := by decide +kernel
theorem dX3_fillValues_2 : decode cX3_fillValues 2 = .ok (.iload_n 2, 1) := by decide +kernel
theorem dX3_fillValues_3 : decode cX3_fillValues 3 = .ok (.aload_n 0, 1) := by decide +kernel
theorem dX3_fillValues_4 : decode cX3_fillValues 4 = .ok (.getfield 21, 3) := by decide +kernel
theorem dX3_fillValues_7 : decode cX3_fillValues 7 = .ok (.invokevirtual 51, 3) := by decide +kernel
theorem dX3_fillValues_10 : decode cX3_fillValues 10 = .ok (.if_icmp .ge 29, 3) := by decide +kernel
theorem dX3_fillValues_13 : decode cX3_fillValues 13 = .ok (.aload_n 0, 1) := by decide +kernel
theorem dX3_fillValues_14 : decode cX3_fillValues 14 = .ok (.getfield 9, 3) := by decide +kernel
theorem dX3_fillValues_17 : decode cX3_fillValues 17 = .ok (.iload_n 1, 1) := by decide +kernel
theorem dX3_fillValues_18 : decode cX3_fillValues 18 = .ok (.bipush 6, 2) := by decide +kernel
theorem dX3_fillValues_20 : decode cX3_fillValues 20 = .ok (.imul, 1) := by decide +kernel
theorem dX3_fillValues_21 : decode cX3_fillValues 21 = .ok (.iload_n 2, 1) := by decide +kernel
theorem dX3_fillValues_22 : decode cX3_fillValues 22 = .ok (.iadd, 1) := by decide +kernel
theorem dX3_fillValues_23 : decode cX3_fillValues 23 = .ok (.aload_n 0, 1) := by decide +kernel
theorem dX3_fillValues_24 : decode cX3_fillValues 24 = .ok (.getfield 29, 3) := by decide +kernel
theorem dX3_fillValues_27 : decode cX3_fillValues 27 = .ok (.iload_n 1, 1) := by decide +kernel
theorem dX3_fillValues_28 : decode cX3_fillValues 28 = .ok (.iload_n 2, 1) := by decide +kernel
theorem dX3_fillValues_29 : decode cX3_fillValues 29 = .ok (.invokevirtual 58, 3) := by decide +kernel
theorem dX3_fillValues_32 : decode cX3_fillValues 32 = .ok (.iastore, 1) := by decide +kernel
theorem dX3_fillValues_33 : decode cX3_fillValues 33 = .ok (.iinc 2 1, 3) := by decide +kernel
theorem dX3_fillValues_36 : decode cX3_fillValues 36 = .ok (.goto (-34), 3) := by decide +kernel
theorem dX3_fillValues_39 : decode cX3_fillValues 39 = .ok (.return_, 1) := by decide +kernel
set_option maxHeartbeats 4000000 in
theorem w_l_Mat_fillValues_0 {ad wad : Nat → Nat} {Γ : Ctx} (F : Nat) {n : Nat} (hn : 6 ≤ n) (hG : Cx SHc ad wad cX3_fillValues 3 RX3 none (n) Γ) {q : Unit × HS} {x1 : Int32} {g : Nat} {x2 : Int32} {h : HS} (hd : l_Mat_fillValues_0 F x1 g x2 h = some q) : AW SHc ad 3 (none, q.2) Γ 2 [(0, .ref (ad 50)), (1, .int x1), (2, .int x2)] [] h := by
  induction g generalizing x2 h with
  | zero => unfold l_Mat_fillValues_0 at hd; cases hd
  | succ g ih =>
    unfold l_Mat_fillValues_0 at hd
    refine a_iload_n (pc := 2) hG 2 rfl dX3_fillValues_2 rfl ?_
    refine a_aload_n (pc := 3) hG 0 rfl dX3_fillValues_3 rfl ?_
    refine a_getR (pc := 4) hG sc_50 cl_X3 ok_X3 0 (by decide) rfl t_388 dX3_fillValues_4 ?_
    refine a_cvI (pc := 7) hG (As := []) (st := [.int x2]) sc_3 cl_X5 mk_X5_causes t_1019 (by omega) (fun z hz => c_Plan_causes_3  _  z hz) rfl (Nat.le_of_ble_eq_true rfl) hd dX3_fillValues_7 (fun r3 h2 hd => ?_)
    refine a_ic_ge (pc := 10) hG (tgt := 39) hd dX3_fillValues_10 (by decide) (fun hd => ?_) (fun hd => ?_)
    · exact a_vret (pc := 39) hG hd dX3_fillValues_39
    refine a_aload_n (pc := 13) hG 0 rfl dX3_fillValues_13 rfl ?_
    refine a_getR (pc := 14) hG sc_50 cl_X3 ok_X3 3 (by decide) rfl t_391 dX3_fillValues_14 ?_
    refine a_iload_n (pc := 17) hG 1 rfl dX3_fillValues_17 rfl ?_
    refine a_bipush (pc := 18) hG dX3_fillValues_18 (v := (nI 6)) rfl ?_
    refine a_imul (pc := 20) hG dX3_fillValues_20 ?_
    refine a_iload_n (pc := 21) hG 2 rfl dX3_fillValues_21 rfl ?_
    refine a_iadd (pc := 22) hG dX3_fillValues_22 ?_
    refine a_aload_n (pc := 23) hG 0 rfl dX3_fillValues_23 rfl ?_
    refine a_getR (pc := 24) hG sc_50 cl_X3 ok_X3 2 (by decide) rfl t_390 dX3_fillValues_24 ?_
    refine a_iload_n (pc := 27) hG 1 rfl dX3_fillValues_27 rfl ?_
    refine a_iload_n (pc := 28) hG 2 rfl dX3_fillValues_28 rfl ?_
    refine a_cvI (pc := 29) hG (As := [.int x1, .int x2]) (st := [.int ((x1 * (nI 6)) + x2), .ref (ad 51)]) sc_31 cl_X9 mk_X9_valueFor t_1020 (by omega) (fun z hz => c_Ways_valueFor F x1 x2 _  z hz) rfl (Nat.le_of_ble_eq_true rfl) hd dX3_fillValues_29 (fun r5 h4 hd => ?_)
    refine a_iast (pc := 32) hG sc_51 hd dX3_fillValues_32 (fun h6 hd => ?_)
    refine a_iincN (pc := 33) hG (c0 := (nI 1)) 2 rfl hd dX3_fillValues_33 rfl (by decide) (lf := fun x => [(2, .int x), (0, .ref (ad 50)), (1, .int x1)]) (fun _ => rfl) (fun v7 hd => ?_)
    refine a_goto (pc := 36) hG (tgt := 2) dX3_fillValues_36 (by decide) ?_
    exact AW.sub [1, 2, 0] rfl (ih hd)
set_option maxHeartbeats 4000000 in
theorem c_Mat_fillValues {ad wad : Nat → Nat} (F : Nat) (a0 : Int32) (h : HS)  (q : Unit × HS) (hd : f_Mat_fillValues F a0 h = some q) : Ctr SHc ad wad yX3_fillValues cX3_fillValues 3 none 6 [.ref (ad 50), .int a0] h (none, q.2) := by
  refine enter (own := RX3) (lv := [(0, .ref (ad 50)), (1, .int a0)]) (by decide +kernel) rfl (Nat.le_of_ble_eq_true rfl) rfl (fun Γ hG => ?_)
  unfold f_Mat_fillValues at hd
  refine a_iconst (pc := 0) hG dX3_fillValues_0 (v := (nI 0)) rfl ?_
  refine a_istore_nN (pc := 1) hG hd dX3_fillValues_1 rfl (by decide) (lf := fun x => [(2, .int x), (0, .ref (ad 50)), (1, .int a0)]) (fun _ => rfl) (fun v1 hd => ?_)
  refine AW.sub [1, 2, 0] rfl ?_
  exact w_l_Mat_fillValues_0 F (by omega) hG hd
theorem dX3_keepIfMore_0 : decode cX3_keepIfMore 0 = .ok (.iload_n 1, 1) := by decide +kernel
theorem dX3_keepIfMore_1 : decode cX3_keepIfMore 1 = .ok (.aload_n 0, 1) := by decide +kernel
theorem dX3_keepIfMore_2 : decode cX3_keepIfMore 2 = .ok (.getfield 43, 3) := by decide +kernel
theorem dX3_keepIfMore_5 : decode cX3_keepIfMore 5 = .ok (.if_icmp .le 22, 3) := by decide +kernel
theorem dX3_keepIfMore_8 : decode cX3_keepIfMore 8 = .ok (.aload_n 0, 1) := by decide +kernel
theorem dX3_keepIfMore_9 : decode cX3_keepIfMore 9 = .ok (.iload_n 1, 1) := by decide +kernel
theorem dX3_keepIfMore_10 : decode cX3_keepIfMore 10 = .ok (.putfield 43, 3) := by decide +kernel
theorem dX3_keepIfMore_13 : decode cX3_keepIfMore 13 = .ok (.aload_n 0, 1) := by decide +kernel
theorem dX3_keepIfMore_14 : decode cX3_keepIfMore 14 = .ok (.getfield 15, 3) := by decide +kernel
theorem dX3_keepIfMore_17 : decode cX3_keepIfMore 17 = .ok (.iconst 0, 1) := by decide +kernel
theorem dX3_keepIfMore_18 : decode cX3_keepIfMore 18 = .ok (.aload_n 0, 1) := by decide +kernel
theorem dX3_keepIfMore_19 : decode cX3_keepIfMore 19 = .ok (.getfield 18, 3) := by decide +kernel
theorem dX3_keepIfMore_22 : decode cX3_keepIfMore 22 = .ok (.iconst 0, 1) := by decide +kernel
theorem dX3_keepIfMore_23 : decode cX3_keepIfMore 23 = .ok (.iconst 5, 1) := by decide +kernel
theorem dX3_keepIfMore_24 : decode cX3_keepIfMore 24 = .ok (.invokestatic 73, 3) := by decide +kernel
theorem dX3_keepIfMore_27 : decode cX3_keepIfMore 27 = .ok (.return_, 1) := by decide +kernel
set_option maxHeartbeats 4000000 in
theorem c_Mat_keepIfMore {ad wad : Nat → Nat} (a0 : Int32) (h : HS)  (q : Unit × HS) (hd : f_Mat_keepIfMore a0 h = some q) : Ctr SHc ad wad yX3_keepIfMore cX3_keepIfMore 2 none 2 [.ref (ad 50), .int a0] h (none, q.2) := by
  refine enter (own := RX3) (lv := [(0, .ref (ad 50)), (1, .int a0)]) (by decide +kernel) rfl (Nat.le_of_ble_eq_true rfl) rfl (fun Γ hG => ?_)
  unfold f_Mat_keepIfMore at hd
  refine a_iload_n (pc := 0) hG 1 rfl dX3_keepIfMore_0 rfl ?_
  refine a_aload_n (pc := 1) hG 0 rfl dX3_keepIfMore_1 rfl ?_
  refine a_getI (pc := 2) hG sc_50 cl_X3 ok_X3 6 (by decide) rfl t_394 dX3_keepIfMore_2 ?_
  refine a_ic_le (pc := 5) hG (tgt := 27) hd dX3_keepIfMore_5 (by decide) (fun hd => ?_) (fun hd => ?_)
  · exact a_vret (pc := 27) hG hd dX3_keepIfMore_27
  refine a_aload_n (pc := 8) hG 0 rfl dX3_keepIfMore_8 rfl ?_
  refine a_iload_n (pc := 9) hG 1 rfl dX3_keepIfMore_9 rfl ?_
  refine a_putI (pc := 10) hG sc_50 cl_X3 ok_X3 6 (by decide) rfl t_394 rfl (ty := .int) rfl rfl rfl hd dX3_keepIfMore_10 (fun h1 hd => ?_)
  refine a_aload_n (pc := 13) hG 0 rfl dX3_keepIfMore_13 rfl ?_
  refine a_getR (pc := 14) hG sc_50 cl_X3 ok_X3 4 (by decide) rfl t_392 dX3_keepIfMore_14 ?_
  refine a_iconst (pc := 17) hG dX3_keepIfMore_17 (v := (nI 0)) rfl ?_
  refine a_aload_n (pc := 18) hG 0 rfl dX3_keepIfMore_18 rfl ?_
  refine a_getR (pc := 19) hG sc_50 cl_X3 ok_X3 5 (by decide) rfl t_393 dX3_keepIfMore_19 ?_
  refine a_iconst (pc := 22) hG dX3_keepIfMore_22 (v := (nI 0)) rfl ?_
  refine a_iconst (pc := 23) hG dX3_keepIfMore_23 (v := (nI 5)) rfl ?_
  refine a_cpI (pc := 24) hG 5 sc_52 sc_53 rfl (by decide) (by decide) (by decide) t_1039 t_764 t_763 t_136 (by omega) (Nat.le_of_ble_eq_true rfl) hd dX3_keepIfMore_24 (fun h2 hd => ?_)
  exact a_vret (pc := 27) hG hd dX3_keepIfMore_27
theorem dX3_pickFrom_0 : decode cX3_pickFrom 0 = .ok (.iload_n 1, 1) := by decide +kernel
theorem dX3_pickFrom_1 : decode cX3_pickFrom 1 = .ok (.aload_n 0, 1) := by decide +kernel
theorem dX3_pickFrom_2 : decode cX3_pickFrom 2 = .ok (.getfield 21, 3) := by decide +kernel
theorem dX3_pickFrom_5 : decode cX3_pickFrom 5 = .ok (.invokevirtual 33, 3) := by decide +kernel
theorem dX3_pickFrom_8 : decode cX3_pickFrom 8 = .ok (.if_icmp .ge 8, 3) := by decide +kernel
theorem dX3_pickFrom_11 : decode cX3_pickFrom 11 = .ok (.iload_n 1, 1) := by decide +kernel
theorem dX3_pickFrom_12 : decode cX3_pickFrom 12 = .ok (.iconst 5, 1) := by decide +kernel
theorem dX3_pickFrom_13 : decode cX3_pickFrom 13 = .ok (.if_icmp .lt 9, 3) := by decide +kernel
theorem dX3_pickFrom_16 : decode cX3_pickFrom 16 = .ok (.aload_n 0, 1) := by decide +kernel
theorem dX3_pickFrom_17 : decode cX3_pickFrom 17 = .ok (.iload_n 3, 1) := by decide +kernel
theorem dX3_pickFrom_18 : decode cX3_pickFrom 18 = .ok (.invokevirtual 64, 3) := by decide +kernel
theorem dX3_pickFrom_21 : decode cX3_pickFrom 21 = .ok (.return_, 1) := by decide +kernel
theorem dX3_pickFrom_22 : decode cX3_pickFrom 22 = .ok (.aload_n 0, 1) := by decide +kernel
theorem dX3_pickFrom_23 : decode cX3_pickFrom 23 = .ok (.getfield 15, 3) := by decide +kernel
theorem dX3_pickFrom_26 : decode cX3_pickFrom 26 = .ok (.iload_n 1, 1) := by decide +kernel
theorem dX3_pickFrom_27 : decode cX3_pickFrom 27 = .ok (.iconst (-1), 1) := by decide +kernel
theorem dX3_pickFrom_28 : decode cX3_pickFrom 28 = .ok (.iastore, 1) := by decide +kernel
theorem dX3_pickFrom_29 : decode cX3_pickFrom 29 = .ok (.aload_n 0, 1) := by decide +kernel
theorem dX3_pickFrom_30 : decode cX3_pickFrom 30 = .ok (.iload_n 1, 1) := by decide +kernel
theorem dX3_pickFrom_31 : decode cX3_pickFrom 31 = .ok (.iconst 1, 1) := by decide +kernel
theorem dX3_pickFrom_32 : decode cX3_pickFrom 32 = .ok (.iadd, 1) := by decide +kernel
theorem dX3_pickFrom_33 : decode cX3_pickFrom 33 = .ok (.iload_n 2, 1) := by decide +kernel
theorem dX3_pickFrom_34 : decode cX3_pickFrom 34 = .ok (.iload_n 3, 1) := by decide +kernel
theorem dX3_pickFrom_35 : decode cX3_pickFrom 35 = .ok (.invokevirtual 47, 3) := by decide +kernel
theorem dX3_pickFrom_38 : decode cX3_pickFrom 38 = .ok (.aload_n 0, 1) := by decide +kernel
theorem dX3_pickFrom_39 : decode cX3_pickFrom 39 = .ok (.getfield 25, 3) := by decide +kernel
theorem dX3_pickFrom_42 : decode cX3_pickFrom 42 = .ok (.iload_n 1, 1) := by decide +kernel
theorem dX3_pickFrom_43 : decode cX3_pickFrom 43 = .ok (.invokevirtual 67, 3) := by decide +kernel
theorem dX3_pickFrom_46 : decode cX3_pickFrom 46 = .ok (.ifCond .ne 4, 3) := by decide +kernel
theorem dX3_pickFrom_49 : decode cX3_pickFrom 49 = .ok (.return_, 1) := by decide +kernel
theorem dX3_pickFrom_50 : decode cX3_pickFrom 50 = .ok (.iconst 0, 1) := by decide +kernel
theorem dX3_pickFrom_51 : decode cX3_pickFrom 51 = .ok (.istore 4, 2) := by decide +kernel
theorem dX3_pickFrom_53 : decode cX3_pickFrom 53 = .ok (.iload 4, 2) := by decide +kernel
theorem dX3_pickFrom_55 : decode cX3_pickFrom 55 = .ok (.aload_n 0, 1) := by decide +kernel
theorem dX3_pickFrom_56 : decode cX3_pickFrom 56 = .ok (.getfield 21, 3) := by decide +kernel
theorem dX3_pickFrom_59 : decode cX3_pickFrom 59 = .ok (.invokevirtual 51, 3) := by decide +kernel
theorem dX3_pickFrom_62 : decode cX3_pickFrom 62 = .ok (.if_icmp .ge 62, 3) := by decide +kernel
theorem dX3_pickFrom_65 : decode cX3_pickFrom 65 = .ok (.aload_n 0, 1) := by decide +kernel
theorem dX3_pickFrom_66 : decode cX3_pickFrom 66 = .ok (.getfield 9, 3) := by decide +kernel
theorem dX3_pickFrom_69 : decode cX3_pickFrom 69 = .ok (.iload_n 1, 1) := by decide +kernel
theorem dX3_pickFrom_70 : decode cX3_pickFrom 70 = .ok (.bipush 6, 2) := by decide +kernel
theorem dX3_pickFrom_72 : decode cX3_pickFrom 72 = .ok (.imul, 1) := by decide +kernel
theorem dX3_pickFrom_73 : decode cX3_pickFrom 73 = .ok (.iload 4, 2) := by decide +kernel
theorem dX3_pickFrom_75 : decode cX3_pickFrom 75 = .ok (.iadd, 1) := by decide +kernel
theorem dX3_pickFrom_76 : decode cX3_pickFrom 76 = .ok (.iaload, 1) := by decide +kernel
theorem dX3_pickFrom_77 : decode cX3_pickFrom 77 = .ok (.istore 5, 2) := by decide +kernel
theorem dX3_pickFrom_79 : decode cX3_pickFrom 79 = .ok (.iload 5, 2) := by decide +kernel
theorem dX3_pickFrom_81 : decode cX3_pickFrom 81 = .ok (.ifCond .le 37, 3) := by decide +kernel
theorem dX3_pickFrom_84 : decode cX3_pickFrom 84 = .ok (.iload_n 2, 1) := by decide +kernel
theorem dX3_pickFrom_85 : decode cX3_pickFrom 85 = .ok (.iload 4, 2) := by decide +kernel
theorem dX3_pickFrom_87 : decode cX3_pickFrom 87 = .ok (.ishr, 1) := by decide +kernel
theorem dX3_pickFrom_88 : decode cX3_pickFrom 88 = .ok (.iconst 1, 1) := by decide +kernel
theorem dX3_pickFrom_89 : decode cX3_pickFrom 89 = .ok (.iand, 1) := by decide +kernel
theorem dX3_pickFrom_90 : decode cX3_pickFrom 90 = .ok (.ifCond .ne 28, 3) := by decide +kernel
theorem dX3_pickFrom_93 : decode cX3_pickFrom 93 = .ok (.aload_n 0, 1) := by decide +kernel
theorem dX3_pickFrom_94 : decode cX3_pickFrom 94 = .ok (.getfield 15, 3) := by decide +kernel
theorem dX3_pickFrom_97 : decode cX3_pickFrom 97 = .ok (.iload_n 1, 1) := by decide +kernel
theorem dX3_pickFrom_98 : decode cX3_pickFrom 98 = .ok (.iload 4, 2) := by decide +kernel
theorem dX3_pickFrom_100 : decode cX3_pickFrom 100 = .ok (.iastore, 1) := by decide +kernel
theorem dX3_pickFrom_101 : decode cX3_pickFrom 101 = .ok (.aload_n 0, 1) := by decide +kernel
theorem dX3_pickFrom_102 : decode cX3_pickFrom 102 = .ok (.iload_n 1, 1) := by decide +kernel
theorem dX3_pickFrom_103 : decode cX3_pickFrom 103 = .ok (.iconst 1, 1) := by decide +kernel
theorem dX3_pickFrom_104 : decode cX3_pickFrom 104 = .ok (.iadd, 1) := by decide +kernel
theorem dX3_pickFrom_105 : decode cX3_pickFrom 105 = .ok (.iload_n 2, 1) := by decide +kernel
theorem dX3_pickFrom_106 : decode cX3_pickFrom 106 = .ok (.iconst 1, 1) := by decide +kernel
theorem dX3_pickFrom_107 : decode cX3_pickFrom 107 = .ok (.iload 4, 2) := by decide +kernel
theorem dX3_pickFrom_109 : decode cX3_pickFrom 109 = .ok (.ishl, 1) := by decide +kernel
theorem dX3_pickFrom_110 : decode cX3_pickFrom 110 = .ok (.ior, 1) := by decide +kernel
theorem dX3_pickFrom_111 : decode cX3_pickFrom 111 = .ok (.iload_n 3, 1) := by decide +kernel
theorem dX3_pickFrom_112 : decode cX3_pickFrom 112 = .ok (.iload 5, 2) := by decide +kernel
theorem dX3_pickFrom_114 : decode cX3_pickFrom 114 = .ok (.iadd, 1) := by decide +kernel
theorem dX3_pickFrom_115 : decode cX3_pickFrom 115 = .ok (.invokevirtual 47, 3) := by decide +kernel
theorem dX3_pickFrom_118 : decode cX3_pickFrom 118 = .ok (.iinc 4 1, 3) := by decide +kernel
theorem dX3_pickFrom_121 : decode cX3_pickFrom 121 = .ok (.goto (-68), 3) := by decide +kernel
theorem dX3_pickFrom_124 : decode cX3_pickFrom 124 = .ok (.aload_n 0, 1) := by decide +kernel
theorem dX3_pickFrom_125 : decode cX3_pickFrom 125 = .ok (.getfield 15, 3) := by decide +kernel
theorem dX3_pickFrom_128 : decode cX3_pickFrom 128 = .ok (.iload_n 1, 1) := by decide +kernel
theorem dX3_pickFrom_129 : decode cX3_pickFrom 129 = .ok (.iconst (-1), 1) := by decide +kernel
theorem dX3_pickFrom_130 : decode cX3_pickFrom 130 = .ok (.iastore, 1) := by decide +kernel
theorem dX3_pickFrom_131 : decode cX3_pickFrom 131 = .ok (.return_, 1) := by decide +kernel
set_option maxHeartbeats 4000000 in
theorem w_l_Mat_pickFrom_0 {ad wad : Nat → Nat} {Γ : Ctx} (F : Nat) {nn : Nat} (hn : 3 ≤ nn) (hG : Cx SHc ad wad cX3_pickFrom 6 RX3 none (nn + 1) Γ) {q : Unit × HS} {rc_X3_pickFrom : Int32 → Int32 → Int32 → HS → Option (Unit × HS)} {x1 : Int32} {x2 : Int32} {x3 : Int32} {K0 : HS → Option (Unit × HS)} {g : Nat} {x4 : Int32} {h : HS} (hd : l_Mat_pickFrom_0 F rc_X3_pickFrom x1 x2 x3 K0 g x4 h = some q) (hrc_X3_pickFrom : ∀ (b0 : Int32) (b1 : Int32) (b2 : Int32) (h : HS) (z : Unit × HS), rc_X3_pickFrom b0 b1 b2 h = some z → Ctr SHc ad wad yX3_pickFrom cX3_pickFrom 6 none nn [.ref (ad 50), .int b0, .int b1, .int b2] h (none, z.2)) (hK0 : ∀ (z : HS), K0 z = some q → AW SHc ad 6 (none, q.2) Γ 124 [(0, .ref (ad 50)), (1, .int x1)] [] z) : AW SHc ad 6 (none, q.2) Γ 53 [(0, .ref (ad 50)), (1, .int x1), (2, .int x2), (3, .int x3), (4, .int x4)] [] h := by
  induction g generalizing x4 h with
  | zero => unfold l_Mat_pickFrom_0 at hd; cases hd
  | succ g ih =>
    unfold l_Mat_pickFrom_0 at hd
    refine a_iload (pc := 53) hG 4 rfl dX3_pickFrom_53 ?_
    refine a_aload_n (pc := 55) hG 0 rfl dX3_pickFrom_55 rfl ?_
    refine a_getR (pc := 56) hG sc_50 cl_X3 ok_X3 0 (by decide) rfl t_388 dX3_pickFrom_56 ?_
    refine a_cvI (pc := 59) hG (As := []) (st := [.int x4]) sc_3 cl_X5 mk_X5_causes t_1019 (by omega) (fun z hz => c_Plan_causes_3  _  z hz) rfl (Nat.le_of_ble_eq_true rfl) hd dX3_pickFrom_59 (fun r12 h11 hd => ?_)
    refine a_ic_ge (pc := 62) hG (tgt := 124) hd dX3_pickFrom_62 (by decide) (fun hd => ?_) (fun hd => ?_)
    · exact AW.sub [0, 1] rfl (hK0  _ hd)
    refine a_aload_n (pc := 65) hG 0 rfl dX3_pickFrom_65 rfl ?_
    refine a_getR (pc := 66) hG sc_50 cl_X3 ok_X3 3 (by decide) rfl t_391 dX3_pickFrom_66 ?_
    refine a_iload_n (pc := 69) hG 1 rfl dX3_pickFrom_69 rfl ?_
    refine a_bipush (pc := 70) hG dX3_pickFrom_70 (v := (nI 6)) rfl ?_
    refine a_imul (pc := 72) hG dX3_pickFrom_72 ?_
    refine a_iload (pc := 73) hG 4 rfl dX3_pickFrom_73 ?_
    refine a_iadd (pc := 75) hG dX3_pickFrom_75 ?_
    refine a_iald (pc := 76) hG sc_51 hd dX3_pickFrom_76 (fun hd => ?_)
    refine a_istoreN (pc := 77) hG hd dX3_pickFrom_77 (by decide) (lf := fun x => [(5, .int x), (0, .ref (ad 50)), (1, .int x1), (2, .int x2), (3, .int x3), (4, .int x4)]) (fun _ => rfl) (fun v13 hd => ?_)
    refine a_iload (pc := 79) hG 0 rfl dX3_pickFrom_79 ?_
    refine a_join hd (Q := fun J : HS → Option (Unit × HS) => ∀  (h15 : HS), J  h15 = some q → AW SHc ad 6 (none, q.2) Γ 118 [(0, .ref (ad 50)), (1, .int x1), (2, .int x2), (3, .int x3), (4, .int x4)] [] h15) (fun  h15 hd => ?_) (fun J14 hJ14 hd => ?_)
    · refine a_iincN (pc := 118) hG (c0 := (nI 1)) 4 rfl hd dX3_pickFrom_118 rfl (by decide) (lf := fun x => [(4, .int x), (0, .ref (ad 50)), (1, .int x1), (2, .int x2), (3, .int x3)]) (fun _ => rfl) (fun v16 hd => ?_)
      refine a_goto (pc := 121) hG (tgt := 53) dX3_pickFrom_121 (by decide) ?_
      exact AW.sub [1, 2, 3, 4, 0] rfl (ih hd)
    refine a_if_le (pc := 81) hG (tgt := 118) hd dX3_pickFrom_81 (by decide) (fun hd => ?_) (fun hd => ?_)
    · exact AW.sub [1, 2, 3, 4, 5] rfl (hJ14  _ hd)
    refine a_iload_n (pc := 84) hG 3 rfl dX3_pickFrom_84 rfl ?_
    refine a_iload (pc := 85) hG 5 rfl dX3_pickFrom_85 ?_
    refine a_ishr (pc := 87) hG dX3_pickFrom_87 ?_
    refine a_iconst (pc := 88) hG dX3_pickFrom_88 (v := (nI 1)) rfl ?_
    refine a_iand (pc := 89) hG dX3_pickFrom_89 ?_
    refine a_if_ne (pc := 90) hG (tgt := 118) hd dX3_pickFrom_90 (by decide) (fun hd => ?_) (fun hd => ?_)
    · exact AW.sub [1, 2, 3, 4, 5] rfl (hJ14  _ hd)
    refine a_aload_n (pc := 93) hG 1 rfl dX3_pickFrom_93 rfl ?_
    refine a_getR (pc := 94) hG sc_50 cl_X3 ok_X3 4 (by decide) rfl t_392 dX3_pickFrom_94 ?_
    refine a_iload_n (pc := 97) hG 2 rfl dX3_pickFrom_97 rfl ?_
    refine a_iload (pc := 98) hG 5 rfl dX3_pickFrom_98 ?_
    refine a_iast (pc := 100) hG sc_52 hd dX3_pickFrom_100 (fun h17 hd => ?_)
    refine a_aload_n (pc := 101) hG 1 rfl dX3_pickFrom_101 rfl ?_
    refine a_iload_n (pc := 102) hG 2 rfl dX3_pickFrom_102 rfl ?_
    refine a_iconst (pc := 103) hG dX3_pickFrom_103 (v := (nI 1)) rfl ?_
    refine a_iadd (pc := 104) hG dX3_pickFrom_104 ?_
    refine a_iload_n (pc := 105) hG 3 rfl dX3_pickFrom_105 rfl ?_
    refine a_iconst (pc := 106) hG dX3_pickFrom_106 (v := (nI 1)) rfl ?_
    refine a_iload (pc := 107) hG 5 rfl dX3_pickFrom_107 ?_
    refine a_ishl (pc := 109) hG dX3_pickFrom_109 ?_
    refine a_ior (pc := 110) hG dX3_pickFrom_110 ?_
    refine a_iload_n (pc := 111) hG 4 rfl dX3_pickFrom_111 rfl ?_
    refine a_iload (pc := 112) hG 0 rfl dX3_pickFrom_112 ?_
    refine a_iadd (pc := 114) hG dX3_pickFrom_114 ?_
    refine a_cvN (pc := 115) hG (As := [.int (x1 + (nI 1)), .int (x2 ||| ((nI 1) <<< (x4 &&& 31))), .int (x3 + v13)]) (st := []) sc_50 cl_X3 mk_X3_pickFrom t_1031 (by omega) (fun z hz => hrc_X3_pickFrom _ _ _ _ z hz) rfl (Nat.le_of_ble_eq_true rfl) hd dX3_pickFrom_115 (fun _ h18 hd => ?_)
    exact AW.sub [1, 2, 3, 4, 5] rfl (hJ14  _ hd)
set_option maxHeartbeats 4000000 in
theorem c_Mat_pickFrom_r {ad wad : Nat → Nat} (F : Nat) : ∀ g : Nat, (∀ (a0 : Int32) (a1 : Int32) (a2 : Int32) (h : HS) (q : Unit × HS) (_ : f_Mat_pickFrom F g a0 a1 a2 h = some q), Ctr SHc ad wad yX3_pickFrom cX3_pickFrom 6 none (3 + g) [.ref (ad 50), .int a0, .int a1, .int a2] h (none, q.2)) := by
  intro g
  induction g with
  | zero =>
    exact (fun a0 a1 a2 h q hd => by unfold f_Mat_pickFrom at hd; cases hd)
  | succ g ihc =>
    intro a0 a1 a2 h q hd
    show Ctr SHc ad wad yX3_pickFrom cX3_pickFrom 6 none (3 + g + 1) [.ref (ad 50), .int a0, .int a1, .int a2] h (none, q.2)
    refine enter (own := RX3) (lv := [(0, .ref (ad 50)), (1, .int a0), (2, .int a1), (3, .int a2)]) (by decide +kernel) rfl (Nat.le_of_ble_eq_true rfl) rfl (fun Γ hG => ?_)
    unfold f_Mat_pickFrom at hd
    refine a_iload_n (pc := 0) hG 1 rfl dX3_pickFrom_0 rfl ?_
    refine a_aload_n (pc := 1) hG 0 rfl dX3_pickFrom_1 rfl ?_
    refine a_getR (pc := 2) hG sc_50 cl_X3 ok_X3 0 (by decide) rfl t_388 dX3_pickFrom_2 ?_
    refine a_cvI (pc := 5) hG (As := []) (st := [.int a0]) sc_3 cl_X5 mk_X5_clerks t_1014 (by omega) (fun z hz => c_Plan_clerks_3  _  z hz) rfl (Nat.le_of_ble_eq_true rfl) hd dX3_pickFrom_5 (fun r2 h1 hd => ?_)
    refine a_join hd (Q := fun J : HS → Option (Unit × HS) => ∀  (h4 : HS), J  h4 = some q → AW SHc ad 6 (none, q.2) Γ 16 [(0, .ref (ad 50)), (3, .int a2)] [] h4) (fun  h4 hd => ?_) (fun J3 hJ3 hd => ?_)
    · refine a_aload_n (pc := 16) hG 0 rfl dX3_pickFrom_16 rfl ?_
      refine a_iload_n (pc := 17) hG 1 rfl dX3_pickFrom_17 rfl ?_
      refine a_cvN (pc := 18) hG (As := [.int a2]) (st := []) sc_50 cl_X3 mk_X3_keepIfMore t_1035 (by omega) (fun z hz => c_Mat_keepIfMore a2 _  z hz) rfl (Nat.le_of_ble_eq_true rfl) hd dX3_pickFrom_18 (fun _ h5 hd => ?_)
      exact a_vret (pc := 21) hG hd dX3_pickFrom_21
    refine a_ic_ge (pc := 8) hG (tgt := 16) hd dX3_pickFrom_8 (by decide) (fun hd => ?_) (fun hd => ?_)
    · exact AW.sub [0, 3] rfl (hJ3  _ hd)
    refine a_iload_n (pc := 11) hG 1 rfl dX3_pickFrom_11 rfl ?_
    refine a_iconst (pc := 12) hG dX3_pickFrom_12 (v := (nI 5)) rfl ?_
    refine a_ic_lt (pc := 13) hG (tgt := 22) hd dX3_pickFrom_13 (by decide) (fun hd => ?_) (fun hd => ?_)
    · refine a_aload_n (pc := 22) hG 0 rfl dX3_pickFrom_22 rfl ?_
      refine a_getR (pc := 23) hG sc_50 cl_X3 ok_X3 4 (by decide) rfl t_392 dX3_pickFrom_23 ?_
      refine a_iload_n (pc := 26) hG 1 rfl dX3_pickFrom_26 rfl ?_
      refine a_iconst (pc := 27) hG dX3_pickFrom_27 (v := (-1 : Int32)) rfl ?_
      refine a_iast (pc := 28) hG sc_52 hd dX3_pickFrom_28 (fun h6 hd => ?_)
      refine a_aload_n (pc := 29) hG 0 rfl dX3_pickFrom_29 rfl ?_
      refine a_iload_n (pc := 30) hG 1 rfl dX3_pickFrom_30 rfl ?_
      refine a_iconst (pc := 31) hG dX3_pickFrom_31 (v := (nI 1)) rfl ?_
      refine a_iadd (pc := 32) hG dX3_pickFrom_32 ?_
      refine a_iload_n (pc := 33) hG 2 rfl dX3_pickFrom_33 rfl ?_
      refine a_iload_n (pc := 34) hG 3 rfl dX3_pickFrom_34 rfl ?_
      refine a_cvN (pc := 35) hG (As := [.int (a0 + (nI 1)), .int a1, .int a2]) (st := []) sc_50 cl_X3 mk_X3_pickFrom t_1031 (by omega) (fun z hz => ihc _ _ _ _ z hz) rfl (Nat.le_of_ble_eq_true rfl) hd dX3_pickFrom_35 (fun _ h7 hd => ?_)
      refine a_aload_n (pc := 38) hG 0 rfl dX3_pickFrom_38 rfl ?_
      refine a_getR (pc := 39) hG sc_50 cl_X3 ok_X3 1 (by decide) rfl t_389 dX3_pickFrom_39 ?_
      refine a_iload_n (pc := 42) hG 1 rfl dX3_pickFrom_42 rfl ?_
      refine a_cvI (pc := 43) hG (As := [.int a0]) (st := []) sc_20 cl_X0 mk_X0_isFree t_1040 (by omega) (fun z hz => c_Desk_isFree a0 _  z hz) rfl (Nat.le_of_ble_eq_true rfl) hd dX3_pickFrom_43 (fun r9 h8 hd => ?_)
      refine a_if_ne (pc := 46) hG (tgt := 50) hd dX3_pickFrom_46 (by decide) (fun hd => ?_) (fun hd => ?_)
      · refine a_iconst (pc := 50) hG dX3_pickFrom_50 (v := (nI 0)) rfl ?_
        refine a_istoreN (pc := 51) hG hd dX3_pickFrom_51 (by decide) (lf := fun x => [(4, .int x), (0, .ref (ad 50)), (1, .int a0), (2, .int a1), (3, .int a2)]) (fun _ => rfl) (fun v10 hd => ?_)
        refine AW.sub [1, 2, 3, 4, 0] rfl ?_
        refine w_l_Mat_pickFrom_0 F (by omega) hG hd ihc (fun h19 hd => ?_)
        refine a_aload_n (pc := 124) hG 0 rfl dX3_pickFrom_124 rfl ?_
        refine a_getR (pc := 125) hG sc_50 cl_X3 ok_X3 4 (by decide) rfl t_392 dX3_pickFrom_125 ?_
        refine a_iload_n (pc := 128) hG 1 rfl dX3_pickFrom_128 rfl ?_
        refine a_iconst (pc := 129) hG dX3_pickFrom_129 (v := (-1 : Int32)) rfl ?_
        refine a_iast (pc := 130) hG sc_52 hd dX3_pickFrom_130 (fun h20 hd => ?_)
        exact a_vret (pc := 131) hG hd dX3_pickFrom_131
      exact a_vret (pc := 49) hG hd dX3_pickFrom_49
    exact AW.sub [0, 3] rfl (hJ3  _ hd)

theorem c_Mat_pickFrom {ad wad : Nat → Nat} (F g : Nat) (a0 : Int32) (a1 : Int32) (a2 : Int32) (h : HS) (q : Unit × HS) (hd : f_Mat_pickFrom F g a0 a1 a2 h = some q) : Ctr SHc ad wad yX3_pickFrom cX3_pickFrom 6 none (3 + g) [.ref (ad 50), .int a0, .int a1, .int a2] h (none, q.2) := (c_Mat_pickFrom_r F g) a0 a1 a2 h q hd

theorem dX3_matchAll_0 : decode cX3_matchAll 0 = .ok (.iconst 0, 1) := by decide +kernel
theorem dX3_matchAll_1 : decode cX3_matchAll 1 = .ok (.istore_n 1, 1) := by decide +kernel
theorem dX3_matchAll_2 : decode cX3_matchAll 2 = .ok (.iload_n 1, 1) := by decide +kernel
theorem dX3_matchAll_3 : decode cX3_matchAll 3 = .ok (.iconst 5, 1) := by decide +kernel
theorem dX3_matchAll_4 : decode cX3_matchAll 4 = .ok (.if_icmp .ge 39, 3) := by decide +kernel
theorem dX3_matchAll_7 : decode cX3_matchAll 7 = .ok (.aload_n 0, 1) := by decide +kernel
theorem dX3_matchAll_8 : decode cX3_matchAll 8 = .ok (.getfield 15, 3) := by decide +kernel
theorem dX3_matchAll_11 : decode cX3_matchAll 11 = .ok (.iload_n 1, 1) := by decide +kernel
theorem dX3_matchAll_12 : decode cX3_matchAll 12 = .ok (.iconst (-1), 1) := by decide +kernel
theorem dX3_matchAll_13 : decode cX3_matchAll 13 = .ok (.iastore, 1) := by decide +kernel
theorem dX3_matchAll_14 : decode cX3_matchAll 14 = .ok (.aload_n 0, 1) := by decide +kernel
theorem dX3_matchAll_15 : decode cX3_matchAll 15 = .ok (.getfield 18, 3) := by decide +kernel
theorem dX3_matchAll_18 : decode cX3_matchAll 18 = .ok (.iload_n 1, 1) := by decide +kernel
theorem dX3_matchAll_19 : decode cX3_matchAll 19 = .ok (.iconst (-1), 1) := by decide +kernel
theorem dX3_matchAll_20 : decode cX3_matchAll 20 = .ok (.iastore, 1) := by decide +kernel
theorem dX3_matchAll_21 : decode cX3_matchAll 21 = .ok (.iload_n 1, 1) := by decide +kernel
theorem dX3_matchAll_22 : decode cX3_matchAll 22 = .ok (.aload_n 0, 1) := by decide +kernel
theorem dX3_matchAll_23 : decode cX3_matchAll 23 = .ok (.getfield 21, 3) := by decide +kernel
theorem dX3_matchAll_26 : decode cX3_matchAll 26 = .ok (.invokevirtual 33, 3) := by decide +kernel
theorem dX3_matchAll_29 : decode cX3_matchAll 29 = .ok (.if_icmp .ge 8, 3) := by decide +kernel
theorem dX3_matchAll_32 : decode cX3_matchAll 32 = .ok (.aload_n 0, 1) := by decide +kernel
theorem dX3_matchAll_33 : decode cX3_matchAll 33 = .ok (.iload_n 1, 1) := by decide +kernel
theorem dX3_matchAll_34 : decode cX3_matchAll 34 = .ok (.invokevirtual 39, 3) := by decide +kernel
theorem dX3_matchAll_37 : decode cX3_matchAll 37 = .ok (.iinc 1 1, 3) := by decide +kernel
theorem dX3_matchAll_40 : decode cX3_matchAll 40 = .ok (.goto (-38), 3) := by decide +kernel
theorem dX3_matchAll_43 : decode cX3_matchAll 43 = .ok (.aload_n 0, 1) := by decide +kernel
theorem dX3_matchAll_44 : decode cX3_matchAll 44 = .ok (.iconst 0, 1) := by decide +kernel
theorem dX3_matchAll_45 : decode cX3_matchAll 45 = .ok (.putfield 43, 3) := by decide +kernel
theorem dX3_matchAll_48 : decode cX3_matchAll 48 = .ok (.aload_n 0, 1) := by decide +kernel
theorem dX3_matchAll_49 : decode cX3_matchAll 49 = .ok (.iconst 0, 1) := by decide +kernel
theorem dX3_matchAll_50 : decode cX3_matchAll 50 = .ok (.iconst 0, 1) := by decide +kernel
theorem dX3_matchAll_51 : decode cX3_matchAll 51 = .ok (.iconst 0, 1) := by decide +kernel
theorem dX3_matchAll_52 : decode cX3_matchAll 52 = .ok (.invokevirtual 47, 3) := by decide +kernel
theorem dX3_matchAll_55 : decode cX3_matchAll 55 = .ok (.aload_n 0, 1) := by decide +kernel
theorem dX3_matchAll_56 : decode cX3_matchAll 56 = .ok (.getfield 43, 3) := by decide +kernel
theorem dX3_matchAll_59 : decode cX3_matchAll 59 = .ok (.ireturn, 1) := by decide +kernel
set_option maxHeartbeats 4000000 in
theorem w_l_Mat_matchAll_0 {ad wad : Nat → Nat} {Γ : Ctx} (F : Nat) {n : Nat} (hn : 12 ≤ n) (hG : Cx SHc ad wad cX3_matchAll 2 RX3 (some .int) (n) Γ) {q : Int32 × HS} {K0 : HS → Option (Int32 × HS)} {g : Nat} {x1 : Int32} {h : HS} (hd : l_Mat_matchAll_0 F K0 g x1 h = some q) (hK0 : ∀ (z : HS), K0 z = some q → AW SHc ad 2 (some (.int q.1), q.2) Γ 43 [(0, .ref (ad 50))] [] z) : AW SHc ad 2 (some (.int q.1), q.2) Γ 2 [(0, .ref (ad 50)), (1, .int x1)] [] h := by
  induction g generalizing x1 h with
  | zero => unfold l_Mat_matchAll_0 at hd; cases hd
  | succ g ih =>
    unfold l_Mat_matchAll_0 at hd
    refine a_iload_n (pc := 2) hG 1 rfl dX3_matchAll_2 rfl ?_
    refine a_iconst (pc := 3) hG dX3_matchAll_3 (v := (nI 5)) rfl ?_
    refine a_ic_ge (pc := 4) hG (tgt := 43) hd dX3_matchAll_4 (by decide) (fun hd => ?_) (fun hd => ?_)
    · exact AW.sub [0] rfl (hK0  _ hd)
    refine a_aload_n (pc := 7) hG 0 rfl dX3_matchAll_7 rfl ?_
    refine a_getR (pc := 8) hG sc_50 cl_X3 ok_X3 4 (by decide) rfl t_392 dX3_matchAll_8 ?_
    refine a_iload_n (pc := 11) hG 1 rfl dX3_matchAll_11 rfl ?_
    refine a_iconst (pc := 12) hG dX3_matchAll_12 (v := (-1 : Int32)) rfl ?_
    refine a_iast (pc := 13) hG sc_52 hd dX3_matchAll_13 (fun h2 hd => ?_)
    refine a_aload_n (pc := 14) hG 0 rfl dX3_matchAll_14 rfl ?_
    refine a_getR (pc := 15) hG sc_50 cl_X3 ok_X3 5 (by decide) rfl t_393 dX3_matchAll_15 ?_
    refine a_iload_n (pc := 18) hG 1 rfl dX3_matchAll_18 rfl ?_
    refine a_iconst (pc := 19) hG dX3_matchAll_19 (v := (-1 : Int32)) rfl ?_
    refine a_iast (pc := 20) hG sc_53 hd dX3_matchAll_20 (fun h3 hd => ?_)
    refine a_iload_n (pc := 21) hG 1 rfl dX3_matchAll_21 rfl ?_
    refine a_aload_n (pc := 22) hG 0 rfl dX3_matchAll_22 rfl ?_
    refine a_getR (pc := 23) hG sc_50 cl_X3 ok_X3 0 (by decide) rfl t_388 dX3_matchAll_23 ?_
    refine a_cvI (pc := 26) hG (As := []) (st := [.int x1]) sc_3 cl_X5 mk_X5_clerks t_1014 (by omega) (fun z hz => c_Plan_clerks_3  _  z hz) rfl (Nat.le_of_ble_eq_true rfl) hd dX3_matchAll_26 (fun r5 h4 hd => ?_)
    refine a_join hd (Q := fun J : HS → Option (Int32 × HS) => ∀  (h7 : HS), J  h7 = some q → AW SHc ad 2 (some (.int q.1), q.2) Γ 37 [(0, .ref (ad 50)), (1, .int x1)] [] h7) (fun  h7 hd => ?_) (fun J6 hJ6 hd => ?_)
    · refine a_iincN (pc := 37) hG (c0 := (nI 1)) 1 rfl hd dX3_matchAll_37 rfl (by decide) (lf := fun x => [(1, .int x), (0, .ref (ad 50))]) (fun _ => rfl) (fun v8 hd => ?_)
      refine a_goto (pc := 40) hG (tgt := 2) dX3_matchAll_40 (by decide) ?_
      exact AW.sub [1, 0] rfl (ih hd)
    refine a_ic_ge (pc := 29) hG (tgt := 37) hd dX3_matchAll_29 (by decide) (fun hd => ?_) (fun hd => ?_)
    · exact AW.sub [0, 1] rfl (hJ6  _ hd)
    refine a_aload_n (pc := 32) hG 0 rfl dX3_matchAll_32 rfl ?_
    refine a_iload_n (pc := 33) hG 1 rfl dX3_matchAll_33 rfl ?_
    refine a_cvN (pc := 34) hG (As := [.int x1]) (st := []) sc_50 cl_X3 mk_X3_fillValues t_1015 (by omega) (fun z hz => c_Mat_fillValues F x1 _  z hz) rfl (Nat.le_of_ble_eq_true rfl) hd dX3_matchAll_34 (fun _ h9 hd => ?_)
    exact AW.sub [0, 1] rfl (hJ6  _ hd)
set_option maxHeartbeats 4000000 in
theorem c_Mat_matchAll {ad wad : Nat → Nat} (F : Nat)  (h : HS)  (q : Int32 × HS) (hd : f_Mat_matchAll F  h = some q) : Ctr SHc ad wad yX3_matchAll cX3_matchAll 2 (some .int) 12 [.ref (ad 50)] h (some (.int q.1), q.2) := by
  refine enter (own := RX3) (lv := [(0, .ref (ad 50))]) (by decide +kernel) rfl (Nat.le_of_ble_eq_true rfl) rfl (fun Γ hG => ?_)
  unfold f_Mat_matchAll at hd
  refine a_iconst (pc := 0) hG dX3_matchAll_0 (v := (nI 0)) rfl ?_
  refine a_istore_nN (pc := 1) hG hd dX3_matchAll_1 rfl (by decide) (lf := fun x => [(1, .int x), (0, .ref (ad 50))]) (fun _ => rfl) (fun v1 hd => ?_)
  refine AW.sub [1, 0] rfl ?_
  refine w_l_Mat_matchAll_0 F (by omega) hG hd (fun h10 hd => ?_)
  refine a_aload_n (pc := 43) hG 0 rfl dX3_matchAll_43 rfl ?_
  refine a_iconst (pc := 44) hG dX3_matchAll_44 (v := (nI 0)) rfl ?_
  refine a_putI (pc := 45) hG sc_50 cl_X3 ok_X3 6 (by decide) rfl t_394 rfl (ty := .int) rfl rfl rfl hd dX3_matchAll_45 (fun h11 hd => ?_)
  refine a_aload_n (pc := 48) hG 0 rfl dX3_matchAll_48 rfl ?_
  refine a_iconst (pc := 49) hG dX3_matchAll_49 (v := (nI 0)) rfl ?_
  refine a_iconst (pc := 50) hG dX3_matchAll_50 (v := (nI 0)) rfl ?_
  refine a_iconst (pc := 51) hG dX3_matchAll_51 (v := (nI 0)) rfl ?_
  refine a_cvN (pc := 52) hG (As := [.int (nI 0), .int (nI 0), .int (nI 0)]) (st := []) sc_50 cl_X3 mk_X3_pickFrom t_1031 (by omega) (fun z hz => c_Mat_pickFrom F 8 (nI 0) (nI 0) (nI 0) _  z hz) rfl (Nat.le_of_ble_eq_true rfl) hd dX3_matchAll_52 (fun _ h12 hd => ?_)
  refine a_aload_n (pc := 55) hG 0 rfl dX3_matchAll_55 rfl ?_
  refine a_getI (pc := 56) hG sc_50 cl_X3 ok_X3 6 (by decide) rfl t_394 dX3_matchAll_56 ?_
  exact a_iret (pc := 59) hG hd dX3_matchAll_59
theorem dX11_match_0 : decode cX11_match 0 = .ok (.aload_n 0, 1) := by decide +kernel
theorem dX11_match_1 : decode cX11_match 1 = .ok (.getfield 82, 3) := by decide +kernel
theorem dX11_match_4 : decode cX11_match 4 = .ok (.invokevirtual 244, 3) := by decide +kernel
theorem dX11_match_7 : decode cX11_match 7 = .ok (.ireturn, 1) := by decide +kernel
set_option maxHeartbeats 4000000 in
theorem c_LC_match {ad wad : Nat → Nat} (F : Nat)  (h : HS)  (q : Int32 × HS) (hd : f_LC_match F  h = some q) : Ctr SHc ad wad yX11_match cX11_match 1 (some .int) 13 [.ref (ad 0)] h (some (.int q.1), q.2) := by
  refine enter (own := RX11) (lv := [(0, .ref (ad 0))]) (by decide +kernel) rfl (Nat.le_of_ble_eq_true rfl) rfl (fun Γ hG => ?_)
  unfold f_LC_match at hd
  refine a_aload_n (pc := 0) hG 0 rfl dX11_match_0 rfl ?_
  refine a_getR (pc := 1) hG sc_0 cl_X11 ok_X11 10 (by decide) rfl t_491 dX11_match_1 ?_
  refine a_cvI (pc := 4) hG (As := []) (st := []) sc_50 cl_X3 mk_X3_matchAll t_1010 (by omega) (fun z hz => c_Mat_matchAll F  _  z hz) rfl (Nat.le_of_ble_eq_true rfl) hd dX11_match_4 (fun r2 h1 hd => ?_)
  exact a_iret (pc := 7) hG hd dX11_match_7
theorem dX3_causeOf_0 : decode cX3_causeOf 0 = .ok (.iload_n 1, 1) := by decide +kernel
theorem dX3_causeOf_1 : decode cX3_causeOf 1 = .ok (.ifCond .lt 21, 3) := by decide +kernel
theorem dX3_causeOf_4 : decode cX3_causeOf 4 = .ok (.iload_n 1, 1) := by decide +kernel
theorem dX3_causeOf_5 : decode cX3_causeOf 5 = .ok (.aload_n 0, 1) := by decide +kernel
theorem dX3_causeOf_6 : decode cX3_causeOf 6 = .ok (.getfield 18, 3) := by decide +kernel
theorem dX3_causeOf_9 : decode cX3_causeOf 9 = .ok (.arraylength, 1) := by decide +kernel
theorem dX3_causeOf_10 : decode cX3_causeOf 10 = .ok (.if_icmp .ge 12, 3) := by decide +kernel
theorem dX3_causeOf_13 : decode cX3_causeOf 13 = .ok (.aload_n 0, 1) := by decide +kernel
theorem dX3_causeOf_14 : decode cX3_causeOf 14 = .ok (.getfield 18, 3) := by decide +kernel
theorem dX3_causeOf_17 : decode cX3_causeOf 17 = .ok (.iload_n 1, 1) := by decide +kernel
theorem dX3_causeOf_18 : decode cX3_causeOf 18 = .ok (.iaload, 1) := by decide +kernel
theorem dX3_causeOf_19 : decode cX3_causeOf 19 = .ok (.goto 4, 3) := by decide +kernel
theorem dX3_causeOf_22 : decode cX3_causeOf 22 = .ok (.iconst (-1), 1) := by decide +kernel
theorem dX3_causeOf_23 : decode cX3_causeOf 23 = .ok (.ireturn, 1) := by decide +kernel
set_option maxHeartbeats 4000000 in
theorem c_Mat_causeOf {ad wad : Nat → Nat} (a0 : Int32) (h : HS)  (q : Int32 × HS) (hd : f_Mat_causeOf a0 h = some q) : Ctr SHc ad wad yX3_causeOf cX3_causeOf 2 (some .int) 1 [.ref (ad 50), .int a0] h (some (.int q.1), q.2) := by
  refine enter (own := RX3) (lv := [(0, .ref (ad 50)), (1, .int a0)]) (by decide +kernel) rfl (Nat.le_of_ble_eq_true rfl) rfl (fun Γ hG => ?_)
  unfold f_Mat_causeOf at hd
  refine a_iload_n (pc := 0) hG 1 rfl dX3_causeOf_0 rfl ?_
  refine a_if_lt (pc := 1) hG (tgt := 22) hd dX3_causeOf_1 (by decide) (fun hd => ?_) (fun hd => ?_)
  · refine a_iconst (pc := 22) hG dX3_causeOf_22 (v := (-1 : Int32)) rfl ?_
    exact a_iret (pc := 23) hG hd dX3_causeOf_23
  refine a_iload_n (pc := 4) hG 1 rfl dX3_causeOf_4 rfl ?_
  refine a_aload_n (pc := 5) hG 0 rfl dX3_causeOf_5 rfl ?_
  refine a_getR (pc := 6) hG sc_50 cl_X3 ok_X3 5 (by decide) rfl t_393 dX3_causeOf_6 ?_
  refine a_alenI (pc := 9) hG sc_53 (fun _ => rfl) (v := nI 5) rfl dX3_causeOf_9 ?_
  refine a_ic_ge (pc := 10) hG (tgt := 22) hd dX3_causeOf_10 (by decide) (fun hd => ?_) (fun hd => ?_)
  · refine a_iconst (pc := 22) hG dX3_causeOf_22 (v := (-1 : Int32)) rfl ?_
    exact a_iret (pc := 23) hG hd dX3_causeOf_23
  refine a_aload_n (pc := 13) hG 0 rfl dX3_causeOf_13 rfl ?_
  refine a_getR (pc := 14) hG sc_50 cl_X3 ok_X3 5 (by decide) rfl t_393 dX3_causeOf_14 ?_
  refine a_iload_n (pc := 17) hG 1 rfl dX3_causeOf_17 rfl ?_
  refine a_iald (pc := 18) hG sc_53 hd dX3_causeOf_18 (fun hd => ?_)
  refine a_goto (pc := 19) hG (tgt := 23) dX3_causeOf_19 (by decide) ?_
  exact a_iret (pc := 23) hG hd dX3_causeOf_23
theorem dX11_matched_0 : decode cX11_matched 0 = .ok (.aload_n 0, 1) := by decide +kernel
theorem dX11_matched_1 : decode cX11_matched 1 = .ok (.getfield 82, 3) := by decide +kernel
theorem dX11_matched_4 : decode cX11_matched 4 = .ok (.iload_n 1, 1) := by decide +kernel
theorem dX11_matched_5 : decode cX11_matched 5 = .ok (.invokevirtual 247, 3) := by decide +kernel
theorem dX11_matched_8 : decode cX11_matched 8 = .ok (.ireturn, 1) := by decide +kernel
set_option maxHeartbeats 4000000 in
theorem c_LC_matched {ad wad : Nat → Nat} (a0 : Int32) (h : HS)  (q : Int32 × HS) (hd : f_LC_matched a0 h = some q) : Ctr SHc ad wad yX11_matched cX11_matched 2 (some .int) 2 [.ref (ad 0), .int a0] h (some (.int q.1), q.2) := by
  refine enter (own := RX11) (lv := [(0, .ref (ad 0)), (1, .int a0)]) (by decide +kernel) rfl (Nat.le_of_ble_eq_true rfl) rfl (fun Γ hG => ?_)
  unfold f_LC_matched at hd
  refine a_aload_n (pc := 0) hG 0 rfl dX11_matched_0 rfl ?_
  refine a_getR (pc := 1) hG sc_0 cl_X11 ok_X11 10 (by decide) rfl t_491 dX11_matched_1 ?_
  refine a_iload_n (pc := 4) hG 1 rfl dX11_matched_4 rfl ?_
  refine a_cvI (pc := 5) hG (As := [.int a0]) (st := []) sc_50 cl_X3 mk_X3_causeOf t_1045 (by omega) (fun z hz => c_Mat_causeOf a0 _  z hz) rfl (Nat.le_of_ble_eq_true rfl) hd dX11_matched_5 (fun r2 h1 hd => ?_)
  exact a_iret (pc := 8) hG hd dX11_matched_8
theorem dX3_gainOf_0 : decode cX3_gainOf 0 = .ok (.iload_n 1, 1) := by decide +kernel
theorem dX3_gainOf_1 : decode cX3_gainOf 1 = .ok (.iload_n 2, 1) := by decide +kernel
theorem dX3_gainOf_2 : decode cX3_gainOf 2 = .ok (.if_icmp .ne 14, 3) := by decide +kernel
theorem dX3_gainOf_5 : decode cX3_gainOf 5 = .ok (.aload_n 0, 1) := by decide +kernel
theorem dX3_gainOf_6 : decode cX3_gainOf 6 = .ok (.getfield 9, 3) := by decide +kernel
theorem dX3_gainOf_9 : decode cX3_gainOf 9 = .ok (.iload_n 1, 1) := by decide +kernel
theorem dX3_gainOf_10 : decode cX3_gainOf 10 = .ok (.iaload, 1) := by decide +kernel
theorem dX3_gainOf_11 : decode cX3_gainOf 11 = .ok (.iconst 2, 1) := by decide +kernel
theorem dX3_gainOf_12 : decode cX3_gainOf 12 = .ok (.idiv, 1) := by decide +kernel
theorem dX3_gainOf_13 : decode cX3_gainOf 13 = .ok (.goto 9, 3) := by decide +kernel
theorem dX3_gainOf_16 : decode cX3_gainOf 16 = .ok (.aload_n 0, 1) := by decide +kernel
theorem dX3_gainOf_17 : decode cX3_gainOf 17 = .ok (.getfield 9, 3) := by decide +kernel
theorem dX3_gainOf_20 : decode cX3_gainOf 20 = .ok (.iload_n 1, 1) := by decide +kernel
theorem dX3_gainOf_21 : decode cX3_gainOf 21 = .ok (.iaload, 1) := by decide +kernel
theorem dX3_gainOf_22 : decode cX3_gainOf 22 = .ok (.ireturn, 1) := by decide +kernel
set_option maxHeartbeats 4000000 in
theorem c_Mat_gainOf {ad wad : Nat → Nat} (a0 : Int32) (a1 : Int32) (h : HS)  (q : Int32 × HS) (hd : f_Mat_gainOf a0 a1 h = some q) : Ctr SHc ad wad yX3_gainOf cX3_gainOf 3 (some .int) 1 [.ref (ad 50), .int a0, .int a1] h (some (.int q.1), q.2) := by
  refine enter (own := RX3) (lv := [(0, .ref (ad 50)), (1, .int a0), (2, .int a1)]) (by decide +kernel) rfl (Nat.le_of_ble_eq_true rfl) rfl (fun Γ hG => ?_)
  unfold f_Mat_gainOf at hd
  refine a_iload_n (pc := 0) hG 1 rfl dX3_gainOf_0 rfl ?_
  refine a_iload_n (pc := 1) hG 2 rfl dX3_gainOf_1 rfl ?_
  refine a_ic_ne (pc := 2) hG (tgt := 16) hd dX3_gainOf_2 (by decide) (fun hd => ?_) (fun hd => ?_)
  · refine a_aload_n (pc := 16) hG 0 rfl dX3_gainOf_16 rfl ?_
    refine a_getR (pc := 17) hG sc_50 cl_X3 ok_X3 3 (by decide) rfl t_391 dX3_gainOf_17 ?_
    refine a_iload_n (pc := 20) hG 1 rfl dX3_gainOf_20 rfl ?_
    refine a_iald (pc := 21) hG sc_51 hd dX3_gainOf_21 (fun hd => ?_)
    exact a_iret (pc := 22) hG hd dX3_gainOf_22
  refine a_aload_n (pc := 5) hG 0 rfl dX3_gainOf_5 rfl ?_
  refine a_getR (pc := 6) hG sc_50 cl_X3 ok_X3 3 (by decide) rfl t_391 dX3_gainOf_6 ?_
  refine a_iload_n (pc := 9) hG 1 rfl dX3_gainOf_9 rfl ?_
  refine a_iald (pc := 10) hG sc_51 hd dX3_gainOf_10 (fun hd => ?_)
  refine a_iconst (pc := 11) hG dX3_gainOf_11 (v := (nI 2)) rfl ?_
  refine a_idiv (pc := 12) hG hd dX3_gainOf_12 (fun hd => ?_)
  refine a_goto (pc := 13) hG (tgt := 22) dX3_gainOf_13 (by decide) ?_
  exact a_iret (pc := 22) hG hd dX3_gainOf_22
theorem dX3_isBestAgainst_0 : decode cX3_isBestAgainst 0 = .ok (.iconst 0, 1) := by decide +kernel
theorem dX3_isBestAgainst_1 : decode cX3_isBestAgainst 1 = .ok (.istore_n 3, 1) := by decide +kernel
theorem dX3_isBestAgainst_2 : decode cX3_isBestAgainst 2 = .ok (.iload_n 3, 1) := by decide +kernel
theorem dX3_isBestAgainst_3 : decode cX3_isBestAgainst 3 = .ok (.aload_n 0, 1) := by decide +kernel
theorem dX3_isBestAgainst_4 : decode cX3_isBestAgainst 4 = .ok (.getfield 21, 3) := by decide +kernel
theorem dX3_isBestAgainst_7 : decode cX3_isBestAgainst 7 = .ok (.invokevirtual 51, 3) := by decide +kernel
theorem dX3_isBestAgainst_10 : decode cX3_isBestAgainst 10 = .ok (.if_icmp .ge 37, 3) := by decide +kernel
theorem dX3_isBestAgainst_13 : decode cX3_isBestAgainst 13 = .ok (.aload_n 0, 1) := by decide +kernel
theorem dX3_isBestAgainst_14 : decode cX3_isBestAgainst 14 = .ok (.getfield 25, 3) := by decide +kernel
theorem dX3_isBestAgainst_17 : decode cX3_isBestAgainst 17 = .ok (.iload_n 3, 1) := by decide +kernel
theorem dX3_isBestAgainst_18 : decode cX3_isBestAgainst 18 = .ok (.invokevirtual 79, 3) := by decide +kernel
theorem dX3_isBestAgainst_21 : decode cX3_isBestAgainst 21 = .ok (.ifCond .eq 20, 3) := by decide +kernel
theorem dX3_isBestAgainst_24 : decode cX3_isBestAgainst 24 = .ok (.aload_n 0, 1) := by decide +kernel
theorem dX3_isBestAgainst_25 : decode cX3_isBestAgainst 25 = .ok (.iload_n 3, 1) := by decide +kernel
theorem dX3_isBestAgainst_26 : decode cX3_isBestAgainst 26 = .ok (.iload_n 2, 1) := by decide +kernel
theorem dX3_isBestAgainst_27 : decode cX3_isBestAgainst 27 = .ok (.invokevirtual 85, 3) := by decide +kernel
theorem dX3_isBestAgainst_30 : decode cX3_isBestAgainst 30 = .ok (.aload_n 0, 1) := by decide +kernel
theorem dX3_isBestAgainst_31 : decode cX3_isBestAgainst 31 = .ok (.iload_n 1, 1) := by decide +kernel
theorem dX3_isBestAgainst_32 : decode cX3_isBestAgainst 32 = .ok (.iload_n 2, 1) := by decide +kernel
theorem dX3_isBestAgainst_33 : decode cX3_isBestAgainst 33 = .ok (.invokevirtual 85, 3) := by decide +kernel
theorem dX3_isBestAgainst_36 : decode cX3_isBestAgainst 36 = .ok (.if_icmp .le 5, 3) := by decide +kernel
theorem dX3_isBestAgainst_39 : decode cX3_isBestAgainst 39 = .ok (.iconst 0, 1) := by decide +kernel
theorem dX3_isBestAgainst_40 : decode cX3_isBestAgainst 40 = .ok (.ireturn, 1) := by decide +kernel
theorem dX3_isBestAgainst_41 : decode cX3_isBestAgainst 41 = .ok (.iinc 3 1, 3) := by decide +kernel
theorem dX3_isBestAgainst_44 : decode cX3_isBestAgainst 44 = .ok (.goto (-42), 3) := by decide +kernel
theorem dX3_isBestAgainst_47 : decode cX3_isBestAgainst 47 = .ok (.iconst 1, 1) := by decide +kernel
theorem dX3_isBestAgainst_48 : decode cX3_isBestAgainst 48 = .ok (.ireturn, 1) := by decide +kernel
set_option maxHeartbeats 4000000 in
theorem w_l_Mat_isBestAgainst_0 {ad wad : Nat → Nat} {Γ : Ctx} (F : Nat) {n : Nat} (hn : 4 ≤ n) (hG : Cx SHc ad wad cX3_isBestAgainst 4 RX3 (some .boolean) (n) Γ) {q : Int32 × HS} {x1 : Int32} {x2 : Int32} {g : Nat} {x3 : Int32} {h : HS} (hd : l_Mat_isBestAgainst_0 F x1 x2 g x3 h = some q) : AW SHc ad 4 (some (.int q.1), q.2) Γ 2 [(0, .ref (ad 50)), (1, .int x1), (2, .int x2), (3, .int x3)] [] h := by
  induction g generalizing x3 h with
  | zero => unfold l_Mat_isBestAgainst_0 at hd; cases hd
  | succ g ih =>
    unfold l_Mat_isBestAgainst_0 at hd
    refine a_iload_n (pc := 2) hG 3 rfl dX3_isBestAgainst_2 rfl ?_
    refine a_aload_n (pc := 3) hG 0 rfl dX3_isBestAgainst_3 rfl ?_
    refine a_getR (pc := 4) hG sc_50 cl_X3 ok_X3 0 (by decide) rfl t_388 dX3_isBestAgainst_4 ?_
    refine a_cvI (pc := 7) hG (As := []) (st := [.int x3]) sc_3 cl_X5 mk_X5_causes t_1019 (by omega) (fun z hz => c_Plan_causes_3  _  z hz) rfl (Nat.le_of_ble_eq_true rfl) hd dX3_isBestAgainst_7 (fun r3 h2 hd => ?_)
    refine a_ic_ge (pc := 10) hG (tgt := 47) hd dX3_isBestAgainst_10 (by decide) (fun hd => ?_) (fun hd => ?_)
    · refine a_iconst (pc := 47) hG dX3_isBestAgainst_47 (v := (nI 1)) rfl ?_
      exact a_zret (pc := 48) hG hd dX3_isBestAgainst_48
    refine a_aload_n (pc := 13) hG 0 rfl dX3_isBestAgainst_13 rfl ?_
    refine a_getR (pc := 14) hG sc_50 cl_X3 ok_X3 1 (by decide) rfl t_389 dX3_isBestAgainst_14 ?_
    refine a_iload_n (pc := 17) hG 3 rfl dX3_isBestAgainst_17 rfl ?_
    refine a_cvI (pc := 18) hG (As := [.int x3]) (st := []) sc_20 cl_X0 mk_X0_isOpenAndSafe t_1061 (by omega) (fun z hz => c_Desk_isOpenAndSafe x3 _  z hz) rfl (Nat.le_of_ble_eq_true rfl) hd dX3_isBestAgainst_18 (fun r5 h4 hd => ?_)
    refine a_join hd (Q := fun J : HS → Option (Int32 × HS) => ∀  (h7 : HS), J  h7 = some q → AW SHc ad 4 (some (.int q.1), q.2) Γ 41 [(0, .ref (ad 50)), (1, .int x1), (2, .int x2), (3, .int x3)] [] h7) (fun  h7 hd => ?_) (fun J6 hJ6 hd => ?_)
    · refine a_iincN (pc := 41) hG (c0 := (nI 1)) 3 rfl hd dX3_isBestAgainst_41 rfl (by decide) (lf := fun x => [(3, .int x), (0, .ref (ad 50)), (1, .int x1), (2, .int x2)]) (fun _ => rfl) (fun v8 hd => ?_)
      refine a_goto (pc := 44) hG (tgt := 2) dX3_isBestAgainst_44 (by decide) ?_
      exact AW.sub [1, 2, 3, 0] rfl (ih hd)
    refine a_if_eq (pc := 21) hG (tgt := 41) hd dX3_isBestAgainst_21 (by decide) (fun hd => ?_) (fun hd => ?_)
    · exact AW.sub [0, 1, 2, 3] rfl (hJ6  _ hd)
    refine a_aload_n (pc := 24) hG 0 rfl dX3_isBestAgainst_24 rfl ?_
    refine a_iload_n (pc := 25) hG 3 rfl dX3_isBestAgainst_25 rfl ?_
    refine a_iload_n (pc := 26) hG 2 rfl dX3_isBestAgainst_26 rfl ?_
    refine a_cvI (pc := 27) hG (As := [.int x3, .int x2]) (st := []) sc_50 cl_X3 mk_X3_gainOf t_1066 (by omega) (fun z hz => c_Mat_gainOf x3 x2 _  z hz) rfl (Nat.le_of_ble_eq_true rfl) hd dX3_isBestAgainst_27 (fun r10 h9 hd => ?_)
    refine a_aload_n (pc := 30) hG 0 rfl dX3_isBestAgainst_30 rfl ?_
    refine a_iload_n (pc := 31) hG 1 rfl dX3_isBestAgainst_31 rfl ?_
    refine a_iload_n (pc := 32) hG 2 rfl dX3_isBestAgainst_32 rfl ?_
    refine a_cvI (pc := 33) hG (As := [.int x1, .int x2]) (st := [.int r10]) sc_50 cl_X3 mk_X3_gainOf t_1066 (by omega) (fun z hz => c_Mat_gainOf x1 x2 _  z hz) rfl (Nat.le_of_ble_eq_true rfl) hd dX3_isBestAgainst_33 (fun r12 h11 hd => ?_)
    refine a_ic_le (pc := 36) hG (tgt := 41) hd dX3_isBestAgainst_36 (by decide) (fun hd => ?_) (fun hd => ?_)
    · exact AW.sub [0, 1, 2, 3] rfl (hJ6  _ hd)
    refine a_iconst (pc := 39) hG dX3_isBestAgainst_39 (v := (nI 0)) rfl ?_
    exact a_zret (pc := 40) hG hd dX3_isBestAgainst_40
set_option maxHeartbeats 4000000 in
theorem c_Mat_isBestAgainst {ad wad : Nat → Nat} (F : Nat) (a0 : Int32) (a1 : Int32) (h : HS)  (q : Int32 × HS) (hd : f_Mat_isBestAgainst F a0 a1 h = some q) : Ctr SHc ad wad yX3_isBestAgainst cX3_isBestAgainst 4 (some .boolean) 4 [.ref (ad 50), .int a0, .int a1] h (some (.int q.1), q.2) := by
  refine enter (own := RX3) (lv := [(0, .ref (ad 50)), (1, .int a0), (2, .int a1)]) (by decide +kernel) rfl (Nat.le_of_ble_eq_true rfl) rfl (fun Γ hG => ?_)
  unfold f_Mat_isBestAgainst at hd
  refine a_iconst (pc := 0) hG dX3_isBestAgainst_0 (v := (nI 0)) rfl ?_
  refine a_istore_nN (pc := 1) hG hd dX3_isBestAgainst_1 rfl (by decide) (lf := fun x => [(3, .int x), (0, .ref (ad 50)), (1, .int a0), (2, .int a1)]) (fun _ => rfl) (fun v1 hd => ?_)
  refine AW.sub [1, 2, 3, 0] rfl ?_
  exact w_l_Mat_isBestAgainst_0 F (by omega) hG hd
theorem dX3_isAtRest_0 : decode cX3_isAtRest 0 = .ok (.aload_n 0, 1) := by decide +kernel
theorem dX3_isAtRest_1 : decode cX3_isAtRest 1 = .ok (.getfield 25, 3) := by decide +kernel
theorem dX3_isAtRest_4 : decode cX3_isAtRest 4 = .ok (.iload_n 1, 1) := by decide +kernel
theorem dX3_isAtRest_5 : decode cX3_isAtRest 5 = .ok (.invokevirtual 79, 3) := by decide +kernel
theorem dX3_isAtRest_8 : decode cX3_isAtRest 8 = .ok (.ifCond .eq 36, 3) := by decide +kernel
theorem dX3_isAtRest_11 : decode cX3_isAtRest 11 = .ok (.aload_n 0, 1) := by decide +kernel
theorem dX3_isAtRest_12 : decode cX3_isAtRest 12 = .ok (.getfield 25, 3) := by decide +kernel
theorem dX3_isAtRest_15 : decode cX3_isAtRest 15 = .ok (.iload_n 2, 1) := by decide +kernel
theorem dX3_isAtRest_16 : decode cX3_isAtRest 16 = .ok (.invokevirtual 79, 3) := by decide +kernel
theorem dX3_isAtRest_19 : decode cX3_isAtRest 19 = .ok (.ifCond .eq 25, 3) := by decide +kernel
theorem dX3_isAtRest_22 : decode cX3_isAtRest 22 = .ok (.aload_n 0, 1) := by decide +kernel
theorem dX3_isAtRest_23 : decode cX3_isAtRest 23 = .ok (.iload_n 1, 1) := by decide +kernel
theorem dX3_isAtRest_24 : decode cX3_isAtRest 24 = .ok (.iload_n 2, 1) := by decide +kernel
theorem dX3_isAtRest_25 : decode cX3_isAtRest 25 = .ok (.invokevirtual 82, 3) := by decide +kernel
theorem dX3_isAtRest_28 : decode cX3_isAtRest 28 = .ok (.ifCond .eq 16, 3) := by decide +kernel
theorem dX3_isAtRest_31 : decode cX3_isAtRest 31 = .ok (.aload_n 0, 1) := by decide +kernel
theorem dX3_isAtRest_32 : decode cX3_isAtRest 32 = .ok (.iload_n 2, 1) := by decide +kernel
theorem dX3_isAtRest_33 : decode cX3_isAtRest 33 = .ok (.iload_n 1, 1) := by decide +kernel
theorem dX3_isAtRest_34 : decode cX3_isAtRest 34 = .ok (.invokevirtual 82, 3) := by decide +kernel
theorem dX3_isAtRest_37 : decode cX3_isAtRest 37 = .ok (.ifCond .eq 7, 3) := by decide +kernel
theorem dX3_isAtRest_40 : decode cX3_isAtRest 40 = .ok (.iconst 1, 1) := by decide +kernel
theorem dX3_isAtRest_41 : decode cX3_isAtRest 41 = .ok (.goto 4, 3) := by decide +kernel
theorem dX3_isAtRest_44 : decode cX3_isAtRest 44 = .ok (.iconst 0, 1) := by decide +kernel
theorem dX3_isAtRest_45 : decode cX3_isAtRest 45 = .ok (.ireturn, 1) := by decide +kernel
set_option maxHeartbeats 4000000 in
theorem c_Mat_isAtRest {ad wad : Nat → Nat} (F : Nat) (a0 : Int32) (a1 : Int32) (h : HS)  (q : Int32 × HS) (hd : f_Mat_isAtRest F a0 a1 h = some q) : Ctr SHc ad wad yX3_isAtRest cX3_isAtRest 3 (some .boolean) 5 [.ref (ad 50), .int a0, .int a1] h (some (.int q.1), q.2) := by
  refine enter (own := RX3) (lv := [(0, .ref (ad 50)), (1, .int a0), (2, .int a1)]) (by decide +kernel) rfl (Nat.le_of_ble_eq_true rfl) rfl (fun Γ hG => ?_)
  unfold f_Mat_isAtRest at hd
  refine a_aload_n (pc := 0) hG 0 rfl dX3_isAtRest_0 rfl ?_
  refine a_getR (pc := 1) hG sc_50 cl_X3 ok_X3 1 (by decide) rfl t_389 dX3_isAtRest_1 ?_
  refine a_iload_n (pc := 4) hG 1 rfl dX3_isAtRest_4 rfl ?_
  refine a_cvI (pc := 5) hG (As := [.int a0]) (st := []) sc_20 cl_X0 mk_X0_isOpenAndSafe t_1061 (by omega) (fun z hz => c_Desk_isOpenAndSafe a0 _  z hz) rfl (Nat.le_of_ble_eq_true rfl) hd dX3_isAtRest_5 (fun r2 h1 hd => ?_)
  refine a_if_eq (pc := 8) hG (tgt := 44) hd dX3_isAtRest_8 (by decide) (fun hd => ?_) (fun hd => ?_)
  · refine a_iconst (pc := 44) hG dX3_isAtRest_44 (v := (nI 0)) rfl ?_
    exact a_zret (pc := 45) hG hd dX3_isAtRest_45
  refine a_aload_n (pc := 11) hG 0 rfl dX3_isAtRest_11 rfl ?_
  refine a_getR (pc := 12) hG sc_50 cl_X3 ok_X3 1 (by decide) rfl t_389 dX3_isAtRest_12 ?_
  refine a_iload_n (pc := 15) hG 2 rfl dX3_isAtRest_15 rfl ?_
  refine a_cvI (pc := 16) hG (As := [.int a1]) (st := []) sc_20 cl_X0 mk_X0_isOpenAndSafe t_1061 (by omega) (fun z hz => c_Desk_isOpenAndSafe a1 _  z hz) rfl (Nat.le_of_ble_eq_true rfl) hd dX3_isAtRest_16 (fun r4 h3 hd => ?_)
  refine a_if_eq (pc := 19) hG (tgt := 44) hd dX3_isAtRest_19 (by decide) (fun hd => ?_) (fun hd => ?_)
  · refine a_iconst (pc := 44) hG dX3_isAtRest_44 (v := (nI 0)) rfl ?_
    exact a_zret (pc := 45) hG hd dX3_isAtRest_45
  refine a_aload_n (pc := 22) hG 0 rfl dX3_isAtRest_22 rfl ?_
  refine a_iload_n (pc := 23) hG 1 rfl dX3_isAtRest_23 rfl ?_
  refine a_iload_n (pc := 24) hG 2 rfl dX3_isAtRest_24 rfl ?_
  refine a_cvI (pc := 25) hG (As := [.int a0, .int a1]) (st := []) sc_50 cl_X3 mk_X3_isBestAgainst t_1062 (by omega) (fun z hz => c_Mat_isBestAgainst F a0 a1 _  z hz) rfl (Nat.le_of_ble_eq_true rfl) hd dX3_isAtRest_25 (fun r6 h5 hd => ?_)
  refine a_if_eq (pc := 28) hG (tgt := 44) hd dX3_isAtRest_28 (by decide) (fun hd => ?_) (fun hd => ?_)
  · refine a_iconst (pc := 44) hG dX3_isAtRest_44 (v := (nI 0)) rfl ?_
    exact a_zret (pc := 45) hG hd dX3_isAtRest_45
  refine a_aload_n (pc := 31) hG 0 rfl dX3_isAtRest_31 rfl ?_
  refine a_iload_n (pc := 32) hG 2 rfl dX3_isAtRest_32 rfl ?_
  refine a_iload_n (pc := 33) hG 1 rfl dX3_isAtRest_33 rfl ?_
  refine a_cvI (pc := 34) hG (As := [.int a1, .int a0]) (st := []) sc_50 cl_X3 mk_X3_isBestAgainst t_1062 (by omega) (fun z hz => c_Mat_isBestAgainst F a1 a0 _  z hz) rfl (Nat.le_of_ble_eq_true rfl) hd dX3_isAtRest_34 (fun r8 h7 hd => ?_)
  refine a_if_eq (pc := 37) hG (tgt := 44) hd dX3_isAtRest_37 (by decide) (fun hd => ?_) (fun hd => ?_)
  · refine a_iconst (pc := 44) hG dX3_isAtRest_44 (v := (nI 0)) rfl ?_
    exact a_zret (pc := 45) hG hd dX3_isAtRest_45
  refine a_iconst (pc := 40) hG dX3_isAtRest_40 (v := (nI 1)) rfl ?_
  refine a_goto (pc := 41) hG (tgt := 45) dX3_isAtRest_41 (by decide) ?_
  exact a_zret (pc := 45) hG hd dX3_isAtRest_45
theorem dX3_pairAtRest_0 : decode cX3_pairAtRest 0 = .ok (.aload_n 0, 1) := by decide +kernel
theorem dX3_pairAtRest_1 : decode cX3_pairAtRest 1 = .ok (.getfield 21, 3) := by decide +kernel
theorem dX3_pairAtRest_4 : decode cX3_pairAtRest 4 = .ok (.invokevirtual 33, 3) := by decide +kernel
theorem dX3_pairAtRest_7 : decode cX3_pairAtRest 7 = .ok (.ifCond .eq 8, 3) := by decide +kernel
theorem dX3_pairAtRest_10 : decode cX3_pairAtRest 10 = .ok (.iload_n 1, 1) := by decide +kernel
theorem dX3_pairAtRest_11 : decode cX3_pairAtRest 11 = .ok (.iconst (-1), 1) := by decide +kernel
theorem dX3_pairAtRest_12 : decode cX3_pairAtRest 12 = .ok (.if_icmp .ge 5, 3) := by decide +kernel
theorem dX3_pairAtRest_15 : decode cX3_pairAtRest 15 = .ok (.iconst (-1), 1) := by decide +kernel
theorem dX3_pairAtRest_16 : decode cX3_pairAtRest 16 = .ok (.ireturn, 1) := by decide +kernel
theorem dX3_pairAtRest_17 : decode cX3_pairAtRest 17 = .ok (.aload_n 0, 1) := by decide +kernel
theorem dX3_pairAtRest_18 : decode cX3_pairAtRest 18 = .ok (.iconst 0, 1) := by decide +kernel
theorem dX3_pairAtRest_19 : decode cX3_pairAtRest 19 = .ok (.invokevirtual 39, 3) := by decide +kernel
theorem dX3_pairAtRest_22 : decode cX3_pairAtRest 22 = .ok (.iconst 0, 1) := by decide +kernel
theorem dX3_pairAtRest_23 : decode cX3_pairAtRest 23 = .ok (.istore_n 2, 1) := by decide +kernel
theorem dX3_pairAtRest_24 : decode cX3_pairAtRest 24 = .ok (.iconst 0, 1) := by decide +kernel
theorem dX3_pairAtRest_25 : decode cX3_pairAtRest 25 = .ok (.istore_n 3, 1) := by decide +kernel
theorem dX3_pairAtRest_26 : decode cX3_pairAtRest 26 = .ok (.iload_n 3, 1) := by decide +kernel
theorem dX3_pairAtRest_27 : decode cX3_pairAtRest 27 = .ok (.aload_n 0, 1) := by decide +kernel
theorem dX3_pairAtRest_28 : decode cX3_pairAtRest 28 = .ok (.getfield 21, 3) := by decide +kernel
theorem dX3_pairAtRest_31 : decode cX3_pairAtRest 31 = .ok (.invokevirtual 51, 3) := by decide +kernel
theorem dX3_pairAtRest_34 : decode cX3_pairAtRest 34 = .ok (.if_icmp .ge 59, 3) := by decide +kernel
theorem dX3_pairAtRest_37 : decode cX3_pairAtRest 37 = .ok (.iconst 0, 1) := by decide +kernel
theorem dX3_pairAtRest_38 : decode cX3_pairAtRest 38 = .ok (.istore 4, 2) := by decide +kernel
theorem dX3_pairAtRest_40 : decode cX3_pairAtRest 40 = .ok (.iload 4, 2) := by decide +kernel
theorem dX3_pairAtRest_42 : decode cX3_pairAtRest 42 = .ok (.aload_n 0, 1) := by decide +kernel
theorem dX3_pairAtRest_43 : decode cX3_pairAtRest 43 = .ok (.getfield 21, 3) := by decide +kernel
theorem dX3_pairAtRest_46 : decode cX3_pairAtRest 46 = .ok (.invokevirtual 51, 3) := by decide +kernel
theorem dX3_pairAtRest_49 : decode cX3_pairAtRest 49 = .ok (.if_icmp .ge 38, 3) := by decide +kernel
theorem dX3_pairAtRest_52 : decode cX3_pairAtRest 52 = .ok (.aload_n 0, 1) := by decide +kernel
theorem dX3_pairAtRest_53 : decode cX3_pairAtRest 53 = .ok (.iload_n 3, 1) := by decide +kernel
theorem dX3_pairAtRest_54 : decode cX3_pairAtRest 54 = .ok (.iload 4, 2) := by decide +kernel
theorem dX3_pairAtRest_56 : decode cX3_pairAtRest 56 = .ok (.invokevirtual 54, 3) := by decide +kernel
theorem dX3_pairAtRest_59 : decode cX3_pairAtRest 59 = .ok (.ifCond .ne 6, 3) := by decide +kernel
theorem dX3_pairAtRest_62 : decode cX3_pairAtRest 62 = .ok (.goto 19, 3) := by decide +kernel
theorem dX3_pairAtRest_65 : decode cX3_pairAtRest 65 = .ok (.iload_n 2, 1) := by decide +kernel
theorem dX3_pairAtRest_66 : decode cX3_pairAtRest 66 = .ok (.iload_n 1, 1) := by decide +kernel
theorem dX3_pairAtRest_67 : decode cX3_pairAtRest 67 = .ok (.if_icmp .ne 11, 3) := by decide +kernel
theorem dX3_pairAtRest_70 : decode cX3_pairAtRest 70 = .ok (.bipush 10, 2) := by decide +kernel
theorem dX3_pairAtRest_72 : decode cX3_pairAtRest 72 = .ok (.iload_n 3, 1) := by decide +kernel
theorem dX3_pairAtRest_73 : decode cX3_pairAtRest 73 = .ok (.imul, 1) := by decide +kernel
theorem dX3_pairAtRest_74 : decode cX3_pairAtRest 74 = .ok (.iload 4, 2) := by decide +kernel
theorem dX3_pairAtRest_76 : decode cX3_pairAtRest 76 = .ok (.iadd, 1) := by decide +kernel
theorem dX3_pairAtRest_77 : decode cX3_pairAtRest 77 = .ok (.ireturn, 1) := by decide +kernel
theorem dX3_pairAtRest_78 : decode cX3_pairAtRest 78 = .ok (.iinc 2 1, 3) := by decide +kernel
theorem dX3_pairAtRest_81 : decode cX3_pairAtRest 81 = .ok (.iinc 4 1, 3) := by decide +kernel
theorem dX3_pairAtRest_84 : decode cX3_pairAtRest 84 = .ok (.goto (-44), 3) := by decide +kernel
theorem dX3_pairAtRest_87 : decode cX3_pairAtRest 87 = .ok (.iinc 3 1, 3) := by decide +kernel
theorem dX3_pairAtRest_90 : decode cX3_pairAtRest 90 = .ok (.goto (-64), 3) := by decide +kernel
theorem dX3_pairAtRest_93 : decode cX3_pairAtRest 93 = .ok (.iload_n 1, 1) := by decide +kernel
theorem dX3_pairAtRest_94 : decode cX3_pairAtRest 94 = .ok (.iconst (-1), 1) := by decide +kernel
theorem dX3_pairAtRest_95 : decode cX3_pairAtRest 95 = .ok (.if_icmp .ne 7, 3) := by decide +kernel
theorem dX3_pairAtRest_98 : decode cX3_pairAtRest 98 = .ok (.iload_n 2, 1) := by decide +kernel
theorem dX3_pairAtRest_99 : decode cX3_pairAtRest 99 = .ok (.goto 4, 3) := by decide +kernel
theorem dX3_pairAtRest_102 : decode cX3_pairAtRest 102 = .ok (.iconst (-1), 1) := by decide +kernel
theorem dX3_pairAtRest_103 : decode cX3_pairAtRest 103 = .ok (.ireturn, 1) := by decide +kernel
set_option maxHeartbeats 4000000 in
theorem w_l_Mat_pairAtRest_1 {ad wad : Nat → Nat} {Γ : Ctx} (F : Nat) {n : Nat} (hn : 7 ≤ n) (hG : Cx SHc ad wad cX3_pairAtRest 5 RX3 (some .int) (n) Γ) {q : Int32 × HS} {x1 : Int32} {x3 : Int32} {K0 : Int32 → HS → Option (Int32 × HS)} {K1 : Int32 → HS → Option (Int32 × HS)} {g : Nat} {x2 : Int32} {x4 : Int32} {h : HS} (hd : l_Mat_pairAtRest_1 F x1 x3 K0 K1 g x2 x4 h = some q) (hK0 : ∀ (y2 : Int32) (z : HS), K0 y2 z = some q → AW SHc ad 5 (some (.int q.1), q.2) Γ 87 [(0, .ref (ad 50)), (1, .int x1), (2, .int y2), (3, .int x3)] [] z) (hK1 : ∀ (y4 : Int32) (z : HS), K1 y4 z = some q → AW SHc ad 5 (some (.int q.1), q.2) Γ 70 [(3, .int x3), (4, .int y4)] [] z) : AW SHc ad 5 (some (.int q.1), q.2) Γ 40 [(0, .ref (ad 50)), (1, .int x1), (2, .int x2), (3, .int x3), (4, .int x4)] [] h := by
  induction g generalizing x2 x4 h with
  | zero => unfold l_Mat_pairAtRest_1 at hd; cases hd
  | succ g ih =>
    unfold l_Mat_pairAtRest_1 at hd
    refine a_iload (pc := 40) hG 4 rfl dX3_pairAtRest_40 ?_
    refine a_aload_n (pc := 42) hG 0 rfl dX3_pairAtRest_42 rfl ?_
    refine a_getR (pc := 43) hG sc_50 cl_X3 ok_X3 0 (by decide) rfl t_388 dX3_pairAtRest_43 ?_
    refine a_cvI (pc := 46) hG (As := []) (st := [.int x4]) sc_3 cl_X5 mk_X5_causes t_1019 (by omega) (fun z hz => c_Plan_causes_3  _  z hz) rfl (Nat.le_of_ble_eq_true rfl) hd dX3_pairAtRest_46 (fun r10 h9 hd => ?_)
    refine a_ic_ge (pc := 49) hG (tgt := 87) hd dX3_pairAtRest_49 (by decide) (fun hd => ?_) (fun hd => ?_)
    · exact AW.sub [0, 1, 2, 3] rfl (hK0 _ _ hd)
    refine a_aload_n (pc := 52) hG 0 rfl dX3_pairAtRest_52 rfl ?_
    refine a_iload_n (pc := 53) hG 3 rfl dX3_pairAtRest_53 rfl ?_
    refine a_iload (pc := 54) hG 4 rfl dX3_pairAtRest_54 ?_
    refine a_cvI (pc := 56) hG (As := [.int x3, .int x4]) (st := []) sc_50 cl_X3 mk_X3_isAtRest t_1057 (by omega) (fun z hz => c_Mat_isAtRest F x3 x4 _  z hz) rfl (Nat.le_of_ble_eq_true rfl) hd dX3_pairAtRest_56 (fun r12 h11 hd => ?_)
    refine a_join hd (Q := fun J : Int32 → HS → Option (Int32 × HS) => ∀ (v14 : Int32) (h15 : HS), J v14 h15 = some q → AW SHc ad 5 (some (.int q.1), q.2) Γ 81 [(0, .ref (ad 50)), (1, .int x1), (2, .int v14), (3, .int x3), (4, .int x4)] [] h15) (fun v14 h15 hd => ?_) (fun J13 hJ13 hd => ?_)
    · refine a_iincN (pc := 81) hG (c0 := (nI 1)) 4 rfl hd dX3_pairAtRest_81 rfl (by decide) (lf := fun x => [(4, .int x), (0, .ref (ad 50)), (1, .int x1), (2, .int v14), (3, .int x3)]) (fun _ => rfl) (fun v16 hd => ?_)
      refine a_goto (pc := 84) hG (tgt := 40) dX3_pairAtRest_84 (by decide) ?_
      exact AW.sub [1, 2, 3, 4, 0] rfl (ih hd)
    refine a_if_ne (pc := 59) hG (tgt := 65) hd dX3_pairAtRest_59 (by decide) (fun hd => ?_) (fun hd => ?_)
    · refine a_iload_n (pc := 65) hG 2 rfl dX3_pairAtRest_65 rfl ?_
      refine a_iload_n (pc := 66) hG 1 rfl dX3_pairAtRest_66 rfl ?_
      refine a_ic_ne (pc := 67) hG (tgt := 78) hd dX3_pairAtRest_67 (by decide) (fun hd => ?_) (fun hd => ?_)
      · refine a_iincN (pc := 78) hG (c0 := (nI 1)) 2 rfl hd dX3_pairAtRest_78 rfl (by decide) (lf := fun x => [(2, .int x), (0, .ref (ad 50)), (1, .int x1), (3, .int x3), (4, .int x4)]) (fun _ => rfl) (fun v17 hd => ?_)
        exact AW.sub [1, 2, 0, 3, 4] rfl (hJ13 _ _ hd)
      exact AW.sub [3, 4] rfl (hK1 _ _ hd)
    refine a_goto (pc := 62) hG (tgt := 81) dX3_pairAtRest_62 (by decide) ?_
    exact AW.sub [0, 1, 2, 3, 4] rfl (hJ13 _ _ hd)
set_option maxHeartbeats 4000000 in
theorem w_l_Mat_pairAtRest_0 {ad wad : Nat → Nat} {Γ : Ctx} (F : Nat) {n : Nat} (hn : 7 ≤ n) (hG : Cx SHc ad wad cX3_pairAtRest 5 RX3 (some .int) (n) Γ) {q : Int32 × HS} {x1 : Int32} {K0 : Int32 → HS → Option (Int32 × HS)} {K1 : Int32 → Int32 → HS → Option (Int32 × HS)} {g : Nat} {x2 : Int32} {x3 : Int32} {h : HS} (hd : l_Mat_pairAtRest_0 F x1 K0 K1 g x2 x3 h = some q) (hK0 : ∀ (y2 : Int32) (z : HS), K0 y2 z = some q → AW SHc ad 5 (some (.int q.1), q.2) Γ 93 [(1, .int x1), (2, .int y2)] [] z) (hK1 : ∀ (y3 : Int32) (y4 : Int32) (z : HS), K1 y3 y4 z = some q → AW SHc ad 5 (some (.int q.1), q.2) Γ 70 [(3, .int y3), (4, .int y4)] [] z) : AW SHc ad 5 (some (.int q.1), q.2) Γ 26 [(0, .ref (ad 50)), (1, .int x1), (2, .int x2), (3, .int x3)] [] h := by
  induction g generalizing x2 x3 h with
  | zero => unfold l_Mat_pairAtRest_0 at hd; cases hd
  | succ g ih =>
    unfold l_Mat_pairAtRest_0 at hd
    refine a_iload_n (pc := 26) hG 3 rfl dX3_pairAtRest_26 rfl ?_
    refine a_aload_n (pc := 27) hG 0 rfl dX3_pairAtRest_27 rfl ?_
    refine a_getR (pc := 28) hG sc_50 cl_X3 ok_X3 0 (by decide) rfl t_388 dX3_pairAtRest_28 ?_
    refine a_cvI (pc := 31) hG (As := []) (st := [.int x3]) sc_3 cl_X5 mk_X5_causes t_1019 (by omega) (fun z hz => c_Plan_causes_3  _  z hz) rfl (Nat.le_of_ble_eq_true rfl) hd dX3_pairAtRest_31 (fun r7 h6 hd => ?_)
    refine a_ic_ge (pc := 34) hG (tgt := 93) hd dX3_pairAtRest_34 (by decide) (fun hd => ?_) (fun hd => ?_)
    · exact AW.sub [1, 2] rfl (hK0 _ _ hd)
    refine a_iconst (pc := 37) hG dX3_pairAtRest_37 (v := (nI 0)) rfl ?_
    refine a_istoreN (pc := 38) hG hd dX3_pairAtRest_38 (by decide) (lf := fun x => [(4, .int x), (0, .ref (ad 50)), (1, .int x1), (2, .int x2), (3, .int x3)]) (fun _ => rfl) (fun v8 hd => ?_)
    refine AW.sub [1, 2, 3, 4, 0] rfl ?_
    refine w_l_Mat_pairAtRest_1 F (by omega) hG hd (fun v18 h19 hd => ?_) (fun v21 h22 hd => ?_)
    · refine a_iincN (pc := 87) hG (c0 := (nI 1)) 3 rfl hd dX3_pairAtRest_87 rfl (by decide) (lf := fun x => [(3, .int x), (0, .ref (ad 50)), (1, .int x1), (2, .int v18)]) (fun _ => rfl) (fun v20 hd => ?_)
      refine a_goto (pc := 90) hG (tgt := 26) dX3_pairAtRest_90 (by decide) ?_
      exact AW.sub [1, 2, 3, 0] rfl (ih hd)
    · exact AW.sub [0, 1] rfl (hK1 _ _ _ hd)
set_option maxHeartbeats 4000000 in
theorem c_Mat_pairAtRest {ad wad : Nat → Nat} (F : Nat) (a0 : Int32) (h : HS)  (q : Int32 × HS) (hd : f_Mat_pairAtRest F a0 h = some q) : Ctr SHc ad wad yX3_pairAtRest cX3_pairAtRest 5 (some .int) 7 [.ref (ad 50), .int a0] h (some (.int q.1), q.2) := by
  refine enter (own := RX3) (lv := [(0, .ref (ad 50)), (1, .int a0)]) (by decide +kernel) rfl (Nat.le_of_ble_eq_true rfl) rfl (fun Γ hG => ?_)
  unfold f_Mat_pairAtRest at hd
  refine a_aload_n (pc := 0) hG 0 rfl dX3_pairAtRest_0 rfl ?_
  refine a_getR (pc := 1) hG sc_50 cl_X3 ok_X3 0 (by decide) rfl t_388 dX3_pairAtRest_1 ?_
  refine a_cvI (pc := 4) hG (As := []) (st := []) sc_3 cl_X5 mk_X5_clerks t_1014 (by omega) (fun z hz => c_Plan_clerks_3  _  z hz) rfl (Nat.le_of_ble_eq_true rfl) hd dX3_pairAtRest_4 (fun r2 h1 hd => ?_)
  refine a_if_eq (pc := 7) hG (tgt := 15) hd dX3_pairAtRest_7 (by decide) (fun hd => ?_) (fun hd => ?_)
  · refine a_iconst (pc := 15) hG dX3_pairAtRest_15 (v := (-1 : Int32)) rfl ?_
    exact a_iret (pc := 16) hG hd dX3_pairAtRest_16
  refine a_iload_n (pc := 10) hG 1 rfl dX3_pairAtRest_10 rfl ?_
  refine a_iconst (pc := 11) hG dX3_pairAtRest_11 (v := (-1 : Int32)) rfl ?_
  refine a_ic_ge (pc := 12) hG (tgt := 17) hd dX3_pairAtRest_12 (by decide) (fun hd => ?_) (fun hd => ?_)
  · refine a_aload_n (pc := 17) hG 0 rfl dX3_pairAtRest_17 rfl ?_
    refine a_iconst (pc := 18) hG dX3_pairAtRest_18 (v := (nI 0)) rfl ?_
    refine a_cvN (pc := 19) hG (As := [.int (nI 0)]) (st := []) sc_50 cl_X3 mk_X3_fillValues t_1015 (by omega) (fun z hz => c_Mat_fillValues F (nI 0) _  z hz) rfl (Nat.le_of_ble_eq_true rfl) hd dX3_pairAtRest_19 (fun _ h3 hd => ?_)
    refine a_iconst (pc := 22) hG dX3_pairAtRest_22 (v := (nI 0)) rfl ?_
    refine a_istore_nN (pc := 23) hG hd dX3_pairAtRest_23 rfl (by decide) (lf := fun x => [(2, .int x), (0, .ref (ad 50)), (1, .int a0)]) (fun _ => rfl) (fun v4 hd => ?_)
    refine a_iconst (pc := 24) hG dX3_pairAtRest_24 (v := (nI 0)) rfl ?_
    refine a_istore_nN (pc := 25) hG hd dX3_pairAtRest_25 rfl (by decide) (lf := fun x => [(3, .int x), (2, .int v4), (0, .ref (ad 50)), (1, .int a0)]) (fun _ => rfl) (fun v5 hd => ?_)
    refine AW.sub [2, 3, 1, 0] rfl ?_
    refine w_l_Mat_pairAtRest_0 F (by omega) hG hd (fun v23 h24 hd => ?_) (fun v25 v26 h27 hd => ?_)
    · refine a_iload_n (pc := 93) hG 0 rfl dX3_pairAtRest_93 rfl ?_
      refine a_iconst (pc := 94) hG dX3_pairAtRest_94 (v := (-1 : Int32)) rfl ?_
      refine a_ic_ne (pc := 95) hG (tgt := 102) hd dX3_pairAtRest_95 (by decide) (fun hd => ?_) (fun hd => ?_)
      · refine a_iconst (pc := 102) hG dX3_pairAtRest_102 (v := (-1 : Int32)) rfl ?_
        exact a_iret (pc := 103) hG hd dX3_pairAtRest_103
      refine a_iload_n (pc := 98) hG 1 rfl dX3_pairAtRest_98 rfl ?_
      refine a_goto (pc := 99) hG (tgt := 103) dX3_pairAtRest_99 (by decide) ?_
      exact a_iret (pc := 103) hG hd dX3_pairAtRest_103
    · refine a_bipush (pc := 70) hG dX3_pairAtRest_70 (v := (nI 10)) rfl ?_
      refine a_iload_n (pc := 72) hG 0 rfl dX3_pairAtRest_72 rfl ?_
      refine a_imul (pc := 73) hG dX3_pairAtRest_73 ?_
      refine a_iload (pc := 74) hG 1 rfl dX3_pairAtRest_74 ?_
      refine a_iadd (pc := 76) hG dX3_pairAtRest_76 ?_
      exact a_iret (pc := 77) hG hd dX3_pairAtRest_77
  refine a_iconst (pc := 15) hG dX3_pairAtRest_15 (v := (-1 : Int32)) rfl ?_
  exact a_iret (pc := 16) hG hd dX3_pairAtRest_16
theorem dX11_rests_0 : decode cX11_rests 0 = .ok (.aload_n 0, 1) := by decide +kernel
theorem dX11_rests_1 : decode cX11_rests 1 = .ok (.getfield 82, 3) := by decide +kernel
theorem dX11_rests_4 : decode cX11_rests 4 = .ok (.iload_n 1, 1) := by decide +kernel
theorem dX11_rests_5 : decode cX11_rests 5 = .ok (.invokevirtual 250, 3) := by decide +kernel
theorem dX11_rests_8 : decode cX11_rests 8 = .ok (.ireturn, 1) := by decide +kernel
set_option maxHeartbeats 4000000 in
theorem c_LC_rests {ad wad : Nat → Nat} (F : Nat) (a0 : Int32) (h : HS)  (q : Int32 × HS) (hd : f_LC_rests F a0 h = some q) : Ctr SHc ad wad yX11_rests cX11_rests 2 (some .int) 8 [.ref (ad 0), .int a0] h (some (.int q.1), q.2) := by
  refine enter (own := RX11) (lv := [(0, .ref (ad 0)), (1, .int a0)]) (by decide +kernel) rfl (Nat.le_of_ble_eq_true rfl) rfl (fun Γ hG => ?_)
  unfold f_LC_rests at hd
  refine a_aload_n (pc := 0) hG 0 rfl dX11_rests_0 rfl ?_
  refine a_getR (pc := 1) hG sc_0 cl_X11 ok_X11 10 (by decide) rfl t_491 dX11_rests_1 ?_
  refine a_iload_n (pc := 4) hG 1 rfl dX11_rests_4 rfl ?_
  refine a_cvI (pc := 5) hG (As := [.int a0]) (st := []) sc_50 cl_X3 mk_X3_pairAtRest t_1053 (by omega) (fun z hz => c_Mat_pairAtRest F a0 _  z hz) rfl (Nat.le_of_ble_eq_true rfl) hd dX11_rests_5 (fun r2 h1 hd => ?_)
  exact a_iret (pc := 8) hG hd dX11_rests_8
set_option maxHeartbeats 4000000 in
theorem c_Plan_hasRumour_3 {ad wad : Nat → Nat} (a0 : Int32) (h : HS)  (q : Int32 × HS) (hd : f_Plan_hasRumour_3 a0 h = some q) : Ctr SHc ad wad yX5_hasRumour cX5_hasRumour 2 (some .boolean) 2 [.ref (ad 3), .int a0] h (some (.int q.1), q.2) := by
  refine enter (own := RX5) (lv := [(0, .ref (ad 3)), (1, .int a0)]) (by decide +kernel) rfl (Nat.le_of_ble_eq_true rfl) rfl (fun Γ hG => ?_)
  unfold f_Plan_hasRumour_3 at hd
  refine a_aload_n (pc := 0) hG 0 rfl dX5_hasRumour_0 rfl ?_
  refine a_iload_n (pc := 1) hG 1 rfl dX5_hasRumour_1 rfl ?_
  refine a_cvI (pc := 2) hG (As := [.int a0]) (st := []) sc_3 cl_X5 mk_X5_hasCause t_704 (by omega) (fun z hz => c_Plan_hasCause_3 a0 _  z hz) rfl (Nat.le_of_ble_eq_true rfl) hd dX5_hasRumour_2 (fun r2 h1 hd => ?_)
  refine a_if_eq (pc := 5) hG (tgt := 25) hd dX5_hasRumour_5 (by decide) (fun hd => ?_) (fun hd => ?_)
  · refine a_iconst (pc := 25) hG dX5_hasRumour_25 (v := (nI 0)) rfl ?_
    exact a_zret (pc := 26) hG hd dX5_hasRumour_26
  refine a_aload_n (pc := 8) hG 0 rfl dX5_hasRumour_8 rfl ?_
  refine a_getR (pc := 9) hG sc_3 cl_X5 ok_X5 10 (by decide) rfl t_207 dX5_hasRumour_9 ?_
  refine a_iload_n (pc := 12) hG 1 rfl dX5_hasRumour_12 rfl ?_
  refine a_iconst (pc := 13) hG dX5_hasRumour_13 (v := (nI 2)) rfl ?_
  refine a_imul (pc := 14) hG dX5_hasRumour_14 ?_
  refine a_iconst (pc := 15) hG dX5_hasRumour_15 (v := (nI 1)) rfl ?_
  refine a_iadd (pc := 16) hG dX5_hasRumour_16 ?_
  refine a_iald (pc := 17) hG sc_8 hd dX5_hasRumour_17 (fun hd => ?_)
  refine a_if_le (pc := 18) hG (tgt := 25) hd dX5_hasRumour_18 (by decide) (fun hd => ?_) (fun hd => ?_)
  · refine a_iconst (pc := 25) hG dX5_hasRumour_25 (v := (nI 0)) rfl ?_
    exact a_zret (pc := 26) hG hd dX5_hasRumour_26
  refine a_iconst (pc := 21) hG dX5_hasRumour_21 (v := (nI 1)) rfl ?_
  refine a_goto (pc := 22) hG (tgt := 26) dX5_hasRumour_22 (by decide) ?_
  exact a_zret (pc := 26) hG hd dX5_hasRumour_26
theorem dX5_ofRumour_0 : decode cX5_ofRumour 0 = .ok (.aload_n 0, 1) := by decide +kernel
theorem dX5_ofRumour_1 : decode cX5_ofRumour 1 = .ok (.getfield 44, 3) := by decide +kernel
theorem dX5_ofRumour_4 : decode cX5_ofRumour 4 = .ok (.iload_n 1, 1) := by decide +kernel
theorem dX5_ofRumour_5 : decode cX5_ofRumour 5 = .ok (.iconst 2, 1) := by decide +kernel
theorem dX5_ofRumour_6 : decode cX5_ofRumour 6 = .ok (.imul, 1) := by decide +kernel
theorem dX5_ofRumour_7 : decode cX5_ofRumour 7 = .ok (.iload_n 2, 1) := by decide +kernel
theorem dX5_ofRumour_8 : decode cX5_ofRumour 8 = .ok (.iadd, 1) := by decide +kernel
theorem dX5_ofRumour_9 : decode cX5_ofRumour 9 = .ok (.iaload, 1) := by decide +kernel
theorem dX5_ofRumour_10 : decode cX5_ofRumour 10 = .ok (.ireturn, 1) := by decide +kernel
set_option maxHeartbeats 4000000 in
theorem c_Plan_ofRumour_3 {ad wad : Nat → Nat} (a0 : Int32) (a1 : Int32) (h : HS)  (q : Int32 × HS) (hd : f_Plan_ofRumour_3 a0 a1 h = some q) : Ctr SHc ad wad yX5_ofRumour cX5_ofRumour 3 (some .int) 1 [.ref (ad 3), .int a0, .int a1] h (some (.int q.1), q.2) := by
  refine enter (own := RX5) (lv := [(0, .ref (ad 3)), (1, .int a0), (2, .int a1)]) (by decide +kernel) rfl (Nat.le_of_ble_eq_true rfl) rfl (fun Γ hG => ?_)
  unfold f_Plan_ofRumour_3 at hd
  refine a_aload_n (pc := 0) hG 0 rfl dX5_ofRumour_0 rfl ?_
  refine a_getR (pc := 1) hG sc_3 cl_X5 ok_X5 10 (by decide) rfl t_207 dX5_ofRumour_1 ?_
  refine a_iload_n (pc := 4) hG 1 rfl dX5_ofRumour_4 rfl ?_
  refine a_iconst (pc := 5) hG dX5_ofRumour_5 (v := (nI 2)) rfl ?_
  refine a_imul (pc := 6) hG dX5_ofRumour_6 ?_
  refine a_iload_n (pc := 7) hG 2 rfl dX5_ofRumour_7 rfl ?_
  refine a_iadd (pc := 8) hG dX5_ofRumour_8 ?_
  refine a_iald (pc := 9) hG sc_8 hd dX5_ofRumour_9 (fun hd => ?_)
  exact a_iret (pc := 10) hG hd dX5_ofRumour_10
theorem dX9_isSafeBehind_0 : decode cX9_isSafeBehind 0 = .ok (.aload_n 0, 1) := by decide +kernel
theorem dX9_isSafeBehind_1 : decode cX9_isSafeBehind 1 = .ok (.getfield 28, 3) := by decide +kernel
theorem dX9_isSafeBehind_4 : decode cX9_isSafeBehind 4 = .ok (.aload_n 0, 1) := by decide +kernel
theorem dX9_isSafeBehind_5 : decode cX9_isSafeBehind 5 = .ok (.iload_n 1, 1) := by decide +kernel
theorem dX9_isSafeBehind_6 : decode cX9_isSafeBehind 6 = .ok (.iload_n 2, 1) := by decide +kernel
theorem dX9_isSafeBehind_7 : decode cX9_isSafeBehind 7 = .ok (.invokevirtual 51, 3) := by decide +kernel
theorem dX9_isSafeBehind_10 : decode cX9_isSafeBehind 10 = .ok (.aload_n 0, 1) := by decide +kernel
theorem dX9_isSafeBehind_11 : decode cX9_isSafeBehind 11 = .ok (.iload_n 1, 1) := by decide +kernel
theorem dX9_isSafeBehind_12 : decode cX9_isSafeBehind 12 = .ok (.iload_n 2, 1) := by decide +kernel
theorem dX9_isSafeBehind_13 : decode cX9_isSafeBehind 13 = .ok (.invokevirtual 54, 3) := by decide +kernel
theorem dX9_isSafeBehind_16 : decode cX9_isSafeBehind 16 = .ok (.invokevirtual 97, 3) := by decide +kernel
theorem dX9_isSafeBehind_19 : decode cX9_isSafeBehind 19 = .ok (.ireturn, 1) := by decide +kernel
set_option maxHeartbeats 4000000 in
theorem c_Ways_isSafeBehind {ad wad : Nat → Nat} (a0 : Int32) (a1 : Int32) (h : HS)  (q : Int32 × HS) (hd : f_Ways_isSafeBehind a0 a1 h = some q) : Ctr SHc ad wad yX9_isSafeBehind cX9_isSafeBehind 3 (some .boolean) 3 [.ref (ad 31), .int a0, .int a1] h (some (.int q.1), q.2) := by
  refine enter (own := RX9) (lv := [(0, .ref (ad 31)), (1, .int a0), (2, .int a1)]) (by decide +kernel) rfl (Nat.le_of_ble_eq_true rfl) rfl (fun Γ hG => ?_)
  unfold f_Ways_isSafeBehind at hd
  refine a_aload_n (pc := 0) hG 0 rfl dX9_isSafeBehind_0 rfl ?_
  refine a_getR (pc := 1) hG sc_31 cl_X9 ok_X9 0 (by decide) rfl t_288 dX9_isSafeBehind_1 ?_
  refine a_aload_n (pc := 4) hG 0 rfl dX9_isSafeBehind_4 rfl ?_
  refine a_iload_n (pc := 5) hG 1 rfl dX9_isSafeBehind_5 rfl ?_
  refine a_iload_n (pc := 6) hG 2 rfl dX9_isSafeBehind_6 rfl ?_
  refine a_cvI (pc := 7) hG (As := [.int a0, .int a1]) (st := [.ref (ad 3)]) sc_31 cl_X9 mk_X9_proBehind t_969 (by omega) (fun z hz => c_Ways_proBehind a0 a1 _  z hz) rfl (Nat.le_of_ble_eq_true rfl) hd dX9_isSafeBehind_7 (fun r2 h1 hd => ?_)
  refine a_aload_n (pc := 10) hG 0 rfl dX9_isSafeBehind_10 rfl ?_
  refine a_iload_n (pc := 11) hG 1 rfl dX9_isSafeBehind_11 rfl ?_
  refine a_iload_n (pc := 12) hG 2 rfl dX9_isSafeBehind_12 rfl ?_
  refine a_cvI (pc := 13) hG (As := [.int a0, .int a1]) (st := [.int r2, .ref (ad 3)]) sc_31 cl_X9 mk_X9_contraBehind t_973 (by omega) (fun z hz => c_Ways_contraBehind a0 a1 _  z hz) rfl (Nat.le_of_ble_eq_true rfl) hd dX9_isSafeBehind_13 (fun r4 h3 hd => ?_)
  refine a_cvI (pc := 16) hG (As := [.int r2, .int r4]) (st := []) sc_3 cl_X5 mk_X5_isSafe t_954 (by omega) (fun z hz => c_Plan_isSafe_3 r2 r4 _  z hz) rfl (Nat.le_of_ble_eq_true rfl) hd dX9_isSafeBehind_16 (fun r6 h5 hd => ?_)
  exact a_zret (pc := 19) hG hd dX9_isSafeBehind_19
theorem dX9_isNotSmaller_0 : decode cX9_isNotSmaller 0 = .ok (.iload_n 1, 1) := by decide +kernel
theorem dX9_isNotSmaller_1 : decode cX9_isNotSmaller 1 = .ok (.invokestatic 64, 3) := by decide +kernel
theorem dX9_isNotSmaller_4 : decode cX9_isNotSmaller 4 = .ok (.iload_n 2, 1) := by decide +kernel
theorem dX9_isNotSmaller_5 : decode cX9_isNotSmaller 5 = .ok (.invokestatic 64, 3) := by decide +kernel
theorem dX9_isNotSmaller_8 : decode cX9_isNotSmaller 8 = .ok (.if_icmp .lt 7, 3) := by decide +kernel
theorem dX9_isNotSmaller_11 : decode cX9_isNotSmaller 11 = .ok (.iconst 1, 1) := by decide +kernel
theorem dX9_isNotSmaller_12 : decode cX9_isNotSmaller 12 = .ok (.goto 4, 3) := by decide +kernel
theorem dX9_isNotSmaller_15 : decode cX9_isNotSmaller 15 = .ok (.iconst 0, 1) := by decide +kernel
theorem dX9_isNotSmaller_16 : decode cX9_isNotSmaller 16 = .ok (.ireturn, 1) := by decide +kernel
set_option maxHeartbeats 4000000 in
theorem c_Ways_isNotSmaller {ad wad : Nat → Nat} (a0 : Int32) (a1 : Int32) (h : HS)  (q : Int32 × HS) (hd : f_Ways_isNotSmaller a0 a1 h = some q) : Ctr SHc ad wad yX9_isNotSmaller cX9_isNotSmaller 3 (some .boolean) 2 [.ref (ad 31), .int a0, .int a1] h (some (.int q.1), q.2) := by
  refine enter (own := RX9) (lv := [(0, .ref (ad 31)), (1, .int a0), (2, .int a1)]) (by decide +kernel) rfl (Nat.le_of_ble_eq_true rfl) rfl (fun Γ hG => ?_)
  unfold f_Ways_isNotSmaller at hd
  refine a_iload_n (pc := 0) hG 1 rfl dX9_isNotSmaller_0 rfl ?_
  refine a_csI (pc := 1) hG (As := [.int a0]) (st := []) mk_J6_bitCount_0f7a4 t_959 (by omega) (fun z hz => c_Int_bitCount_0f7a4 a0 _  z hz) rfl (Nat.le_of_ble_eq_true rfl) hd dX9_isNotSmaller_1 (fun r2 h1 hd => ?_)
  refine a_iload_n (pc := 4) hG 2 rfl dX9_isNotSmaller_4 rfl ?_
  refine a_csI (pc := 5) hG (As := [.int a1]) (st := [.int r2]) mk_J6_bitCount_0f7a4 t_959 (by omega) (fun z hz => c_Int_bitCount_0f7a4 a1 _  z hz) rfl (Nat.le_of_ble_eq_true rfl) hd dX9_isNotSmaller_5 (fun r4 h3 hd => ?_)
  refine a_ic_lt (pc := 8) hG (tgt := 15) hd dX9_isNotSmaller_8 (by decide) (fun hd => ?_) (fun hd => ?_)
  · refine a_iconst (pc := 15) hG dX9_isNotSmaller_15 (v := (nI 0)) rfl ?_
    exact a_zret (pc := 16) hG hd dX9_isNotSmaller_16
  refine a_iconst (pc := 11) hG dX9_isNotSmaller_11 (v := (nI 1)) rfl ?_
  refine a_goto (pc := 12) hG (tgt := 16) dX9_isNotSmaller_12 (by decide) ?_
  exact a_zret (pc := 16) hG hd dX9_isNotSmaller_16
theorem dX9_partingSet_0 : decode cX9_partingSet 0 = .ok (.iconst (-1), 1) := by decide +kernel
theorem dX9_partingSet_1 : decode cX9_partingSet 1 = .ok (.istore_n 2, 1) := by decide +kernel
theorem dX9_partingSet_2 : decode cX9_partingSet 2 = .ok (.aload_n 0, 1) := by decide +kernel
theorem dX9_partingSet_3 : decode cX9_partingSet 3 = .ok (.getfield 32, 3) := by decide +kernel
theorem dX9_partingSet_6 : decode cX9_partingSet 6 = .ok (.iload_n 1, 1) := by decide +kernel
theorem dX9_partingSet_7 : decode cX9_partingSet 7 = .ok (.bipush 6, 2) := by decide +kernel
theorem dX9_partingSet_9 : decode cX9_partingSet 9 = .ok (.invokevirtual 46, 3) := by decide +kernel
theorem dX9_partingSet_12 : decode cX9_partingSet 12 = .ok (.istore_n 3, 1) := by decide +kernel
theorem dX9_partingSet_13 : decode cX9_partingSet 13 = .ok (.iconst 0, 1) := by decide +kernel
theorem dX9_partingSet_14 : decode cX9_partingSet 14 = .ok (.istore 4, 2) := by decide +kernel
theorem dX9_partingSet_16 : decode cX9_partingSet 16 = .ok (.iload 4, 2) := by decide +kernel
theorem dX9_partingSet_18 : decode cX9_partingSet 18 = .ok (.aload_n 0, 1) := by decide +kernel
theorem dX9_partingSet_19 : decode cX9_partingSet 19 = .ok (.getfield 24, 3) := by decide +kernel
theorem dX9_partingSet_22 : decode cX9_partingSet 22 = .ok (.if_icmp .ge 113, 3) := by decide +kernel
theorem dX9_partingSet_25 : decode cX9_partingSet 25 = .ok (.aload_n 0, 1) := by decide +kernel
theorem dX9_partingSet_26 : decode cX9_partingSet 26 = .ok (.iload_n 1, 1) := by decide +kernel
theorem dX9_partingSet_27 : decode cX9_partingSet 27 = .ok (.iload 4, 2) := by decide +kernel
theorem dX9_partingSet_29 : decode cX9_partingSet 29 = .ok (.invokevirtual 87, 3) := by decide +kernel
theorem dX9_partingSet_32 : decode cX9_partingSet 32 = .ok (.ifCond .eq 97, 3) := by decide +kernel
theorem dX9_partingSet_35 : decode cX9_partingSet 35 = .ok (.iload_n 2, 1) := by decide +kernel
theorem dX9_partingSet_36 : decode cX9_partingSet 36 = .ok (.iconst (-1), 1) := by decide +kernel
theorem dX9_partingSet_37 : decode cX9_partingSet 37 = .ok (.if_icmp .eq 16, 3) := by decide +kernel
theorem dX9_partingSet_40 : decode cX9_partingSet 40 = .ok (.aload_n 0, 1) := by decide +kernel
theorem dX9_partingSet_41 : decode cX9_partingSet 41 = .ok (.iload 4, 2) := by decide +kernel
theorem dX9_partingSet_43 : decode cX9_partingSet 43 = .ok (.iload_n 2, 1) := by decide +kernel
theorem dX9_partingSet_44 : decode cX9_partingSet 44 = .ok (.invokevirtual 91, 3) := by decide +kernel
theorem dX9_partingSet_47 : decode cX9_partingSet 47 = .ok (.ifCond .eq 6, 3) := by decide +kernel
theorem dX9_partingSet_50 : decode cX9_partingSet 50 = .ok (.goto 79, 3) := by decide +kernel
theorem dX9_partingSet_53 : decode cX9_partingSet 53 = .ok (.aload_n 0, 1) := by decide +kernel
theorem dX9_partingSet_54 : decode cX9_partingSet 54 = .ok (.getfield 28, 3) := by decide +kernel
theorem dX9_partingSet_57 : decode cX9_partingSet 57 = .ok (.iload_n 1, 1) := by decide +kernel
theorem dX9_partingSet_58 : decode cX9_partingSet 58 = .ok (.iconst 0, 1) := by decide +kernel
theorem dX9_partingSet_59 : decode cX9_partingSet 59 = .ok (.invokevirtual 94, 3) := by decide +kernel
theorem dX9_partingSet_62 : decode cX9_partingSet 62 = .ok (.aload_n 0, 1) := by decide +kernel
theorem dX9_partingSet_63 : decode cX9_partingSet 63 = .ok (.getfield 9, 3) := by decide +kernel
theorem dX9_partingSet_66 : decode cX9_partingSet 66 = .ok (.iload_n 3, 1) := by decide +kernel
theorem dX9_partingSet_67 : decode cX9_partingSet 67 = .ok (.iaload, 1) := by decide +kernel
theorem dX9_partingSet_68 : decode cX9_partingSet 68 = .ok (.iadd, 1) := by decide +kernel
theorem dX9_partingSet_69 : decode cX9_partingSet 69 = .ok (.aload_n 0, 1) := by decide +kernel
theorem dX9_partingSet_70 : decode cX9_partingSet 70 = .ok (.getfield 9, 3) := by decide +kernel
theorem dX9_partingSet_73 : decode cX9_partingSet 73 = .ok (.iload 4, 2) := by decide +kernel
theorem dX9_partingSet_75 : decode cX9_partingSet 75 = .ok (.iaload, 1) := by decide +kernel
theorem dX9_partingSet_76 : decode cX9_partingSet 76 = .ok (.iadd, 1) := by decide +kernel
theorem dX9_partingSet_77 : decode cX9_partingSet 77 = .ok (.istore 5, 2) := by decide +kernel
theorem dX9_partingSet_79 : decode cX9_partingSet 79 = .ok (.aload_n 0, 1) := by decide +kernel
theorem dX9_partingSet_80 : decode cX9_partingSet 80 = .ok (.getfield 28, 3) := by decide +kernel
theorem dX9_partingSet_83 : decode cX9_partingSet 83 = .ok (.iload_n 1, 1) := by decide +kernel
theorem dX9_partingSet_84 : decode cX9_partingSet 84 = .ok (.iconst 1, 1) := by decide +kernel
theorem dX9_partingSet_85 : decode cX9_partingSet 85 = .ok (.invokevirtual 94, 3) := by decide +kernel
theorem dX9_partingSet_88 : decode cX9_partingSet 88 = .ok (.aload_n 0, 1) := by decide +kernel
theorem dX9_partingSet_89 : decode cX9_partingSet 89 = .ok (.getfield 15, 3) := by decide +kernel
theorem dX9_partingSet_92 : decode cX9_partingSet 92 = .ok (.iload_n 3, 1) := by decide +kernel
theorem dX9_partingSet_93 : decode cX9_partingSet 93 = .ok (.iaload, 1) := by decide +kernel
theorem dX9_partingSet_94 : decode cX9_partingSet 94 = .ok (.iadd, 1) := by decide +kernel
theorem dX9_partingSet_95 : decode cX9_partingSet 95 = .ok (.aload_n 0, 1) := by decide +kernel
theorem dX9_partingSet_96 : decode cX9_partingSet 96 = .ok (.getfield 15, 3) := by decide +kernel
theorem dX9_partingSet_99 : decode cX9_partingSet 99 = .ok (.iload 4, 2) := by decide +kernel
theorem dX9_partingSet_101 : decode cX9_partingSet 101 = .ok (.iaload, 1) := by decide +kernel
theorem dX9_partingSet_102 : decode cX9_partingSet 102 = .ok (.iadd, 1) := by decide +kernel
theorem dX9_partingSet_103 : decode cX9_partingSet 103 = .ok (.istore 6, 2) := by decide +kernel
theorem dX9_partingSet_105 : decode cX9_partingSet 105 = .ok (.aload_n 0, 1) := by decide +kernel
theorem dX9_partingSet_106 : decode cX9_partingSet 106 = .ok (.getfield 28, 3) := by decide +kernel
theorem dX9_partingSet_109 : decode cX9_partingSet 109 = .ok (.iload 5, 2) := by decide +kernel
theorem dX9_partingSet_111 : decode cX9_partingSet 111 = .ok (.iload 6, 2) := by decide +kernel
theorem dX9_partingSet_113 : decode cX9_partingSet 113 = .ok (.invokevirtual 97, 3) := by decide +kernel
theorem dX9_partingSet_116 : decode cX9_partingSet 116 = .ok (.aload_n 0, 1) := by decide +kernel
theorem dX9_partingSet_117 : decode cX9_partingSet 117 = .ok (.iload_n 1, 1) := by decide +kernel
theorem dX9_partingSet_118 : decode cX9_partingSet 118 = .ok (.iload 4, 2) := by decide +kernel
theorem dX9_partingSet_120 : decode cX9_partingSet 120 = .ok (.invokevirtual 100, 3) := by decide +kernel
theorem dX9_partingSet_123 : decode cX9_partingSet 123 = .ok (.if_icmp .eq 6, 3) := by decide +kernel
theorem dX9_partingSet_126 : decode cX9_partingSet 126 = .ok (.iload 4, 2) := by decide +kernel
theorem dX9_partingSet_128 : decode cX9_partingSet 128 = .ok (.istore_n 2, 1) := by decide +kernel
theorem dX9_partingSet_129 : decode cX9_partingSet 129 = .ok (.iinc 4 1, 3) := by decide +kernel
theorem dX9_partingSet_132 : decode cX9_partingSet 132 = .ok (.goto (-116), 3) := by decide +kernel
theorem dX9_partingSet_135 : decode cX9_partingSet 135 = .ok (.iload_n 2, 1) := by decide +kernel
theorem dX9_partingSet_136 : decode cX9_partingSet 136 = .ok (.ireturn, 1) := by decide +kernel
set_option maxHeartbeats 4000000 in
theorem w_l_Ways_partingSet_0 {ad wad : Nat → Nat} {Γ : Ctx} (F : Nat) {n : Nat} (hn : 4 ≤ n) (hG : Cx SHc ad wad cX9_partingSet 7 RX9 (some .int) (n) Γ) {q : Int32 × HS} {x1 : Int32} {x3 : Int32} {g : Nat} {x2 : Int32} {x4 : Int32} {h : HS} (hd : l_Ways_partingSet_0 F x1 x3 g x2 x4 h = some q) : AW SHc ad 7 (some (.int q.1), q.2) Γ 16 [(0, .ref (ad 31)), (1, .int x1), (2, .int x2), (3, .int x3), (4, .int x4)] [] h := by
  induction g generalizing x2 x4 h with
  | zero => unfold l_Ways_partingSet_0 at hd; cases hd
  | succ g ih =>
    unfold l_Ways_partingSet_0 at hd
    refine a_iload (pc := 16) hG 4 rfl dX9_partingSet_16 ?_
    refine a_aload_n (pc := 18) hG 0 rfl dX9_partingSet_18 rfl ?_
    refine a_getI (pc := 19) hG sc_31 cl_X9 ok_X9 6 (by decide) rfl t_294 dX9_partingSet_19 ?_
    refine a_ic_ge (pc := 22) hG (tgt := 135) hd dX9_partingSet_22 (by decide) (fun hd => ?_) (fun hd => ?_)
    · refine a_iload_n (pc := 135) hG 2 rfl dX9_partingSet_135 rfl ?_
      exact a_iret (pc := 136) hG hd dX9_partingSet_136
    refine a_aload_n (pc := 25) hG 0 rfl dX9_partingSet_25 rfl ?_
    refine a_iload_n (pc := 26) hG 1 rfl dX9_partingSet_26 rfl ?_
    refine a_iload (pc := 27) hG 4 rfl dX9_partingSet_27 ?_
    refine a_cvI (pc := 29) hG (As := [.int x1, .int x4]) (st := []) sc_31 cl_X9 mk_X9_canStillDo t_1079 (by omega) (fun z hz => c_Ways_canStillDo x1 x4 _  z hz) rfl (Nat.le_of_ble_eq_true rfl) hd dX9_partingSet_29 (fun r7 h6 hd => ?_)
    refine a_join hd (Q := fun J : Int32 → HS → Option (Int32 × HS) => ∀ (v9 : Int32) (h10 : HS), J v9 h10 = some q → AW SHc ad 7 (some (.int q.1), q.2) Γ 129 [(0, .ref (ad 31)), (1, .int x1), (2, .int v9), (3, .int x3), (4, .int x4)] [] h10) (fun v9 h10 hd => ?_) (fun J8 hJ8 hd => ?_)
    · refine a_iincN (pc := 129) hG (c0 := (nI 1)) 4 rfl hd dX9_partingSet_129 rfl (by decide) (lf := fun x => [(4, .int x), (0, .ref (ad 31)), (1, .int x1), (2, .int v9), (3, .int x3)]) (fun _ => rfl) (fun v11 hd => ?_)
      refine a_goto (pc := 132) hG (tgt := 16) dX9_partingSet_132 (by decide) ?_
      exact AW.sub [1, 2, 3, 4, 0] rfl (ih hd)
    refine a_if_eq (pc := 32) hG (tgt := 129) hd dX9_partingSet_32 (by decide) (fun hd => ?_) (fun hd => ?_)
    · exact AW.sub [0, 1, 2, 3, 4] rfl (hJ8 _ _ hd)
    refine a_iload_n (pc := 35) hG 2 rfl dX9_partingSet_35 rfl ?_
    refine a_iconst (pc := 36) hG dX9_partingSet_36 (v := (-1 : Int32)) rfl ?_
    refine a_join hd (Q := fun J : HS → Option (Int32 × HS) => ∀  (h13 : HS), J  h13 = some q → AW SHc ad 7 (some (.int q.1), q.2) Γ 53 [(0, .ref (ad 31)), (1, .int x1), (2, .int x2), (3, .int x3), (4, .int x4)] [] h13) (fun  h13 hd => ?_) (fun J12 hJ12 hd => ?_)
    · refine a_aload_n (pc := 53) hG 0 rfl dX9_partingSet_53 rfl ?_
      refine a_getR (pc := 54) hG sc_31 cl_X9 ok_X9 0 (by decide) rfl t_288 dX9_partingSet_54 ?_
      refine a_iload_n (pc := 57) hG 1 rfl dX9_partingSet_57 rfl ?_
      refine a_iconst (pc := 58) hG dX9_partingSet_58 (v := (nI 0)) rfl ?_
      refine a_cvI (pc := 59) hG (As := [.int x1, .int (nI 0)]) (st := []) sc_3 cl_X5 mk_X5_ofRumour t_1084 (by omega) (fun z hz => c_Plan_ofRumour_3 x1 (nI 0) _  z hz) rfl (Nat.le_of_ble_eq_true rfl) hd dX9_partingSet_59 (fun r15 h14 hd => ?_)
      refine a_aload_n (pc := 62) hG 0 rfl dX9_partingSet_62 rfl ?_
      refine a_getR (pc := 63) hG sc_31 cl_X9 ok_X9 2 (by decide) rfl t_290 dX9_partingSet_63 ?_
      refine a_iload_n (pc := 66) hG 3 rfl dX9_partingSet_66 rfl ?_
      refine a_iald (pc := 67) hG sc_32 hd dX9_partingSet_67 (fun hd => ?_)
      refine a_iadd (pc := 68) hG dX9_partingSet_68 ?_
      refine a_aload_n (pc := 69) hG 0 rfl dX9_partingSet_69 rfl ?_
      refine a_getR (pc := 70) hG sc_31 cl_X9 ok_X9 2 (by decide) rfl t_290 dX9_partingSet_70 ?_
      refine a_iload (pc := 73) hG 4 rfl dX9_partingSet_73 ?_
      refine a_iald (pc := 75) hG sc_32 hd dX9_partingSet_75 (fun hd => ?_)
      refine a_iadd (pc := 76) hG dX9_partingSet_76 ?_
      refine a_istoreN (pc := 77) hG hd dX9_partingSet_77 (by decide) (lf := fun x => [(5, .int x), (0, .ref (ad 31)), (1, .int x1), (2, .int x2), (3, .int x3), (4, .int x4)]) (fun _ => rfl) (fun v16 hd => ?_)
      refine a_aload_n (pc := 79) hG 1 rfl dX9_partingSet_79 rfl ?_
      refine a_getR (pc := 80) hG sc_31 cl_X9 ok_X9 0 (by decide) rfl t_288 dX9_partingSet_80 ?_
      refine a_iload_n (pc := 83) hG 2 rfl dX9_partingSet_83 rfl ?_
      refine a_iconst (pc := 84) hG dX9_partingSet_84 (v := (nI 1)) rfl ?_
      refine a_cvI (pc := 85) hG (As := [.int x1, .int (nI 1)]) (st := []) sc_3 cl_X5 mk_X5_ofRumour t_1084 (by omega) (fun z hz => c_Plan_ofRumour_3 x1 (nI 1) _  z hz) rfl (Nat.le_of_ble_eq_true rfl) hd dX9_partingSet_85 (fun r18 h17 hd => ?_)
      refine a_aload_n (pc := 88) hG 1 rfl dX9_partingSet_88 rfl ?_
      refine a_getR (pc := 89) hG sc_31 cl_X9 ok_X9 3 (by decide) rfl t_291 dX9_partingSet_89 ?_
      refine a_iload_n (pc := 92) hG 4 rfl dX9_partingSet_92 rfl ?_
      refine a_iald (pc := 93) hG sc_33 hd dX9_partingSet_93 (fun hd => ?_)
      refine a_iadd (pc := 94) hG dX9_partingSet_94 ?_
      refine a_aload_n (pc := 95) hG 1 rfl dX9_partingSet_95 rfl ?_
      refine a_getR (pc := 96) hG sc_31 cl_X9 ok_X9 3 (by decide) rfl t_291 dX9_partingSet_96 ?_
      refine a_iload (pc := 99) hG 5 rfl dX9_partingSet_99 ?_
      refine a_iald (pc := 101) hG sc_33 hd dX9_partingSet_101 (fun hd => ?_)
      refine a_iadd (pc := 102) hG dX9_partingSet_102 ?_
      refine a_istoreN (pc := 103) hG hd dX9_partingSet_103 (by decide) (lf := fun x => [(6, .int x), (5, .int v16), (0, .ref (ad 31)), (1, .int x1), (2, .int x2), (3, .int x3), (4, .int x4)]) (fun _ => rfl) (fun v19 hd => ?_)
      refine a_aload_n (pc := 105) hG 2 rfl dX9_partingSet_105 rfl ?_
      refine a_getR (pc := 106) hG sc_31 cl_X9 ok_X9 0 (by decide) rfl t_288 dX9_partingSet_106 ?_
      refine a_iload (pc := 109) hG 1 rfl dX9_partingSet_109 ?_
      refine a_iload (pc := 111) hG 0 rfl dX9_partingSet_111 ?_
      refine a_cvI (pc := 113) hG (As := [.int v16, .int v19]) (st := []) sc_3 cl_X5 mk_X5_isSafe t_954 (by omega) (fun z hz => c_Plan_isSafe_3 v16 v19 _  z hz) rfl (Nat.le_of_ble_eq_true rfl) hd dX9_partingSet_113 (fun r21 h20 hd => ?_)
      refine a_aload_n (pc := 116) hG 2 rfl dX9_partingSet_116 rfl ?_
      refine a_iload_n (pc := 117) hG 3 rfl dX9_partingSet_117 rfl ?_
      refine a_iload (pc := 118) hG 6 rfl dX9_partingSet_118 ?_
      refine a_cvI (pc := 120) hG (As := [.int x1, .int x4]) (st := [.int r21]) sc_31 cl_X9 mk_X9_isSafeBehind t_1088 (by omega) (fun z hz => c_Ways_isSafeBehind x1 x4 _  z hz) rfl (Nat.le_of_ble_eq_true rfl) hd dX9_partingSet_120 (fun r23 h22 hd => ?_)
      refine a_ic_eq (pc := 123) hG (tgt := 129) hd dX9_partingSet_123 (by decide) (fun hd => ?_) (fun hd => ?_)
      · exact AW.sub [2, 3, 4, 5, 6] rfl (hJ8 _ _ hd)
      refine a_iload (pc := 126) hG 6 rfl dX9_partingSet_126 ?_
      refine a_istore_nN (pc := 128) hG hd dX9_partingSet_128 rfl (by decide) (lf := fun x => [(2, .int x), (6, .int v19), (5, .int v16), (0, .ref (ad 31)), (1, .int x1), (3, .int x3), (4, .int x4)]) (fun _ => rfl) (fun v24 hd => ?_)
      exact AW.sub [3, 4, 0, 5, 6] rfl (hJ8 _ _ hd)
    refine a_ic_eq (pc := 37) hG (tgt := 53) hd dX9_partingSet_37 (by decide) (fun hd => ?_) (fun hd => ?_)
    · exact AW.sub [0, 1, 2, 3, 4] rfl (hJ12  _ hd)
    refine a_aload_n (pc := 40) hG 0 rfl dX9_partingSet_40 rfl ?_
    refine a_iload (pc := 41) hG 4 rfl dX9_partingSet_41 ?_
    refine a_iload_n (pc := 43) hG 2 rfl dX9_partingSet_43 rfl ?_
    refine a_cvI (pc := 44) hG (As := [.int x4, .int x2]) (st := []) sc_31 cl_X9 mk_X9_isNotSmaller t_1080 (by omega) (fun z hz => c_Ways_isNotSmaller x4 x2 _  z hz) rfl (Nat.le_of_ble_eq_true rfl) hd dX9_partingSet_44 (fun r26 h25 hd => ?_)
    refine a_if_eq (pc := 47) hG (tgt := 53) hd dX9_partingSet_47 (by decide) (fun hd => ?_) (fun hd => ?_)
    · exact AW.sub [0, 1, 2, 3, 4] rfl (hJ12  _ hd)
    refine a_goto (pc := 50) hG (tgt := 129) dX9_partingSet_50 (by decide) ?_
    exact AW.sub [0, 1, 2, 3, 4] rfl (hJ8 _ _ hd)
set_option maxHeartbeats 4000000 in
theorem c_Ways_partingSet {ad wad : Nat → Nat} (F : Nat) (a0 : Int32) (h : HS)  (q : Int32 × HS) (hd : f_Ways_partingSet F a0 h = some q) : Ctr SHc ad wad yX9_partingSet cX9_partingSet 7 (some .int) 4 [.ref (ad 31), .int a0] h (some (.int q.1), q.2) := by
  refine enter (own := RX9) (lv := [(0, .ref (ad 31)), (1, .int a0)]) (by decide +kernel) rfl (Nat.le_of_ble_eq_true rfl) rfl (fun Γ hG => ?_)
  unfold f_Ways_partingSet at hd
  refine a_iconst (pc := 0) hG dX9_partingSet_0 (v := (-1 : Int32)) rfl ?_
  refine a_istore_nN (pc := 1) hG hd dX9_partingSet_1 rfl (by decide) (lf := fun x => [(2, .int x), (0, .ref (ad 31)), (1, .int a0)]) (fun _ => rfl) (fun v1 hd => ?_)
  refine a_aload_n (pc := 2) hG 1 rfl dX9_partingSet_2 rfl ?_
  refine a_getR (pc := 3) hG sc_31 cl_X9 ok_X9 1 (by decide) rfl t_289 dX9_partingSet_3 ?_
  refine a_iload_n (pc := 6) hG 2 rfl dX9_partingSet_6 rfl ?_
  refine a_bipush (pc := 7) hG dX9_partingSet_7 (v := (nI 6)) rfl ?_
  refine a_cvI (pc := 9) hG (As := [.int a0, .int (nI 6)]) (st := []) sc_20 cl_X0 mk_X0_ofCause t_953 (by omega) (fun z hz => c_Desk_ofCause a0 (nI 6) _  z hz) rfl (Nat.le_of_ble_eq_true rfl) hd dX9_partingSet_9 (fun r3 h2 hd => ?_)
  refine a_istore_nN (pc := 12) hG hd dX9_partingSet_12 rfl (by decide) (lf := fun x => [(3, .int x), (2, .int v1), (0, .ref (ad 31)), (1, .int a0)]) (fun _ => rfl) (fun v4 hd => ?_)
  refine a_iconst (pc := 13) hG dX9_partingSet_13 (v := (nI 0)) rfl ?_
  refine a_istoreN (pc := 14) hG hd dX9_partingSet_14 (by decide) (lf := fun x => [(4, .int x), (3, .int v4), (2, .int v1), (0, .ref (ad 31)), (1, .int a0)]) (fun _ => rfl) (fun v5 hd => ?_)
  refine AW.sub [3, 4, 2, 1, 0] rfl ?_
  exact w_l_Ways_partingSet_0 F (by omega) hG hd
theorem dX11_parts_0 : decode cX11_parts 0 = .ok (.aload_n 0, 1) := by decide +kernel
theorem dX11_parts_1 : decode cX11_parts 1 = .ok (.getfield 19, 3) := by decide +kernel
theorem dX11_parts_4 : decode cX11_parts 4 = .ok (.iload_n 1, 1) := by decide +kernel
theorem dX11_parts_5 : decode cX11_parts 5 = .ok (.invokevirtual 253, 3) := by decide +kernel
theorem dX11_parts_8 : decode cX11_parts 8 = .ok (.ifCond .eq 14, 3) := by decide +kernel
theorem dX11_parts_11 : decode cX11_parts 11 = .ok (.aload_n 0, 1) := by decide +kernel
theorem dX11_parts_12 : decode cX11_parts 12 = .ok (.getfield 49, 3) := by decide +kernel
theorem dX11_parts_15 : decode cX11_parts 15 = .ok (.iload_n 1, 1) := by decide +kernel
theorem dX11_parts_16 : decode cX11_parts 16 = .ok (.invokevirtual 256, 3) := by decide +kernel
theorem dX11_parts_19 : decode cX11_parts 19 = .ok (.goto 4, 3) := by decide +kernel
theorem dX11_parts_22 : decode cX11_parts 22 = .ok (.iconst (-1), 1) := by decide +kernel
theorem dX11_parts_23 : decode cX11_parts 23 = .ok (.ireturn, 1) := by decide +kernel
set_option maxHeartbeats 4000000 in
theorem c_LC_parts {ad wad : Nat → Nat} (F : Nat) (a0 : Int32) (h : HS)  (q : Int32 × HS) (hd : f_LC_parts F a0 h = some q) : Ctr SHc ad wad yX11_parts cX11_parts 2 (some .int) 5 [.ref (ad 0), .int a0] h (some (.int q.1), q.2) := by
  refine enter (own := RX11) (lv := [(0, .ref (ad 0)), (1, .int a0)]) (by decide +kernel) rfl (Nat.le_of_ble_eq_true rfl) rfl (fun Γ hG => ?_)
  unfold f_LC_parts at hd
  refine a_aload_n (pc := 0) hG 0 rfl dX11_parts_0 rfl ?_
  refine a_getR (pc := 1) hG sc_0 cl_X11 ok_X11 1 (by decide) rfl t_482 dX11_parts_1 ?_
  refine a_iload_n (pc := 4) hG 1 rfl dX11_parts_4 rfl ?_
  refine a_cvI (pc := 5) hG (As := [.int a0]) (st := []) sc_3 cl_X5 mk_X5_hasRumour t_1074 (by omega) (fun z hz => c_Plan_hasRumour_3 a0 _  z hz) rfl (Nat.le_of_ble_eq_true rfl) hd dX11_parts_5 (fun r2 h1 hd => ?_)
  refine a_if_eq (pc := 8) hG (tgt := 22) hd dX11_parts_8 (by decide) (fun hd => ?_) (fun hd => ?_)
  · refine a_iconst (pc := 22) hG dX11_parts_22 (v := (-1 : Int32)) rfl ?_
    exact a_iret (pc := 23) hG hd dX11_parts_23
  refine a_aload_n (pc := 11) hG 0 rfl dX11_parts_11 rfl ?_
  refine a_getR (pc := 12) hG sc_0 cl_X11 ok_X11 5 (by decide) rfl t_486 dX11_parts_12 ?_
  refine a_iload_n (pc := 15) hG 1 rfl dX11_parts_15 rfl ?_
  refine a_cvI (pc := 16) hG (As := [.int a0]) (st := []) sc_31 cl_X9 mk_X9_partingSet t_1075 (by omega) (fun z hz => c_Ways_partingSet F a0 _  z hz) rfl (Nat.le_of_ble_eq_true rfl) hd dX11_parts_16 (fun r4 h3 hd => ?_)
  refine a_goto (pc := 19) hG (tgt := 23) dX11_parts_19 (by decide) ?_
  exact a_iret (pc := 23) hG hd dX11_parts_23
