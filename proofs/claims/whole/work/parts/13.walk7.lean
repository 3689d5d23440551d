theorem dX4_readLine_0 : decode cX4_readLine 0 = .ok (.aload_n 0, 1) := by decide +kernel
theorem dX4_readLine_1 : decode cX4_readLine 1 = .ok (.getfield 9, 3) := by decide +kernel
theorem dX4_readLine_4 : decode cX4_readLine 4 = .ok (.getstatic 48, 3) := by decide +kernel
theorem dX4_readLine_7 : decode cX4_readLine 7 = .ok (.invokevirtual 54, 3) := by decide +kernel
theorem dX4_readLine_10 : decode cX4_readLine 10 = .ok (.ifCond .eq 8, 3) := by decide +kernel
theorem dX4_readLine_13 : decode cX4_readLine 13 = .ok (.aload_n 0, 1) := by decide +kernel
theorem dX4_readLine_14 : decode cX4_readLine 14 = .ok (.invokevirtual 58, 3) := by decide +kernel
theorem dX4_readLine_17 : decode cX4_readLine 17 = .ok (.ireturn, 1) := by decide +kernel
theorem dX4_readLine_18 : decode cX4_readLine 18 = .ok (.aload_n 0, 1) := by decide +kernel
theorem dX4_readLine_19 : decode cX4_readLine 19 = .ok (.getfield 9, 3) := by decide +kernel
theorem dX4_readLine_22 : decode cX4_readLine 22 = .ok (.getstatic 61, 3) := by decide +kernel
theorem dX4_readLine_25 : decode cX4_readLine 25 = .ok (.invokevirtual 54, 3) := by decide +kernel
theorem dX4_readLine_28 : decode cX4_readLine 28 = .ok (.ifCond .eq 8, 3) := by decide +kernel
theorem dX4_readLine_31 : decode cX4_readLine 31 = .ok (.aload_n 0, 1) := by decide +kernel
theorem dX4_readLine_32 : decode cX4_readLine 32 = .ok (.invokevirtual 64, 3) := by decide +kernel
theorem dX4_readLine_35 : decode cX4_readLine 35 = .ok (.ireturn, 1) := by decide +kernel
theorem dX4_readLine_36 : decode cX4_readLine 36 = .ok (.aload_n 0, 1) := by decide +kernel
theorem dX4_readLine_37 : decode cX4_readLine 37 = .ok (.getfield 9, 3) := by decide +kernel
theorem dX4_readLine_40 : decode cX4_readLine 40 = .ok (.getstatic 67, 3) := by decide +kernel
theorem dX4_readLine_43 : decode cX4_readLine 43 = .ok (.invokevirtual 54, 3) := by decide +kernel
theorem dX4_readLine_46 : decode cX4_readLine 46 = .ok (.ifCond .eq 8, 3) := by decide +kernel
theorem dX4_readLine_49 : decode cX4_readLine 49 = .ok (.aload_n 0, 1) := by decide +kernel
theorem dX4_readLine_50 : decode cX4_readLine 50 = .ok (.invokevirtual 70, 3) := by decide +kernel
theorem dX4_readLine_53 : decode cX4_readLine 53 = .ok (.ireturn, 1) := by decide +kernel
theorem dX4_readLine_54 : decode cX4_readLine 54 = .ok (.aload_n 0, 1) := by decide +kernel
theorem dX4_readLine_55 : decode cX4_readLine 55 = .ok (.getfield 9, 3) := by decide +kernel
theorem dX4_readLine_58 : decode cX4_readLine 58 = .ok (.getstatic 73, 3) := by decide +kernel
theorem dX4_readLine_61 : decode cX4_readLine 61 = .ok (.invokevirtual 54, 3) := by decide +kernel
theorem dX4_readLine_64 : decode cX4_readLine 64 = .ok (.ifCond .eq 8, 3) := by decide +kernel
theorem dX4_readLine_67 : decode cX4_readLine 67 = .ok (.aload_n 0, 1) := by decide +kernel
theorem dX4_readLine_68 : decode cX4_readLine 68 = .ok (.invokevirtual 76, 3) := by decide +kernel
theorem dX4_readLine_71 : decode cX4_readLine 71 = .ok (.ireturn, 1) := by decide +kernel
theorem dX4_readLine_72 : decode cX4_readLine 72 = .ok (.aload_n 0, 1) := by decide +kernel
theorem dX4_readLine_73 : decode cX4_readLine 73 = .ok (.getfield 9, 3) := by decide +kernel
theorem dX4_readLine_76 : decode cX4_readLine 76 = .ok (.getstatic 79, 3) := by decide +kernel
theorem dX4_readLine_79 : decode cX4_readLine 79 = .ok (.invokevirtual 54, 3) := by decide +kernel
theorem dX4_readLine_82 : decode cX4_readLine 82 = .ok (.ifCond .eq 8, 3) := by decide +kernel
theorem dX4_readLine_85 : decode cX4_readLine 85 = .ok (.aload_n 0, 1) := by decide +kernel
theorem dX4_readLine_86 : decode cX4_readLine 86 = .ok (.invokevirtual 82, 3) := by decide +kernel
theorem dX4_readLine_89 : decode cX4_readLine 89 = .ok (.ireturn, 1) := by decide +kernel
theorem dX4_readLine_90 : decode cX4_readLine 90 = .ok (.aload_n 0, 1) := by decide +kernel
theorem dX4_readLine_91 : decode cX4_readLine 91 = .ok (.getfield 9, 3) := by decide +kernel
theorem dX4_readLine_94 : decode cX4_readLine 94 = .ok (.getstatic 85, 3) := by decide +kernel
theorem dX4_readLine_97 : decode cX4_readLine 97 = .ok (.invokevirtual 54, 3) := by decide +kernel
theorem dX4_readLine_100 : decode cX4_readLine 100 = .ok (.ifCond .eq 8, 3) := by decide +kernel
theorem dX4_readLine_103 : decode cX4_readLine 103 = .ok (.aload_n 0, 1) := by decide +kernel
theorem dX4_readLine_104 : decode cX4_readLine 104 = .ok (.invokevirtual 88, 3) := by decide +kernel
theorem dX4_readLine_107 : decode cX4_readLine 107 = .ok (.ireturn, 1) := by decide +kernel
theorem dX4_readLine_108 : decode cX4_readLine 108 = .ok (.aload_n 0, 1) := by decide +kernel
theorem dX4_readLine_109 : decode cX4_readLine 109 = .ok (.getfield 9, 3) := by decide +kernel
theorem dX4_readLine_112 : decode cX4_readLine 112 = .ok (.iconst 1, 1) := by decide +kernel
theorem dX4_readLine_113 : decode cX4_readLine 113 = .ok (.invokevirtual 91, 3) := by decide +kernel
theorem dX4_readLine_116 : decode cX4_readLine 116 = .ok (.ireturn, 1) := by decide +kernel
set_option maxHeartbeats 4000000 in
theorem c_OffR_readLine {ad wad : Nat → Nat} (F : Nat)  (h : HS)  (q : Int32 × HS) (hd : f_OffR_readLine F  h = some q) : Ctr SHc ad wad yX4_readLine cX4_readLine 1 (some .boolean) 6 [.ref (ad 19)] h (some (.int q.1), q.2) := by
  refine enter (own := RX4) (lv := [(0, .ref (ad 19))]) (by decide +kernel) rfl (Nat.le_of_ble_eq_true rfl) rfl (fun Γ hG => ?_)
  unfold f_OffR_readLine at hd
  refine a_aload_n (pc := 0) hG 0 rfl dX4_readLine_0 rfl ?_
  refine a_getR (pc := 1) hG sc_19 cl_X4 ok_X4 0 (by decide) rfl t_245 dX4_readLine_1 ?_
  refine a_gsW (pc := 4) hG 0 (by decide) t_600 dX4_readLine_4 ?_
  refine a_cvI (pc := 7) hG (As := [.ref (wad 0)]) (st := []) sc_1 cl_X8 mk_X8_isWord t_602 (by omega) (fun z hz => c_Tape_isWord 0 _ (by decide) z hz) rfl (Nat.le_of_ble_eq_true rfl) hd dX4_readLine_7 (fun r2 h1 hd => ?_)
  refine a_if_eq (pc := 10) hG (tgt := 18) hd dX4_readLine_10 (by decide) (fun hd => ?_) (fun hd => ?_)
  · refine a_aload_n (pc := 18) hG 0 rfl dX4_readLine_18 rfl ?_
    refine a_getR (pc := 19) hG sc_19 cl_X4 ok_X4 0 (by decide) rfl t_245 dX4_readLine_19 ?_
    refine a_gsW (pc := 22) hG 1 (by decide) t_632 dX4_readLine_22 ?_
    refine a_cvI (pc := 25) hG (As := [.ref (wad 1)]) (st := []) sc_1 cl_X8 mk_X8_isWord t_602 (by omega) (fun z hz => c_Tape_isWord 1 _ (by decide) z hz) rfl (Nat.le_of_ble_eq_true rfl) hd dX4_readLine_25 (fun r4 h3 hd => ?_)
    refine a_if_eq (pc := 28) hG (tgt := 36) hd dX4_readLine_28 (by decide) (fun hd => ?_) (fun hd => ?_)
    · refine a_aload_n (pc := 36) hG 0 rfl dX4_readLine_36 rfl ?_
      refine a_getR (pc := 37) hG sc_19 cl_X4 ok_X4 0 (by decide) rfl t_245 dX4_readLine_37 ?_
      refine a_gsW (pc := 40) hG 2 (by decide) t_642 dX4_readLine_40 ?_
      refine a_cvI (pc := 43) hG (As := [.ref (wad 2)]) (st := []) sc_1 cl_X8 mk_X8_isWord t_602 (by omega) (fun z hz => c_Tape_isWord 2 _ (by decide) z hz) rfl (Nat.le_of_ble_eq_true rfl) hd dX4_readLine_43 (fun r6 h5 hd => ?_)
      refine a_if_eq (pc := 46) hG (tgt := 54) hd dX4_readLine_46 (by decide) (fun hd => ?_) (fun hd => ?_)
      · refine a_aload_n (pc := 54) hG 0 rfl dX4_readLine_54 rfl ?_
        refine a_getR (pc := 55) hG sc_19 cl_X4 ok_X4 0 (by decide) rfl t_245 dX4_readLine_55 ?_
        refine a_gsW (pc := 58) hG 3 (by decide) t_693 dX4_readLine_58 ?_
        refine a_cvI (pc := 61) hG (As := [.ref (wad 3)]) (st := []) sc_1 cl_X8 mk_X8_isWord t_602 (by omega) (fun z hz => c_Tape_isWord 3 _ (by decide) z hz) rfl (Nat.le_of_ble_eq_true rfl) hd dX4_readLine_61 (fun r8 h7 hd => ?_)
        refine a_if_eq (pc := 64) hG (tgt := 72) hd dX4_readLine_64 (by decide) (fun hd => ?_) (fun hd => ?_)
        · refine a_aload_n (pc := 72) hG 0 rfl dX4_readLine_72 rfl ?_
          refine a_getR (pc := 73) hG sc_19 cl_X4 ok_X4 0 (by decide) rfl t_245 dX4_readLine_73 ?_
          refine a_gsW (pc := 76) hG 4 (by decide) t_712 dX4_readLine_76 ?_
          refine a_cvI (pc := 79) hG (As := [.ref (wad 4)]) (st := []) sc_1 cl_X8 mk_X8_isWord t_602 (by omega) (fun z hz => c_Tape_isWord 4 _ (by decide) z hz) rfl (Nat.le_of_ble_eq_true rfl) hd dX4_readLine_79 (fun r10 h9 hd => ?_)
          refine a_if_eq (pc := 82) hG (tgt := 90) hd dX4_readLine_82 (by decide) (fun hd => ?_) (fun hd => ?_)
          · refine a_aload_n (pc := 90) hG 0 rfl dX4_readLine_90 rfl ?_
            refine a_getR (pc := 91) hG sc_19 cl_X4 ok_X4 0 (by decide) rfl t_245 dX4_readLine_91 ?_
            refine a_gsW (pc := 94) hG 5 (by decide) t_727 dX4_readLine_94 ?_
            refine a_cvI (pc := 97) hG (As := [.ref (wad 5)]) (st := []) sc_1 cl_X8 mk_X8_isWord t_602 (by omega) (fun z hz => c_Tape_isWord 5 _ (by decide) z hz) rfl (Nat.le_of_ble_eq_true rfl) hd dX4_readLine_97 (fun r12 h11 hd => ?_)
            refine a_if_eq (pc := 100) hG (tgt := 108) hd dX4_readLine_100 (by decide) (fun hd => ?_) (fun hd => ?_)
            · refine a_aload_n (pc := 108) hG 0 rfl dX4_readLine_108 rfl ?_
              refine a_getR (pc := 109) hG sc_19 cl_X4 ok_X4 0 (by decide) rfl t_245 dX4_readLine_109 ?_
              refine a_iconst (pc := 112) hG dX4_readLine_112 (v := (nI 1)) rfl ?_
              refine a_cvI (pc := 113) hG (As := [.int (nI 1)]) (st := []) sc_1 cl_X8 mk_X8_fail t_614 (by omega) (fun z hz => c_Tape_fail (nI 1) _  z hz) rfl (Nat.le_of_ble_eq_true rfl) hd dX4_readLine_113 (fun r14 h13 hd => ?_)
              exact a_zret (pc := 116) hG hd dX4_readLine_116
            refine a_aload_n (pc := 103) hG 0 rfl dX4_readLine_103 rfl ?_
            refine a_cvI (pc := 104) hG (As := []) (st := []) sc_19 cl_X4 mk_X4_readClerk t_729 (by omega) (fun z hz => c_OffR_readClerk F  _  z hz) rfl (Nat.le_of_ble_eq_true rfl) hd dX4_readLine_104 (fun r16 h15 hd => ?_)
            exact a_zret (pc := 107) hG hd dX4_readLine_107
          refine a_aload_n (pc := 85) hG 0 rfl dX4_readLine_85 rfl ?_
          refine a_cvI (pc := 86) hG (As := []) (st := []) sc_19 cl_X4 mk_X4_readDeed t_714 (by omega) (fun z hz => c_OffR_readDeed F  _  z hz) rfl (Nat.le_of_ble_eq_true rfl) hd dX4_readLine_86 (fun r18 h17 hd => ?_)
          exact a_zret (pc := 89) hG hd dX4_readLine_89
        refine a_aload_n (pc := 67) hG 0 rfl dX4_readLine_67 rfl ?_
        refine a_cvI (pc := 68) hG (As := []) (st := []) sc_19 cl_X4 mk_X4_readRumour t_695 (by omega) (fun z hz => c_OffR_readRumour F  _  z hz) rfl (Nat.le_of_ble_eq_true rfl) hd dX4_readLine_68 (fun r20 h19 hd => ?_)
        exact a_zret (pc := 71) hG hd dX4_readLine_71
      refine a_aload_n (pc := 49) hG 0 rfl dX4_readLine_49 rfl ?_
      refine a_cvI (pc := 50) hG (As := []) (st := []) sc_19 cl_X4 mk_X4_readCause t_644 (by omega) (fun z hz => c_OffR_readCause F  _  z hz) rfl (Nat.le_of_ble_eq_true rfl) hd dX4_readLine_50 (fun r22 h21 hd => ?_)
      exact a_zret (pc := 53) hG hd dX4_readLine_53
    refine a_aload_n (pc := 31) hG 0 rfl dX4_readLine_31 rfl ?_
    refine a_cvI (pc := 32) hG (As := []) (st := []) sc_19 cl_X4 mk_X4_readCoin t_634 (by omega) (fun z hz => c_OffR_readCoin F  _  z hz) rfl (Nat.le_of_ble_eq_true rfl) hd dX4_readLine_32 (fun r24 h23 hd => ?_)
    exact a_zret (pc := 35) hG hd dX4_readLine_35
  refine a_aload_n (pc := 13) hG 0 rfl dX4_readLine_13 rfl ?_
  refine a_cvI (pc := 14) hG (As := []) (st := []) sc_19 cl_X4 mk_X4_readBounds t_610 (by omega) (fun z hz => c_OffR_readBounds F  _  z hz) rfl (Nat.le_of_ble_eq_true rfl) hd dX4_readLine_14 (fun r26 h25 hd => ?_)
  exact a_zret (pc := 17) hG hd dX4_readLine_17
theorem dX8_takeSign_0 : decode cX8_takeSign 0 = .ok (.aload_n 0, 1) := by decide +kernel
theorem dX8_takeSign_1 : decode cX8_takeSign 1 = .ok (.getfield 28, 3) := by decide +kernel
theorem dX8_takeSign_4 : decode cX8_takeSign 4 = .ok (.iload_n 1, 1) := by decide +kernel
theorem dX8_takeSign_5 : decode cX8_takeSign 5 = .ok (.if_icmp .eq 9, 3) := by decide +kernel
theorem dX8_takeSign_8 : decode cX8_takeSign 8 = .ok (.aload_n 0, 1) := by decide +kernel
theorem dX8_takeSign_9 : decode cX8_takeSign 9 = .ok (.iconst 1, 1) := by decide +kernel
theorem dX8_takeSign_10 : decode cX8_takeSign 10 = .ok (.invokevirtual 67, 3) := by decide +kernel
theorem dX8_takeSign_13 : decode cX8_takeSign 13 = .ok (.ireturn, 1) := by decide +kernel
theorem dX8_takeSign_14 : decode cX8_takeSign 14 = .ok (.aload_n 0, 1) := by decide +kernel
theorem dX8_takeSign_15 : decode cX8_takeSign 15 = .ok (.invokevirtual 51, 3) := by decide +kernel
theorem dX8_takeSign_18 : decode cX8_takeSign 18 = .ok (.iconst 1, 1) := by decide +kernel
theorem dX8_takeSign_19 : decode cX8_takeSign 19 = .ok (.ireturn, 1) := by decide +kernel
set_option maxHeartbeats 4000000 in
theorem c_Tape_takeSign {ad wad : Nat → Nat} (F : Nat) (a0 : Int32) (h : HS)  (q : Int32 × HS) (hd : f_Tape_takeSign F a0 h = some q) : Ctr SHc ad wad yX8_takeSign cX8_takeSign 2 (some .boolean) 3 [.ref (ad 1), .int a0] h (some (.int q.1), q.2) := by
  refine enter (own := RX8) (lv := [(0, .ref (ad 1)), (1, .int a0)]) (by decide +kernel) rfl (Nat.le_of_ble_eq_true rfl) rfl (fun Γ hG => ?_)
  unfold f_Tape_takeSign at hd
  refine a_aload_n (pc := 0) hG 0 rfl dX8_takeSign_0 rfl ?_
  refine a_getI (pc := 1) hG sc_1 cl_X8 ok_X8 5 (by decide) rfl t_161 dX8_takeSign_1 ?_
  refine a_iload_n (pc := 4) hG 1 rfl dX8_takeSign_4 rfl ?_
  refine a_ic_eq (pc := 5) hG (tgt := 14) hd dX8_takeSign_5 (by decide) (fun hd => ?_) (fun hd => ?_)
  · refine a_aload_n (pc := 14) hG 0 rfl dX8_takeSign_14 rfl ?_
    refine a_cvN (pc := 15) hG (As := []) (st := []) sc_1 cl_X8 mk_X8_advance t_573 (by omega) (fun z hz => c_Tape_advance F  _  z hz) rfl (Nat.le_of_ble_eq_true rfl) hd dX8_takeSign_15 (fun _ h1 hd => ?_)
    refine a_iconst (pc := 18) hG dX8_takeSign_18 (v := (nI 1)) rfl ?_
    exact a_zret (pc := 19) hG hd dX8_takeSign_19
  refine a_aload_n (pc := 8) hG 0 rfl dX8_takeSign_8 rfl ?_
  refine a_iconst (pc := 9) hG dX8_takeSign_9 (v := (nI 1)) rfl ?_
  refine a_cvI (pc := 10) hG (As := [.int (nI 1)]) (st := []) sc_1 cl_X8 mk_X8_fail t_623 (by omega) (fun z hz => c_Tape_fail (nI 1) _  z hz) rfl (Nat.le_of_ble_eq_true rfl) hd dX8_takeSign_10 (fun r3 h2 hd => ?_)
  exact a_zret (pc := 13) hG hd dX8_takeSign_13
theorem dX4_read_0 : decode cX4_read 0 = .ok (.aload_n 0, 1) := by decide +kernel
theorem dX4_read_1 : decode cX4_read 1 = .ok (.getfield 15, 3) := by decide +kernel
theorem dX4_read_4 : decode cX4_read 4 = .ok (.invokevirtual 19, 3) := by decide +kernel
theorem dX4_read_7 : decode cX4_read 7 = .ok (.aload_n 0, 1) := by decide +kernel
theorem dX4_read_8 : decode cX4_read 8 = .ok (.iconst 0, 1) := by decide +kernel
theorem dX4_read_9 : decode cX4_read 9 = .ok (.putfield 24, 3) := by decide +kernel
theorem dX4_read_12 : decode cX4_read 12 = .ok (.aload_n 0, 1) := by decide +kernel
theorem dX4_read_13 : decode cX4_read 13 = .ok (.iconst 0, 1) := by decide +kernel
theorem dX4_read_14 : decode cX4_read 14 = .ok (.putfield 28, 3) := by decide +kernel
theorem dX4_read_17 : decode cX4_read 17 = .ok (.aload_n 0, 1) := by decide +kernel
theorem dX4_read_18 : decode cX4_read 18 = .ok (.getfield 9, 3) := by decide +kernel
theorem dX4_read_21 : decode cX4_read 21 = .ok (.sipush 900, 3) := by decide +kernel
theorem dX4_read_24 : decode cX4_read 24 = .ok (.invokevirtual 31, 3) := by decide +kernel
theorem dX4_read_27 : decode cX4_read 27 = .ok (.iconst 0, 1) := by decide +kernel
theorem dX4_read_28 : decode cX4_read 28 = .ok (.istore_n 1, 1) := by decide +kernel
theorem dX4_read_29 : decode cX4_read 29 = .ok (.iload_n 1, 1) := by decide +kernel
theorem dX4_read_30 : decode cX4_read 30 = .ok (.sipush 900, 3) := by decide +kernel
theorem dX4_read_33 : decode cX4_read 33 = .ok (.if_icmp .ge 42, 3) := by decide +kernel
theorem dX4_read_36 : decode cX4_read 36 = .ok (.aload_n 0, 1) := by decide +kernel
theorem dX4_read_37 : decode cX4_read 37 = .ok (.getfield 9, 3) := by decide +kernel
theorem dX4_read_40 : decode cX4_read 40 = .ok (.invokevirtual 37, 3) := by decide +kernel
theorem dX4_read_43 : decode cX4_read 43 = .ok (.ifCond .eq 5, 3) := by decide +kernel
theorem dX4_read_46 : decode cX4_read 46 = .ok (.iload_n 1, 1) := by decide +kernel
theorem dX4_read_47 : decode cX4_read 47 = .ok (.ireturn, 1) := by decide +kernel
theorem dX4_read_48 : decode cX4_read 48 = .ok (.aload_n 0, 1) := by decide +kernel
theorem dX4_read_49 : decode cX4_read 49 = .ok (.invokevirtual 41, 3) := by decide +kernel
theorem dX4_read_52 : decode cX4_read 52 = .ok (.ifCond .eq 15, 3) := by decide +kernel
theorem dX4_read_55 : decode cX4_read 55 = .ok (.aload_n 0, 1) := by decide +kernel
theorem dX4_read_56 : decode cX4_read 56 = .ok (.getfield 9, 3) := by decide +kernel
theorem dX4_read_59 : decode cX4_read 59 = .ok (.bipush 59, 2) := by decide +kernel
theorem dX4_read_61 : decode cX4_read 61 = .ok (.invokevirtual 44, 3) := by decide +kernel
theorem dX4_read_64 : decode cX4_read 64 = .ok (.ifCond .ne 5, 3) := by decide +kernel
theorem dX4_read_67 : decode cX4_read 67 = .ok (.iconst (-1), 1) := by decide +kernel
theorem dX4_read_68 : decode cX4_read 68 = .ok (.ireturn, 1) := by decide +kernel
theorem dX4_read_69 : decode cX4_read 69 = .ok (.iinc 1 1, 3) := by decide +kernel
theorem dX4_read_72 : decode cX4_read 72 = .ok (.goto (-43), 3) := by decide +kernel
theorem dX4_read_75 : decode cX4_read 75 = .ok (.iconst (-1), 1) := by decide +kernel
theorem dX4_read_76 : decode cX4_read 76 = .ok (.ireturn, 1) := by decide +kernel
set_option maxHeartbeats 4000000 in
theorem w_l_OffR_read_0 {ad wad : Nat → Nat} {Γ : Ctx} (F : Nat) {n : Nat} (hn : 7 ≤ n) (hG : Cx SHc ad wad cX4_read 2 RX4 (some .int) (n) Γ) {q : Int32 × HS} {g : Nat} {x1 : Int32} {h : HS} (hd : l_OffR_read_0 F g x1 h = some q) : AW SHc ad 2 (some (.int q.1), q.2) Γ 29 [(0, .ref (ad 19)), (1, .int x1)] [] h := by
  induction g generalizing x1 h with
  | zero => unfold l_OffR_read_0 at hd; cases hd
  | succ g ih =>
    unfold l_OffR_read_0 at hd
    refine a_iload_n (pc := 29) hG 1 rfl dX4_read_29 rfl ?_
    refine a_sipush (pc := 30) hG dX4_read_30 (v := (nI 900)) rfl ?_
    refine a_ic_ge (pc := 33) hG (tgt := 75) hd dX4_read_33 (by decide) (fun hd => ?_) (fun hd => ?_)
    · refine a_iconst (pc := 75) hG dX4_read_75 (v := (-1 : Int32)) rfl ?_
      exact a_iret (pc := 76) hG hd dX4_read_76
    refine a_aload_n (pc := 36) hG 0 rfl dX4_read_36 rfl ?_
    refine a_getR (pc := 37) hG sc_19 cl_X4 ok_X4 0 (by decide) rfl t_245 dX4_read_37 ?_
    refine a_cvI (pc := 40) hG (As := []) (st := []) sc_1 cl_X8 mk_X8_isAtEnd t_592 (by omega) (fun z hz => c_Tape_isAtEnd  _  z hz) rfl (Nat.le_of_ble_eq_true rfl) hd dX4_read_40 (fun r7 h6 hd => ?_)
    refine a_if_eq (pc := 43) hG (tgt := 48) hd dX4_read_43 (by decide) (fun hd => ?_) (fun hd => ?_)
    · refine a_aload_n (pc := 48) hG 0 rfl dX4_read_48 rfl ?_
      refine a_cvI (pc := 49) hG (As := []) (st := []) sc_19 cl_X4 mk_X4_readLine t_596 (by omega) (fun z hz => c_OffR_readLine F  _  z hz) rfl (Nat.le_of_ble_eq_true rfl) hd dX4_read_49 (fun r9 h8 hd => ?_)
      refine a_if_eq (pc := 52) hG (tgt := 67) hd dX4_read_52 (by decide) (fun hd => ?_) (fun hd => ?_)
      · refine a_iconst (pc := 67) hG dX4_read_67 (v := (-1 : Int32)) rfl ?_
        exact a_iret (pc := 68) hG hd dX4_read_68
      refine a_aload_n (pc := 55) hG 0 rfl dX4_read_55 rfl ?_
      refine a_getR (pc := 56) hG sc_19 cl_X4 ok_X4 0 (by decide) rfl t_245 dX4_read_56 ?_
      refine a_bipush (pc := 59) hG dX4_read_59 (v := (nI 59)) rfl ?_
      refine a_cvI (pc := 61) hG (As := [.int (nI 59)]) (st := []) sc_1 cl_X8 mk_X8_takeSign t_742 (by omega) (fun z hz => c_Tape_takeSign F (nI 59) _  z hz) rfl (Nat.le_of_ble_eq_true rfl) hd dX4_read_61 (fun r11 h10 hd => ?_)
      refine a_if_ne (pc := 64) hG (tgt := 69) hd dX4_read_64 (by decide) (fun hd => ?_) (fun hd => ?_)
      · refine a_iincN (pc := 69) hG (c0 := (nI 1)) 1 rfl hd dX4_read_69 rfl (by decide) (lf := fun x => [(1, .int x), (0, .ref (ad 19))]) (fun _ => rfl) (fun v12 hd => ?_)
        refine a_goto (pc := 72) hG (tgt := 29) dX4_read_72 (by decide) ?_
        exact AW.sub [1, 0] rfl (ih hd)
      refine a_iconst (pc := 67) hG dX4_read_67 (v := (-1 : Int32)) rfl ?_
      exact a_iret (pc := 68) hG hd dX4_read_68
    refine a_iload_n (pc := 46) hG 1 rfl dX4_read_46 rfl ?_
    exact a_iret (pc := 47) hG hd dX4_read_47
set_option maxHeartbeats 4000000 in
theorem c_OffR_read {ad wad : Nat → Nat} (F : Nat)  (h : HS)  (q : Int32 × HS) (hd : f_OffR_read F  h = some q) : Ctr SHc ad wad yX4_read cX4_read 2 (some .int) 7 [.ref (ad 19)] h (some (.int q.1), q.2) := by
  refine enter (own := RX4) (lv := [(0, .ref (ad 19))]) (by decide +kernel) rfl (Nat.le_of_ble_eq_true rfl) rfl (fun Γ hG => ?_)
  unfold f_OffR_read at hd
  refine a_aload_n (pc := 0) hG 0 rfl dX4_read_0 rfl ?_
  refine a_getR (pc := 1) hG sc_19 cl_X4 ok_X4 1 (by decide) rfl t_246 dX4_read_1 ?_
  refine a_cvN (pc := 4) hG (As := []) (st := []) sc_11 cl_X5 mk_X5_empty t_565 (by omega) (fun z hz => c_Plan_empty_11 F  _  z hz) rfl (Nat.le_of_ble_eq_true rfl) hd dX4_read_4 (fun _ h1 hd => ?_)
  refine a_aload_n (pc := 7) hG 0 rfl dX4_read_7 rfl ?_
  refine a_iconst (pc := 8) hG dX4_read_8 (v := (nI 0)) rfl ?_
  refine a_putI (pc := 9) hG sc_19 cl_X4 ok_X4 2 (by decide) rfl t_247 rfl (ty := .boolean) rfl rfl rfl hd dX4_read_9 (fun h2 hd => ?_)
  refine a_aload_n (pc := 12) hG 0 rfl dX4_read_12 rfl ?_
  refine a_iconst (pc := 13) hG dX4_read_13 (v := (nI 0)) rfl ?_
  refine a_putI (pc := 14) hG sc_19 cl_X4 ok_X4 3 (by decide) rfl t_248 rfl (ty := .boolean) rfl rfl rfl hd dX4_read_14 (fun h3 hd => ?_)
  refine a_aload_n (pc := 17) hG 0 rfl dX4_read_17 rfl ?_
  refine a_getR (pc := 18) hG sc_19 cl_X4 ok_X4 0 (by decide) rfl t_245 dX4_read_18 ?_
  refine a_sipush (pc := 21) hG dX4_read_21 (v := (nI 900)) rfl ?_
  refine a_cvN (pc := 24) hG (As := [.int (nI 900)]) (st := []) sc_1 cl_X8 mk_X8_begin t_569 (by omega) (fun z hz => c_Tape_begin F (nI 900) _  z hz) rfl (Nat.le_of_ble_eq_true rfl) hd dX4_read_24 (fun _ h4 hd => ?_)
  refine a_iconst (pc := 27) hG dX4_read_27 (v := (nI 0)) rfl ?_
  refine a_istore_nN (pc := 28) hG hd dX4_read_28 rfl (by decide) (lf := fun x => [(1, .int x), (0, .ref (ad 19))]) (fun _ => rfl) (fun v5 hd => ?_)
  refine AW.sub [1, 0] rfl ?_
  exact w_l_OffR_read_0 F (by omega) hG hd
theorem dX8_empty_0 : decode cX8_empty 0 = .ok (.aload_n 0, 1) := by decide +kernel
theorem dX8_empty_1 : decode cX8_empty 1 = .ok (.iconst 0, 1) := by decide +kernel
theorem dX8_empty_2 : decode cX8_empty 2 = .ok (.putfield 15, 3) := by decide +kernel
theorem dX8_empty_5 : decode cX8_empty 5 = .ok (.return_, 1) := by decide +kernel
set_option maxHeartbeats 4000000 in
theorem c_Tape_empty {ad wad : Nat → Nat}  (h : HS)  (q : Unit × HS) (hd : f_Tape_empty  h = some q) : Ctr SHc ad wad yX8_empty cX8_empty 1 none 1 [.ref (ad 1)] h (none, q.2) := by
  refine enter (own := RX8) (lv := [(0, .ref (ad 1))]) (by decide +kernel) rfl (Nat.le_of_ble_eq_true rfl) rfl (fun Γ hG => ?_)
  unfold f_Tape_empty at hd
  refine a_aload_n (pc := 0) hG 0 rfl dX8_empty_0 rfl ?_
  refine a_iconst (pc := 1) hG dX8_empty_1 (v := (nI 0)) rfl ?_
  refine a_putI (pc := 2) hG sc_1 cl_X8 ok_X8 1 (by decide) rfl t_157 rfl (ty := .int) rfl rfl rfl hd dX8_empty_2 (fun h1 hd => ?_)
  exact a_vret (pc := 5) hG hd dX8_empty_5
theorem dX8_faultKind_0 : decode cX8_faultKind 0 = .ok (.aload_n 0, 1) := by decide +kernel
theorem dX8_faultKind_1 : decode cX8_faultKind 1 = .ok (.getfield 41, 3) := by decide +kernel
theorem dX8_faultKind_4 : decode cX8_faultKind 4 = .ok (.ireturn, 1) := by decide +kernel
set_option maxHeartbeats 4000000 in
theorem c_Tape_faultKind {ad wad : Nat → Nat}  (h : HS)  (q : Int32 × HS) (hd : f_Tape_faultKind  h = some q) : Ctr SHc ad wad yX8_faultKind cX8_faultKind 1 (some .int) 1 [.ref (ad 1)] h (some (.int q.1), q.2) := by
  refine enter (own := RX8) (lv := [(0, .ref (ad 1))]) (by decide +kernel) rfl (Nat.le_of_ble_eq_true rfl) rfl (fun Γ hG => ?_)
  unfold f_Tape_faultKind at hd
  refine a_aload_n (pc := 0) hG 0 rfl dX8_faultKind_0 rfl ?_
  refine a_getI (pc := 1) hG sc_1 cl_X8 ok_X8 9 (by decide) rfl t_165 dX8_faultKind_1 ?_
  exact a_iret (pc := 4) hG hd dX8_faultKind_4
theorem dX5_copyFrom_0 : decode cX5_copyFrom 0 = .ok (.aload_n 0, 1) := by decide +kernel
theorem dX5_copyFrom_1 : decode cX5_copyFrom 1 = .ok (.aload_n 1, 1) := by decide +kernel
theorem dX5_copyFrom_2 : decode cX5_copyFrom 2 = .ok (.getfield 9, 3) := by decide +kernel
theorem dX5_copyFrom_5 : decode cX5_copyFrom 5 = .ok (.putfield 9, 3) := by decide +kernel
theorem dX5_copyFrom_8 : decode cX5_copyFrom 8 = .ok (.aload_n 0, 1) := by decide +kernel
theorem dX5_copyFrom_9 : decode cX5_copyFrom 9 = .ok (.aload_n 1, 1) := by decide +kernel
theorem dX5_copyFrom_10 : decode cX5_copyFrom 10 = .ok (.getfield 15, 3) := by decide +kernel
theorem dX5_copyFrom_13 : decode cX5_copyFrom 13 = .ok (.putfield 15, 3) := by decide +kernel
theorem dX5_copyFrom_16 : decode cX5_copyFrom 16 = .ok (.aload_n 0, 1) := by decide +kernel
theorem dX5_copyFrom_17 : decode cX5_copyFrom 17 = .ok (.aload_n 1, 1) := by decide +kernel
theorem dX5_copyFrom_18 : decode cX5_copyFrom 18 = .ok (.getfield 18, 3) := by decide +kernel
theorem dX5_copyFrom_21 : decode cX5_copyFrom 21 = .ok (.putfield 18, 3) := by decide +kernel
theorem dX5_copyFrom_24 : decode cX5_copyFrom 24 = .ok (.aload_n 0, 1) := by decide +kernel
theorem dX5_copyFrom_25 : decode cX5_copyFrom 25 = .ok (.aload_n 1, 1) := by decide +kernel
theorem dX5_copyFrom_26 : decode cX5_copyFrom 26 = .ok (.getfield 21, 3) := by decide +kernel
theorem dX5_copyFrom_29 : decode cX5_copyFrom 29 = .ok (.putfield 21, 3) := by decide +kernel
theorem dX5_copyFrom_32 : decode cX5_copyFrom 32 = .ok (.aload_n 0, 1) := by decide +kernel
theorem dX5_copyFrom_33 : decode cX5_copyFrom 33 = .ok (.aload_n 1, 1) := by decide +kernel
theorem dX5_copyFrom_34 : decode cX5_copyFrom 34 = .ok (.getfield 24, 3) := by decide +kernel
theorem dX5_copyFrom_37 : decode cX5_copyFrom 37 = .ok (.putfield 24, 3) := by decide +kernel
theorem dX5_copyFrom_40 : decode cX5_copyFrom 40 = .ok (.aload_n 0, 1) := by decide +kernel
theorem dX5_copyFrom_41 : decode cX5_copyFrom 41 = .ok (.aload_n 1, 1) := by decide +kernel
theorem dX5_copyFrom_42 : decode cX5_copyFrom 42 = .ok (.getfield 27, 3) := by decide +kernel
theorem dX5_copyFrom_45 : decode cX5_copyFrom 45 = .ok (.putfield 27, 3) := by decide +kernel
theorem dX5_copyFrom_48 : decode cX5_copyFrom 48 = .ok (.aload_n 1, 1) := by decide +kernel
theorem dX5_copyFrom_49 : decode cX5_copyFrom 49 = .ok (.getfield 30, 3) := by decide +kernel
theorem dX5_copyFrom_52 : decode cX5_copyFrom 52 = .ok (.iconst 0, 1) := by decide +kernel
theorem dX5_copyFrom_53 : decode cX5_copyFrom 53 = .ok (.aload_n 0, 1) := by decide +kernel
theorem dX5_copyFrom_54 : decode cX5_copyFrom 54 = .ok (.getfield 30, 3) := by decide +kernel
theorem dX5_copyFrom_57 : decode cX5_copyFrom 57 = .ok (.iconst 0, 1) := by decide +kernel
theorem dX5_copyFrom_58 : decode cX5_copyFrom 58 = .ok (.bipush 6, 2) := by decide +kernel
theorem dX5_copyFrom_60 : decode cX5_copyFrom 60 = .ok (.invokestatic 53, 3) := by decide +kernel
theorem dX5_copyFrom_63 : decode cX5_copyFrom 63 = .ok (.aload_n 1, 1) := by decide +kernel
theorem dX5_copyFrom_64 : decode cX5_copyFrom 64 = .ok (.getfield 34, 3) := by decide +kernel
theorem dX5_copyFrom_67 : decode cX5_copyFrom 67 = .ok (.iconst 0, 1) := by decide +kernel
theorem dX5_copyFrom_68 : decode cX5_copyFrom 68 = .ok (.aload_n 0, 1) := by decide +kernel
theorem dX5_copyFrom_69 : decode cX5_copyFrom 69 = .ok (.getfield 34, 3) := by decide +kernel
theorem dX5_copyFrom_72 : decode cX5_copyFrom 72 = .ok (.iconst 0, 1) := by decide +kernel
theorem dX5_copyFrom_73 : decode cX5_copyFrom 73 = .ok (.bipush 6, 2) := by decide +kernel
theorem dX5_copyFrom_75 : decode cX5_copyFrom 75 = .ok (.invokestatic 53, 3) := by decide +kernel
theorem dX5_copyFrom_78 : decode cX5_copyFrom 78 = .ok (.aload_n 1, 1) := by decide +kernel
theorem dX5_copyFrom_79 : decode cX5_copyFrom 79 = .ok (.getfield 37, 3) := by decide +kernel
theorem dX5_copyFrom_82 : decode cX5_copyFrom 82 = .ok (.iconst 0, 1) := by decide +kernel
theorem dX5_copyFrom_83 : decode cX5_copyFrom 83 = .ok (.aload_n 0, 1) := by decide +kernel
theorem dX5_copyFrom_84 : decode cX5_copyFrom 84 = .ok (.getfield 37, 3) := by decide +kernel
theorem dX5_copyFrom_87 : decode cX5_copyFrom 87 = .ok (.iconst 0, 1) := by decide +kernel
theorem dX5_copyFrom_88 : decode cX5_copyFrom 88 = .ok (.iconst 5, 1) := by decide +kernel
theorem dX5_copyFrom_89 : decode cX5_copyFrom 89 = .ok (.invokestatic 53, 3) := by decide +kernel
theorem dX5_copyFrom_92 : decode cX5_copyFrom 92 = .ok (.aload_n 1, 1) := by decide +kernel
theorem dX5_copyFrom_93 : decode cX5_copyFrom 93 = .ok (.getfield 40, 3) := by decide +kernel
theorem dX5_copyFrom_96 : decode cX5_copyFrom 96 = .ok (.iconst 0, 1) := by decide +kernel
theorem dX5_copyFrom_97 : decode cX5_copyFrom 97 = .ok (.aload_n 0, 1) := by decide +kernel
theorem dX5_copyFrom_98 : decode cX5_copyFrom 98 = .ok (.getfield 40, 3) := by decide +kernel
theorem dX5_copyFrom_101 : decode cX5_copyFrom 101 = .ok (.iconst 0, 1) := by decide +kernel
theorem dX5_copyFrom_102 : decode cX5_copyFrom 102 = .ok (.aload_n 0, 1) := by decide +kernel
theorem dX5_copyFrom_103 : decode cX5_copyFrom 103 = .ok (.getfield 40, 3) := by decide +kernel
theorem dX5_copyFrom_106 : decode cX5_copyFrom 106 = .ok (.arraylength, 1) := by decide +kernel
theorem dX5_copyFrom_107 : decode cX5_copyFrom 107 = .ok (.invokestatic 53, 3) := by decide +kernel
theorem dX5_copyFrom_110 : decode cX5_copyFrom 110 = .ok (.aload_n 1, 1) := by decide +kernel
theorem dX5_copyFrom_111 : decode cX5_copyFrom 111 = .ok (.getfield 44, 3) := by decide +kernel
theorem dX5_copyFrom_114 : decode cX5_copyFrom 114 = .ok (.iconst 0, 1) := by decide +kernel
theorem dX5_copyFrom_115 : decode cX5_copyFrom 115 = .ok (.aload_n 0, 1) := by decide +kernel
theorem dX5_copyFrom_116 : decode cX5_copyFrom 116 = .ok (.getfield 44, 3) := by decide +kernel
theorem dX5_copyFrom_119 : decode cX5_copyFrom 119 = .ok (.iconst 0, 1) := by decide +kernel
theorem dX5_copyFrom_120 : decode cX5_copyFrom 120 = .ok (.aload_n 0, 1) := by decide +kernel
theorem dX5_copyFrom_121 : decode cX5_copyFrom 121 = .ok (.getfield 44, 3) := by decide +kernel
theorem dX5_copyFrom_124 : decode cX5_copyFrom 124 = .ok (.arraylength, 1) := by decide +kernel
theorem dX5_copyFrom_125 : decode cX5_copyFrom 125 = .ok (.invokestatic 53, 3) := by decide +kernel
theorem dX5_copyFrom_128 : decode cX5_copyFrom 128 = .ok (.aload_n 1, 1) := by decide +kernel
theorem dX5_copyFrom_129 : decode cX5_copyFrom 129 = .ok (.getfield 47, 3) := by decide +kernel
theorem dX5_copyFrom_132 : decode cX5_copyFrom 132 = .ok (.iconst 0, 1) := by decide +kernel
theorem dX5_copyFrom_133 : decode cX5_copyFrom 133 = .ok (.aload_n 0, 1) := by decide +kernel
theorem dX5_copyFrom_134 : decode cX5_copyFrom 134 = .ok (.getfield 47, 3) := by decide +kernel
theorem dX5_copyFrom_137 : decode cX5_copyFrom 137 = .ok (.iconst 0, 1) := by decide +kernel
theorem dX5_copyFrom_138 : decode cX5_copyFrom 138 = .ok (.aload_n 0, 1) := by decide +kernel
theorem dX5_copyFrom_139 : decode cX5_copyFrom 139 = .ok (.getfield 47, 3) := by decide +kernel
theorem dX5_copyFrom_142 : decode cX5_copyFrom 142 = .ok (.arraylength, 1) := by decide +kernel
theorem dX5_copyFrom_143 : decode cX5_copyFrom 143 = .ok (.invokestatic 53, 3) := by decide +kernel
theorem dX5_copyFrom_146 : decode cX5_copyFrom 146 = .ok (.aload_n 1, 1) := by decide +kernel
theorem dX5_copyFrom_147 : decode cX5_copyFrom 147 = .ok (.getfield 50, 3) := by decide +kernel
theorem dX5_copyFrom_150 : decode cX5_copyFrom 150 = .ok (.iconst 0, 1) := by decide +kernel
theorem dX5_copyFrom_151 : decode cX5_copyFrom 151 = .ok (.aload_n 0, 1) := by decide +kernel
theorem dX5_copyFrom_152 : decode cX5_copyFrom 152 = .ok (.getfield 50, 3) := by decide +kernel
theorem dX5_copyFrom_155 : decode cX5_copyFrom 155 = .ok (.iconst 0, 1) := by decide +kernel
theorem dX5_copyFrom_156 : decode cX5_copyFrom 156 = .ok (.iconst 5, 1) := by decide +kernel
theorem dX5_copyFrom_157 : decode cX5_copyFrom 157 = .ok (.invokestatic 53, 3) := by decide +kernel
theorem dX5_copyFrom_160 : decode cX5_copyFrom 160 = .ok (.return_, 1) := by decide +kernel
set_option maxHeartbeats 4000000 in
theorem c_Plan_copyFrom_3_11 {ad wad : Nat → Nat}  (h : HS)  (q : Unit × HS) (hd : f_Plan_copyFrom_3_11  h = some q) : Ctr SHc ad wad yX5_copyFrom cX5_copyFrom 2 none 2 [.ref (ad 3), .ref (ad 11)] h (none, q.2) := by
  refine enter (own := RX5) (lv := [(0, .ref (ad 3)), (1, .ref (ad 11))]) (by decide +kernel) rfl (Nat.le_of_ble_eq_true rfl) rfl (fun Γ hG => ?_)
  unfold f_Plan_copyFrom_3_11 at hd
  refine a_aload_n (pc := 0) hG 0 rfl dX5_copyFrom_0 rfl ?_
  refine a_aload_n (pc := 1) hG 1 rfl dX5_copyFrom_1 rfl ?_
  refine a_getI (pc := 2) hG sc_11 cl_X5 ok_X5 0 (by decide) rfl t_197 dX5_copyFrom_2 ?_
  refine a_putI (pc := 5) hG sc_3 cl_X5 ok_X5 0 (by decide) rfl t_197 rfl (ty := .int) rfl rfl rfl hd dX5_copyFrom_5 (fun h1 hd => ?_)
  refine a_aload_n (pc := 8) hG 0 rfl dX5_copyFrom_8 rfl ?_
  refine a_aload_n (pc := 9) hG 1 rfl dX5_copyFrom_9 rfl ?_
  refine a_getI (pc := 10) hG sc_11 cl_X5 ok_X5 1 (by decide) rfl t_198 dX5_copyFrom_10 ?_
  refine a_putI (pc := 13) hG sc_3 cl_X5 ok_X5 1 (by decide) rfl t_198 rfl (ty := .int) rfl rfl rfl hd dX5_copyFrom_13 (fun h2 hd => ?_)
  refine a_aload_n (pc := 16) hG 0 rfl dX5_copyFrom_16 rfl ?_
  refine a_aload_n (pc := 17) hG 1 rfl dX5_copyFrom_17 rfl ?_
  refine a_getI (pc := 18) hG sc_11 cl_X5 ok_X5 2 (by decide) rfl t_199 dX5_copyFrom_18 ?_
  refine a_putI (pc := 21) hG sc_3 cl_X5 ok_X5 2 (by decide) rfl t_199 rfl (ty := .int) rfl rfl rfl hd dX5_copyFrom_21 (fun h3 hd => ?_)
  refine a_aload_n (pc := 24) hG 0 rfl dX5_copyFrom_24 rfl ?_
  refine a_aload_n (pc := 25) hG 1 rfl dX5_copyFrom_25 rfl ?_
  refine a_getI (pc := 26) hG sc_11 cl_X5 ok_X5 3 (by decide) rfl t_200 dX5_copyFrom_26 ?_
  refine a_putI (pc := 29) hG sc_3 cl_X5 ok_X5 3 (by decide) rfl t_200 rfl (ty := .int) rfl rfl rfl hd dX5_copyFrom_29 (fun h4 hd => ?_)
  refine a_aload_n (pc := 32) hG 0 rfl dX5_copyFrom_32 rfl ?_
  refine a_aload_n (pc := 33) hG 1 rfl dX5_copyFrom_33 rfl ?_
  refine a_getI (pc := 34) hG sc_11 cl_X5 ok_X5 4 (by decide) rfl t_201 dX5_copyFrom_34 ?_
  refine a_putI (pc := 37) hG sc_3 cl_X5 ok_X5 4 (by decide) rfl t_201 rfl (ty := .int) rfl rfl rfl hd dX5_copyFrom_37 (fun h5 hd => ?_)
  refine a_aload_n (pc := 40) hG 0 rfl dX5_copyFrom_40 rfl ?_
  refine a_aload_n (pc := 41) hG 1 rfl dX5_copyFrom_41 rfl ?_
  refine a_getI (pc := 42) hG sc_11 cl_X5 ok_X5 5 (by decide) rfl t_202 dX5_copyFrom_42 ?_
  refine a_putI (pc := 45) hG sc_3 cl_X5 ok_X5 5 (by decide) rfl t_202 rfl (ty := .int) rfl rfl rfl hd dX5_copyFrom_45 (fun h6 hd => ?_)
  refine a_aload_n (pc := 48) hG 1 rfl dX5_copyFrom_48 rfl ?_
  refine a_getR (pc := 49) hG sc_11 cl_X5 ok_X5 6 (by decide) rfl t_203 dX5_copyFrom_49 ?_
  refine a_iconst (pc := 52) hG dX5_copyFrom_52 (v := (nI 0)) rfl ?_
  refine a_aload_n (pc := 53) hG 0 rfl dX5_copyFrom_53 rfl ?_
  refine a_getR (pc := 54) hG sc_3 cl_X5 ok_X5 6 (by decide) rfl t_203 dX5_copyFrom_54 ?_
  refine a_iconst (pc := 57) hG dX5_copyFrom_57 (v := (nI 0)) rfl ?_
  refine a_bipush (pc := 58) hG dX5_copyFrom_58 (v := (nI 6)) rfl ?_
  refine a_cpL (pc := 60) hG 6 sc_12 sc_4 rfl (by decide) (by decide) (by decide) t_762 t_764 t_763 t_136 (by omega) (Nat.le_of_ble_eq_true rfl) hd dX5_copyFrom_60 (fun h7 hd => ?_)
  refine a_aload_n (pc := 63) hG 1 rfl dX5_copyFrom_63 rfl ?_
  refine a_getR (pc := 64) hG sc_11 cl_X5 ok_X5 7 (by decide) rfl t_204 dX5_copyFrom_64 ?_
  refine a_iconst (pc := 67) hG dX5_copyFrom_67 (v := (nI 0)) rfl ?_
  refine a_aload_n (pc := 68) hG 0 rfl dX5_copyFrom_68 rfl ?_
  refine a_getR (pc := 69) hG sc_3 cl_X5 ok_X5 7 (by decide) rfl t_204 dX5_copyFrom_69 ?_
  refine a_iconst (pc := 72) hG dX5_copyFrom_72 (v := (nI 0)) rfl ?_
  refine a_bipush (pc := 73) hG dX5_copyFrom_73 (v := (nI 6)) rfl ?_
  refine a_cpL (pc := 75) hG 6 sc_13 sc_5 rfl (by decide) (by decide) (by decide) t_762 t_764 t_763 t_136 (by omega) (Nat.le_of_ble_eq_true rfl) hd dX5_copyFrom_75 (fun h8 hd => ?_)
  refine a_aload_n (pc := 78) hG 1 rfl dX5_copyFrom_78 rfl ?_
  refine a_getR (pc := 79) hG sc_11 cl_X5 ok_X5 8 (by decide) rfl t_205 dX5_copyFrom_79 ?_
  refine a_iconst (pc := 82) hG dX5_copyFrom_82 (v := (nI 0)) rfl ?_
  refine a_aload_n (pc := 83) hG 0 rfl dX5_copyFrom_83 rfl ?_
  refine a_getR (pc := 84) hG sc_3 cl_X5 ok_X5 8 (by decide) rfl t_205 dX5_copyFrom_84 ?_
  refine a_iconst (pc := 87) hG dX5_copyFrom_87 (v := (nI 0)) rfl ?_
  refine a_iconst (pc := 88) hG dX5_copyFrom_88 (v := (nI 5)) rfl ?_
  refine a_cpL (pc := 89) hG 5 sc_14 sc_6 rfl (by decide) (by decide) (by decide) t_762 t_764 t_763 t_136 (by omega) (Nat.le_of_ble_eq_true rfl) hd dX5_copyFrom_89 (fun h9 hd => ?_)
  refine a_aload_n (pc := 92) hG 1 rfl dX5_copyFrom_92 rfl ?_
  refine a_getR (pc := 93) hG sc_11 cl_X5 ok_X5 9 (by decide) rfl t_206 dX5_copyFrom_93 ?_
  refine a_iconst (pc := 96) hG dX5_copyFrom_96 (v := (nI 0)) rfl ?_
  refine a_aload_n (pc := 97) hG 0 rfl dX5_copyFrom_97 rfl ?_
  refine a_getR (pc := 98) hG sc_3 cl_X5 ok_X5 9 (by decide) rfl t_206 dX5_copyFrom_98 ?_
  refine a_iconst (pc := 101) hG dX5_copyFrom_101 (v := (nI 0)) rfl ?_
  refine a_aload_n (pc := 102) hG 0 rfl dX5_copyFrom_102 rfl ?_
  refine a_getR (pc := 103) hG sc_3 cl_X5 ok_X5 9 (by decide) rfl t_206 dX5_copyFrom_103 ?_
  refine a_alenI (pc := 106) hG sc_7 (fun _ => rfl) (v := nI 24) rfl dX5_copyFrom_106 ?_
  refine a_cpI (pc := 107) hG 24 sc_15 sc_7 rfl (by decide) (by decide) (by decide) t_762 t_764 t_763 t_136 (by omega) (Nat.le_of_ble_eq_true rfl) hd dX5_copyFrom_107 (fun h10 hd => ?_)
  refine a_aload_n (pc := 110) hG 1 rfl dX5_copyFrom_110 rfl ?_
  refine a_getR (pc := 111) hG sc_11 cl_X5 ok_X5 10 (by decide) rfl t_207 dX5_copyFrom_111 ?_
  refine a_iconst (pc := 114) hG dX5_copyFrom_114 (v := (nI 0)) rfl ?_
  refine a_aload_n (pc := 115) hG 0 rfl dX5_copyFrom_115 rfl ?_
  refine a_getR (pc := 116) hG sc_3 cl_X5 ok_X5 10 (by decide) rfl t_207 dX5_copyFrom_116 ?_
  refine a_iconst (pc := 119) hG dX5_copyFrom_119 (v := (nI 0)) rfl ?_
  refine a_aload_n (pc := 120) hG 0 rfl dX5_copyFrom_120 rfl ?_
  refine a_getR (pc := 121) hG sc_3 cl_X5 ok_X5 10 (by decide) rfl t_207 dX5_copyFrom_121 ?_
  refine a_alenI (pc := 124) hG sc_8 (fun _ => rfl) (v := nI 12) rfl dX5_copyFrom_124 ?_
  refine a_cpI (pc := 125) hG 12 sc_16 sc_8 rfl (by decide) (by decide) (by decide) t_762 t_764 t_763 t_136 (by omega) (Nat.le_of_ble_eq_true rfl) hd dX5_copyFrom_125 (fun h11 hd => ?_)
  refine a_aload_n (pc := 128) hG 1 rfl dX5_copyFrom_128 rfl ?_
  refine a_getR (pc := 129) hG sc_11 cl_X5 ok_X5 11 (by decide) rfl t_208 dX5_copyFrom_129 ?_
  refine a_iconst (pc := 132) hG dX5_copyFrom_132 (v := (nI 0)) rfl ?_
  refine a_aload_n (pc := 133) hG 0 rfl dX5_copyFrom_133 rfl ?_
  refine a_getR (pc := 134) hG sc_3 cl_X5 ok_X5 11 (by decide) rfl t_208 dX5_copyFrom_134 ?_
  refine a_iconst (pc := 137) hG dX5_copyFrom_137 (v := (nI 0)) rfl ?_
  refine a_aload_n (pc := 138) hG 0 rfl dX5_copyFrom_138 rfl ?_
  refine a_getR (pc := 139) hG sc_3 cl_X5 ok_X5 11 (by decide) rfl t_208 dX5_copyFrom_139 ?_
  refine a_alenI (pc := 142) hG sc_9 (fun _ => rfl) (v := nI 18) rfl dX5_copyFrom_142 ?_
  refine a_cpI (pc := 143) hG 18 sc_17 sc_9 rfl (by decide) (by decide) (by decide) t_762 t_764 t_763 t_136 (by omega) (Nat.le_of_ble_eq_true rfl) hd dX5_copyFrom_143 (fun h12 hd => ?_)
  refine a_aload_n (pc := 146) hG 1 rfl dX5_copyFrom_146 rfl ?_
  refine a_getR (pc := 147) hG sc_11 cl_X5 ok_X5 12 (by decide) rfl t_209 dX5_copyFrom_147 ?_
  refine a_iconst (pc := 150) hG dX5_copyFrom_150 (v := (nI 0)) rfl ?_
  refine a_aload_n (pc := 151) hG 0 rfl dX5_copyFrom_151 rfl ?_
  refine a_getR (pc := 152) hG sc_3 cl_X5 ok_X5 12 (by decide) rfl t_209 dX5_copyFrom_152 ?_
  refine a_iconst (pc := 155) hG dX5_copyFrom_155 (v := (nI 0)) rfl ?_
  refine a_iconst (pc := 156) hG dX5_copyFrom_156 (v := (nI 5)) rfl ?_
  refine a_cpI (pc := 157) hG 5 sc_18 sc_10 rfl (by decide) (by decide) (by decide) t_762 t_764 t_763 t_136 (by omega) (Nat.le_of_ble_eq_true rfl) hd dX5_copyFrom_157 (fun h13 hd => ?_)
  exact a_vret (pc := 160) hG hd dX5_copyFrom_160
set_option maxHeartbeats 4000000 in
theorem c_Plan_deeds_3 {ad wad : Nat → Nat}  (h : HS)  (q : Int32 × HS) (hd : f_Plan_deeds_3  h = some q) : Ctr SHc ad wad yX5_deeds cX5_deeds 1 (some .int) 1 [.ref (ad 3)] h (some (.int q.1), q.2) := by
  refine enter (own := RX5) (lv := [(0, .ref (ad 3))]) (by decide +kernel) rfl (Nat.le_of_ble_eq_true rfl) rfl (fun Γ hG => ?_)
  unfold f_Plan_deeds_3 at hd
  refine a_aload_n (pc := 0) hG 0 rfl dX5_deeds_0 rfl ?_
  refine a_getI (pc := 1) hG sc_3 cl_X5 ok_X5 4 (by decide) rfl t_201 dX5_deeds_1 ?_
  exact a_iret (pc := 4) hG hd dX5_deeds_4
theorem dX5_ofDeed_0 : decode cX5_ofDeed 0 = .ok (.aload_n 0, 1) := by decide +kernel
theorem dX5_ofDeed_1 : decode cX5_ofDeed 1 = .ok (.getfield 47, 3) := by decide +kernel
theorem dX5_ofDeed_4 : decode cX5_ofDeed 4 = .ok (.iload_n 1, 1) := by decide +kernel
theorem dX5_ofDeed_5 : decode cX5_ofDeed 5 = .ok (.iconst 3, 1) := by decide +kernel
theorem dX5_ofDeed_6 : decode cX5_ofDeed 6 = .ok (.imul, 1) := by decide +kernel
theorem dX5_ofDeed_7 : decode cX5_ofDeed 7 = .ok (.iload_n 2, 1) := by decide +kernel
theorem dX5_ofDeed_8 : decode cX5_ofDeed 8 = .ok (.iadd, 1) := by decide +kernel
theorem dX5_ofDeed_9 : decode cX5_ofDeed 9 = .ok (.iaload, 1) := by decide +kernel
theorem dX5_ofDeed_10 : decode cX5_ofDeed 10 = .ok (.ireturn, 1) := by decide +kernel
set_option maxHeartbeats 4000000 in
theorem c_Plan_ofDeed_3 {ad wad : Nat → Nat} (a0 : Int32) (a1 : Int32) (h : HS)  (q : Int32 × HS) (hd : f_Plan_ofDeed_3 a0 a1 h = some q) : Ctr SHc ad wad yX5_ofDeed cX5_ofDeed 3 (some .int) 1 [.ref (ad 3), .int a0, .int a1] h (some (.int q.1), q.2) := by
  refine enter (own := RX5) (lv := [(0, .ref (ad 3)), (1, .int a0), (2, .int a1)]) (by decide +kernel) rfl (Nat.le_of_ble_eq_true rfl) rfl (fun Γ hG => ?_)
  unfold f_Plan_ofDeed_3 at hd
  refine a_aload_n (pc := 0) hG 0 rfl dX5_ofDeed_0 rfl ?_
  refine a_getR (pc := 1) hG sc_3 cl_X5 ok_X5 11 (by decide) rfl t_208 dX5_ofDeed_1 ?_
  refine a_iload_n (pc := 4) hG 1 rfl dX5_ofDeed_4 rfl ?_
  refine a_iconst (pc := 5) hG dX5_ofDeed_5 (v := (nI 3)) rfl ?_
  refine a_imul (pc := 6) hG dX5_ofDeed_6 ?_
  refine a_iload_n (pc := 7) hG 2 rfl dX5_ofDeed_7 rfl ?_
  refine a_iadd (pc := 8) hG dX5_ofDeed_8 ?_
  refine a_iald (pc := 9) hG sc_9 hd dX5_ofDeed_9 (fun hd => ?_)
  exact a_iret (pc := 10) hG hd dX5_ofDeed_10
theorem dX9_sumUp_0 : decode cX9_sumUp 0 = .ok (.aload_n 0, 1) := by decide +kernel
theorem dX9_sumUp_1 : decode cX9_sumUp 1 = .ok (.iconst 1, 1) := by decide +kernel
theorem dX9_sumUp_2 : decode cX9_sumUp 2 = .ok (.aload_n 0, 1) := by decide +kernel
theorem dX9_sumUp_3 : decode cX9_sumUp 3 = .ok (.getfield 28, 3) := by decide +kernel
theorem dX9_sumUp_6 : decode cX9_sumUp 6 = .ok (.invokevirtual 36, 3) := by decide +kernel
theorem dX9_sumUp_9 : decode cX9_sumUp 9 = .ok (.ishl, 1) := by decide +kernel
theorem dX9_sumUp_10 : decode cX9_sumUp 10 = .ok (.putfield 24, 3) := by decide +kernel
theorem dX9_sumUp_13 : decode cX9_sumUp 13 = .ok (.iconst 0, 1) := by decide +kernel
theorem dX9_sumUp_14 : decode cX9_sumUp 14 = .ok (.istore_n 1, 1) := by decide +kernel
theorem dX9_sumUp_15 : decode cX9_sumUp 15 = .ok (.iload_n 1, 1) := by decide +kernel
theorem dX9_sumUp_16 : decode cX9_sumUp 16 = .ok (.aload_n 0, 1) := by decide +kernel
theorem dX9_sumUp_17 : decode cX9_sumUp 17 = .ok (.getfield 28, 3) := by decide +kernel
theorem dX9_sumUp_20 : decode cX9_sumUp 20 = .ok (.invokevirtual 36, 3) := by decide +kernel
theorem dX9_sumUp_23 : decode cX9_sumUp 23 = .ok (.if_icmp .ge 98, 3) := by decide +kernel
theorem dX9_sumUp_26 : decode cX9_sumUp 26 = .ok (.iconst 1, 1) := by decide +kernel
theorem dX9_sumUp_27 : decode cX9_sumUp 27 = .ok (.iload_n 1, 1) := by decide +kernel
theorem dX9_sumUp_28 : decode cX9_sumUp 28 = .ok (.ishl, 1) := by decide +kernel
theorem dX9_sumUp_29 : decode cX9_sumUp 29 = .ok (.istore_n 2, 1) := by decide +kernel
theorem dX9_sumUp_30 : decode cX9_sumUp 30 = .ok (.iconst 0, 1) := by decide +kernel
theorem dX9_sumUp_31 : decode cX9_sumUp 31 = .ok (.istore_n 3, 1) := by decide +kernel
theorem dX9_sumUp_32 : decode cX9_sumUp 32 = .ok (.iload_n 3, 1) := by decide +kernel
theorem dX9_sumUp_33 : decode cX9_sumUp 33 = .ok (.iload_n 2, 1) := by decide +kernel
theorem dX9_sumUp_34 : decode cX9_sumUp 34 = .ok (.if_icmp .ge 81, 3) := by decide +kernel
theorem dX9_sumUp_37 : decode cX9_sumUp 37 = .ok (.aload_n 0, 1) := by decide +kernel
theorem dX9_sumUp_38 : decode cX9_sumUp 38 = .ok (.getfield 9, 3) := by decide +kernel
theorem dX9_sumUp_41 : decode cX9_sumUp 41 = .ok (.iload_n 3, 1) := by decide +kernel
theorem dX9_sumUp_42 : decode cX9_sumUp 42 = .ok (.iload_n 2, 1) := by decide +kernel
theorem dX9_sumUp_43 : decode cX9_sumUp 43 = .ok (.ior, 1) := by decide +kernel
theorem dX9_sumUp_44 : decode cX9_sumUp 44 = .ok (.aload_n 0, 1) := by decide +kernel
theorem dX9_sumUp_45 : decode cX9_sumUp 45 = .ok (.getfield 9, 3) := by decide +kernel
theorem dX9_sumUp_48 : decode cX9_sumUp 48 = .ok (.iload_n 3, 1) := by decide +kernel
theorem dX9_sumUp_49 : decode cX9_sumUp 49 = .ok (.iaload, 1) := by decide +kernel
theorem dX9_sumUp_50 : decode cX9_sumUp 50 = .ok (.aload_n 0, 1) := by decide +kernel
theorem dX9_sumUp_51 : decode cX9_sumUp 51 = .ok (.getfield 28, 3) := by decide +kernel
theorem dX9_sumUp_54 : decode cX9_sumUp 54 = .ok (.iload_n 1, 1) := by decide +kernel
theorem dX9_sumUp_55 : decode cX9_sumUp 55 = .ok (.iconst 0, 1) := by decide +kernel
theorem dX9_sumUp_56 : decode cX9_sumUp 56 = .ok (.invokevirtual 42, 3) := by decide +kernel
theorem dX9_sumUp_59 : decode cX9_sumUp 59 = .ok (.iadd, 1) := by decide +kernel
theorem dX9_sumUp_60 : decode cX9_sumUp 60 = .ok (.iastore, 1) := by decide +kernel
theorem dX9_sumUp_61 : decode cX9_sumUp 61 = .ok (.aload_n 0, 1) := by decide +kernel
theorem dX9_sumUp_62 : decode cX9_sumUp 62 = .ok (.getfield 15, 3) := by decide +kernel
theorem dX9_sumUp_65 : decode cX9_sumUp 65 = .ok (.iload_n 3, 1) := by decide +kernel
theorem dX9_sumUp_66 : decode cX9_sumUp 66 = .ok (.iload_n 2, 1) := by decide +kernel
theorem dX9_sumUp_67 : decode cX9_sumUp 67 = .ok (.ior, 1) := by decide +kernel
theorem dX9_sumUp_68 : decode cX9_sumUp 68 = .ok (.aload_n 0, 1) := by decide +kernel
theorem dX9_sumUp_69 : decode cX9_sumUp 69 = .ok (.getfield 15, 3) := by decide +kernel
theorem dX9_sumUp_72 : decode cX9_sumUp 72 = .ok (.iload_n 3, 1) := by decide +kernel
theorem dX9_sumUp_73 : decode cX9_sumUp 73 = .ok (.iaload, 1) := by decide +kernel
theorem dX9_sumUp_74 : decode cX9_sumUp 74 = .ok (.aload_n 0, 1) := by decide +kernel
theorem dX9_sumUp_75 : decode cX9_sumUp 75 = .ok (.getfield 28, 3) := by decide +kernel
theorem dX9_sumUp_78 : decode cX9_sumUp 78 = .ok (.iload_n 1, 1) := by decide +kernel
theorem dX9_sumUp_79 : decode cX9_sumUp 79 = .ok (.iconst 1, 1) := by decide +kernel
theorem dX9_sumUp_80 : decode cX9_sumUp 80 = .ok (.invokevirtual 42, 3) := by decide +kernel
theorem dX9_sumUp_83 : decode cX9_sumUp 83 = .ok (.iadd, 1) := by decide +kernel
theorem dX9_sumUp_84 : decode cX9_sumUp 84 = .ok (.iastore, 1) := by decide +kernel
theorem dX9_sumUp_85 : decode cX9_sumUp 85 = .ok (.aload_n 0, 1) := by decide +kernel
theorem dX9_sumUp_86 : decode cX9_sumUp 86 = .ok (.getfield 18, 3) := by decide +kernel
theorem dX9_sumUp_89 : decode cX9_sumUp 89 = .ok (.iload_n 3, 1) := by decide +kernel
theorem dX9_sumUp_90 : decode cX9_sumUp 90 = .ok (.iload_n 2, 1) := by decide +kernel
theorem dX9_sumUp_91 : decode cX9_sumUp 91 = .ok (.ior, 1) := by decide +kernel
theorem dX9_sumUp_92 : decode cX9_sumUp 92 = .ok (.aload_n 0, 1) := by decide +kernel
theorem dX9_sumUp_93 : decode cX9_sumUp 93 = .ok (.getfield 18, 3) := by decide +kernel
theorem dX9_sumUp_96 : decode cX9_sumUp 96 = .ok (.iload_n 3, 1) := by decide +kernel
theorem dX9_sumUp_97 : decode cX9_sumUp 97 = .ok (.iaload, 1) := by decide +kernel
theorem dX9_sumUp_98 : decode cX9_sumUp 98 = .ok (.aload_n 0, 1) := by decide +kernel
theorem dX9_sumUp_99 : decode cX9_sumUp 99 = .ok (.getfield 28, 3) := by decide +kernel
theorem dX9_sumUp_102 : decode cX9_sumUp 102 = .ok (.iload_n 1, 1) := by decide +kernel
theorem dX9_sumUp_103 : decode cX9_sumUp 103 = .ok (.iconst 2, 1) := by decide +kernel
theorem dX9_sumUp_104 : decode cX9_sumUp 104 = .ok (.invokevirtual 42, 3) := by decide +kernel
theorem dX9_sumUp_107 : decode cX9_sumUp 107 = .ok (.iadd, 1) := by decide +kernel
theorem dX9_sumUp_108 : decode cX9_sumUp 108 = .ok (.iastore, 1) := by decide +kernel
theorem dX9_sumUp_109 : decode cX9_sumUp 109 = .ok (.iinc 3 1, 3) := by decide +kernel
theorem dX9_sumUp_112 : decode cX9_sumUp 112 = .ok (.goto (-80), 3) := by decide +kernel
theorem dX9_sumUp_115 : decode cX9_sumUp 115 = .ok (.iinc 1 1, 3) := by decide +kernel
theorem dX9_sumUp_118 : decode cX9_sumUp 118 = .ok (.goto (-103), 3) := by decide +kernel
theorem dX9_sumUp_121 : decode cX9_sumUp 121 = .ok (.return_, 1) := by decide +kernel
set_option maxHeartbeats 4000000 in
theorem w_l_Ways_sumUp_1 {ad wad : Nat → Nat} {Γ : Ctx} (F : Nat) {n : Nat} (hn : 2 ≤ n) (hG : Cx SHc ad wad cX9_sumUp 4 RX9 none (n) Γ) {q : Unit × HS} {x1 : Int32} {x2 : Int32} {K0 : HS → Option (Unit × HS)} {g : Nat} {x3 : Int32} {h : HS} (hd : l_Ways_sumUp_1 F x1 x2 K0 g x3 h = some q) (hK0 : ∀ (z : HS), K0 z = some q → AW SHc ad 4 (none, q.2) Γ 115 [(0, .ref (ad 31)), (1, .int x1)] [] z) : AW SHc ad 4 (none, q.2) Γ 32 [(0, .ref (ad 31)), (1, .int x1), (2, .int x2), (3, .int x3)] [] h := by
  induction g generalizing x3 h with
  | zero => unfold l_Ways_sumUp_1 at hd; cases hd
  | succ g ih =>
    unfold l_Ways_sumUp_1 at hd
    refine a_iload_n (pc := 32) hG 3 rfl dX9_sumUp_32 rfl ?_
    refine a_iload_n (pc := 33) hG 2 rfl dX9_sumUp_33 rfl ?_
    refine a_ic_ge (pc := 34) hG (tgt := 115) hd dX9_sumUp_34 (by decide) (fun hd => ?_) (fun hd => ?_)
    · exact AW.sub [0, 1] rfl (hK0  _ hd)
    refine a_aload_n (pc := 37) hG 0 rfl dX9_sumUp_37 rfl ?_
    refine a_getR (pc := 38) hG sc_31 cl_X9 ok_X9 2 (by decide) rfl t_290 dX9_sumUp_38 ?_
    refine a_iload_n (pc := 41) hG 3 rfl dX9_sumUp_41 rfl ?_
    refine a_iload_n (pc := 42) hG 2 rfl dX9_sumUp_42 rfl ?_
    refine a_ior (pc := 43) hG dX9_sumUp_43 ?_
    refine a_aload_n (pc := 44) hG 0 rfl dX9_sumUp_44 rfl ?_
    refine a_getR (pc := 45) hG sc_31 cl_X9 ok_X9 2 (by decide) rfl t_290 dX9_sumUp_45 ?_
    refine a_iload_n (pc := 48) hG 3 rfl dX9_sumUp_48 rfl ?_
    refine a_iald (pc := 49) hG sc_32 hd dX9_sumUp_49 (fun hd => ?_)
    refine a_aload_n (pc := 50) hG 0 rfl dX9_sumUp_50 rfl ?_
    refine a_getR (pc := 51) hG sc_31 cl_X9 ok_X9 0 (by decide) rfl t_288 dX9_sumUp_51 ?_
    refine a_iload_n (pc := 54) hG 1 rfl dX9_sumUp_54 rfl ?_
    refine a_iconst (pc := 55) hG dX9_sumUp_55 (v := (nI 0)) rfl ?_
    refine a_cvI (pc := 56) hG (As := [.int x1, .int (nI 0)]) (st := [.int (h.1 32 x3.toNatClampNeg), .int (x3 ||| x2), .ref (ad 32)]) sc_3 cl_X5 mk_X5_ofDeed t_477 (by omega) (fun z hz => c_Plan_ofDeed_3 x1 (nI 0) _  z hz) rfl (Nat.le_of_ble_eq_true rfl) hd dX9_sumUp_56 (fun r10 h9 hd => ?_)
    refine a_iadd (pc := 59) hG dX9_sumUp_59 ?_
    refine a_iast (pc := 60) hG sc_32 hd dX9_sumUp_60 (fun h11 hd => ?_)
    refine a_aload_n (pc := 61) hG 0 rfl dX9_sumUp_61 rfl ?_
    refine a_getR (pc := 62) hG sc_31 cl_X9 ok_X9 3 (by decide) rfl t_291 dX9_sumUp_62 ?_
    refine a_iload_n (pc := 65) hG 3 rfl dX9_sumUp_65 rfl ?_
    refine a_iload_n (pc := 66) hG 2 rfl dX9_sumUp_66 rfl ?_
    refine a_ior (pc := 67) hG dX9_sumUp_67 ?_
    refine a_aload_n (pc := 68) hG 0 rfl dX9_sumUp_68 rfl ?_
    refine a_getR (pc := 69) hG sc_31 cl_X9 ok_X9 3 (by decide) rfl t_291 dX9_sumUp_69 ?_
    refine a_iload_n (pc := 72) hG 3 rfl dX9_sumUp_72 rfl ?_
    refine a_iald (pc := 73) hG sc_33 hd dX9_sumUp_73 (fun hd => ?_)
    refine a_aload_n (pc := 74) hG 0 rfl dX9_sumUp_74 rfl ?_
    refine a_getR (pc := 75) hG sc_31 cl_X9 ok_X9 0 (by decide) rfl t_288 dX9_sumUp_75 ?_
    refine a_iload_n (pc := 78) hG 1 rfl dX9_sumUp_78 rfl ?_
    refine a_iconst (pc := 79) hG dX9_sumUp_79 (v := (nI 1)) rfl ?_
    refine a_cvI (pc := 80) hG (As := [.int x1, .int (nI 1)]) (st := [.int (h11.1 33 x3.toNatClampNeg), .int (x3 ||| x2), .ref (ad 33)]) sc_3 cl_X5 mk_X5_ofDeed t_477 (by omega) (fun z hz => c_Plan_ofDeed_3 x1 (nI 1) _  z hz) rfl (Nat.le_of_ble_eq_true rfl) hd dX9_sumUp_80 (fun r13 h12 hd => ?_)
    refine a_iadd (pc := 83) hG dX9_sumUp_83 ?_
    refine a_iast (pc := 84) hG sc_33 hd dX9_sumUp_84 (fun h14 hd => ?_)
    refine a_aload_n (pc := 85) hG 0 rfl dX9_sumUp_85 rfl ?_
    refine a_getR (pc := 86) hG sc_31 cl_X9 ok_X9 4 (by decide) rfl t_292 dX9_sumUp_86 ?_
    refine a_iload_n (pc := 89) hG 3 rfl dX9_sumUp_89 rfl ?_
    refine a_iload_n (pc := 90) hG 2 rfl dX9_sumUp_90 rfl ?_
    refine a_ior (pc := 91) hG dX9_sumUp_91 ?_
    refine a_aload_n (pc := 92) hG 0 rfl dX9_sumUp_92 rfl ?_
    refine a_getR (pc := 93) hG sc_31 cl_X9 ok_X9 4 (by decide) rfl t_292 dX9_sumUp_93 ?_
    refine a_iload_n (pc := 96) hG 3 rfl dX9_sumUp_96 rfl ?_
    refine a_iald (pc := 97) hG sc_34 hd dX9_sumUp_97 (fun hd => ?_)
    refine a_aload_n (pc := 98) hG 0 rfl dX9_sumUp_98 rfl ?_
    refine a_getR (pc := 99) hG sc_31 cl_X9 ok_X9 0 (by decide) rfl t_288 dX9_sumUp_99 ?_
    refine a_iload_n (pc := 102) hG 1 rfl dX9_sumUp_102 rfl ?_
    refine a_iconst (pc := 103) hG dX9_sumUp_103 (v := (nI 2)) rfl ?_
    refine a_cvI (pc := 104) hG (As := [.int x1, .int (nI 2)]) (st := [.int (h14.1 34 x3.toNatClampNeg), .int (x3 ||| x2), .ref (ad 34)]) sc_3 cl_X5 mk_X5_ofDeed t_477 (by omega) (fun z hz => c_Plan_ofDeed_3 x1 (nI 2) _  z hz) rfl (Nat.le_of_ble_eq_true rfl) hd dX9_sumUp_104 (fun r16 h15 hd => ?_)
    refine a_iadd (pc := 107) hG dX9_sumUp_107 ?_
    refine a_iast (pc := 108) hG sc_34 hd dX9_sumUp_108 (fun h17 hd => ?_)
    refine a_iincN (pc := 109) hG (c0 := (nI 1)) 3 rfl hd dX9_sumUp_109 rfl (by decide) (lf := fun x => [(3, .int x), (0, .ref (ad 31)), (1, .int x1), (2, .int x2)]) (fun _ => rfl) (fun v18 hd => ?_)
    refine a_goto (pc := 112) hG (tgt := 32) dX9_sumUp_112 (by decide) ?_
    exact AW.sub [1, 2, 3, 0] rfl (ih hd)
set_option maxHeartbeats 4000000 in
theorem w_l_Ways_sumUp_0 {ad wad : Nat → Nat} {Γ : Ctx} (F : Nat) {n : Nat} (hn : 2 ≤ n) (hG : Cx SHc ad wad cX9_sumUp 4 RX9 none (n) Γ) {q : Unit × HS} {g : Nat} {x1 : Int32} {h : HS} (hd : l_Ways_sumUp_0 F g x1 h = some q) : AW SHc ad 4 (none, q.2) Γ 15 [(0, .ref (ad 31)), (1, .int x1)] [] h := by
  induction g generalizing x1 h with
  | zero => unfold l_Ways_sumUp_0 at hd; cases hd
  | succ g ih =>
    unfold l_Ways_sumUp_0 at hd
    refine a_iload_n (pc := 15) hG 1 rfl dX9_sumUp_15 rfl ?_
    refine a_aload_n (pc := 16) hG 0 rfl dX9_sumUp_16 rfl ?_
    refine a_getR (pc := 17) hG sc_31 cl_X9 ok_X9 0 (by decide) rfl t_288 dX9_sumUp_17 ?_
    refine a_cvI (pc := 20) hG (As := []) (st := [.int x1]) sc_3 cl_X5 mk_X5_deeds t_473 (by omega) (fun z hz => c_Plan_deeds_3  _  z hz) rfl (Nat.le_of_ble_eq_true rfl) hd dX9_sumUp_20 (fun r6 h5 hd => ?_)
    refine a_ic_ge (pc := 23) hG (tgt := 121) hd dX9_sumUp_23 (by decide) (fun hd => ?_) (fun hd => ?_)
    · exact a_vret (pc := 121) hG hd dX9_sumUp_121
    refine a_iconst (pc := 26) hG dX9_sumUp_26 (v := (nI 1)) rfl ?_
    refine a_iload_n (pc := 27) hG 1 rfl dX9_sumUp_27 rfl ?_
    refine a_ishl (pc := 28) hG dX9_sumUp_28 ?_
    refine a_istore_nN (pc := 29) hG hd dX9_sumUp_29 rfl (by decide) (lf := fun x => [(2, .int x), (0, .ref (ad 31)), (1, .int x1)]) (fun _ => rfl) (fun v7 hd => ?_)
    refine a_iconst (pc := 30) hG dX9_sumUp_30 (v := (nI 0)) rfl ?_
    refine a_istore_nN (pc := 31) hG hd dX9_sumUp_31 rfl (by decide) (lf := fun x => [(3, .int x), (2, .int v7), (0, .ref (ad 31)), (1, .int x1)]) (fun _ => rfl) (fun v8 hd => ?_)
    refine AW.sub [2, 3, 1, 0] rfl ?_
    refine w_l_Ways_sumUp_1 F (by omega) hG hd (fun h19 hd => ?_)
    refine a_iincN (pc := 115) hG (c0 := (nI 1)) 1 rfl hd dX9_sumUp_115 rfl (by decide) (lf := fun x => [(1, .int x), (0, .ref (ad 31))]) (fun _ => rfl) (fun v20 hd => ?_)
    refine a_goto (pc := 118) hG (tgt := 15) dX9_sumUp_118 (by decide) ?_
    exact AW.sub [1, 0] rfl (ih hd)
set_option maxHeartbeats 4000000 in
theorem c_Ways_sumUp {ad wad : Nat → Nat} (F : Nat)  (h : HS)  (q : Unit × HS) (hd : f_Ways_sumUp F  h = some q) : Ctr SHc ad wad yX9_sumUp cX9_sumUp 4 none 2 [.ref (ad 31)] h (none, q.2) := by
  refine enter (own := RX9) (lv := [(0, .ref (ad 31))]) (by decide +kernel) rfl (Nat.le_of_ble_eq_true rfl) rfl (fun Γ hG => ?_)
  unfold f_Ways_sumUp at hd
  refine a_aload_n (pc := 0) hG 0 rfl dX9_sumUp_0 rfl ?_
  refine a_iconst (pc := 1) hG dX9_sumUp_1 (v := (nI 1)) rfl ?_
  refine a_aload_n (pc := 2) hG 0 rfl dX9_sumUp_2 rfl ?_
  refine a_getR (pc := 3) hG sc_31 cl_X9 ok_X9 0 (by decide) rfl t_288 dX9_sumUp_3 ?_
  refine a_cvI (pc := 6) hG (As := []) (st := [.int (nI 1), .ref (ad 31)]) sc_3 cl_X5 mk_X5_deeds t_473 (by omega) (fun z hz => c_Plan_deeds_3  _  z hz) rfl (Nat.le_of_ble_eq_true rfl) hd dX9_sumUp_6 (fun r2 h1 hd => ?_)
  refine a_ishl (pc := 9) hG dX9_sumUp_9 ?_
  refine a_putI (pc := 10) hG sc_31 cl_X9 ok_X9 6 (by decide) rfl t_294 rfl (ty := .int) rfl rfl rfl hd dX9_sumUp_10 (fun h3 hd => ?_)
  refine a_iconst (pc := 13) hG dX9_sumUp_13 (v := (nI 0)) rfl ?_
  refine a_istore_nN (pc := 14) hG hd dX9_sumUp_14 rfl (by decide) (lf := fun x => [(1, .int x), (0, .ref (ad 31))]) (fun _ => rfl) (fun v4 hd => ?_)
  refine AW.sub [1, 0] rfl ?_
  exact w_l_Ways_sumUp_0 F (by omega) hG hd
set_option maxHeartbeats 4000000 in
theorem c_Plan_causes_3 {ad wad : Nat → Nat}  (h : HS)  (q : Int32 × HS) (hd : f_Plan_causes_3  h = some q) : Ctr SHc ad wad yX5_causes cX5_causes 1 (some .int) 1 [.ref (ad 3)] h (some (.int q.1), q.2) := by
  refine enter (own := RX5) (lv := [(0, .ref (ad 3))]) (by decide +kernel) rfl (Nat.le_of_ble_eq_true rfl) rfl (fun Γ hG => ?_)
  unfold f_Plan_causes_3 at hd
  refine a_aload_n (pc := 0) hG 0 rfl dX5_causes_0 rfl ?_
  refine a_getI (pc := 1) hG sc_3 cl_X5 ok_X5 3 (by decide) rfl t_200 dX5_causes_1 ?_
  exact a_iret (pc := 4) hG hd dX5_causes_4
theorem dX5_ofCause_0 : decode cX5_ofCause 0 = .ok (.aload_n 0, 1) := by decide +kernel
theorem dX5_ofCause_1 : decode cX5_ofCause 1 = .ok (.getfield 40, 3) := by decide +kernel
theorem dX5_ofCause_4 : decode cX5_ofCause 4 = .ok (.iload_n 1, 1) := by decide +kernel
theorem dX5_ofCause_5 : decode cX5_ofCause 5 = .ok (.iconst 4, 1) := by decide +kernel
theorem dX5_ofCause_6 : decode cX5_ofCause 6 = .ok (.imul, 1) := by decide +kernel
theorem dX5_ofCause_7 : decode cX5_ofCause 7 = .ok (.iload_n 2, 1) := by decide +kernel
theorem dX5_ofCause_8 : decode cX5_ofCause 8 = .ok (.iadd, 1) := by decide +kernel
theorem dX5_ofCause_9 : decode cX5_ofCause 9 = .ok (.iaload, 1) := by decide +kernel
theorem dX5_ofCause_10 : decode cX5_ofCause 10 = .ok (.ireturn, 1) := by decide +kernel
set_option maxHeartbeats 4000000 in
theorem c_Plan_ofCause_3 {ad wad : Nat → Nat} (a0 : Int32) (a1 : Int32) (h : HS)  (q : Int32 × HS) (hd : f_Plan_ofCause_3 a0 a1 h = some q) : Ctr SHc ad wad yX5_ofCause cX5_ofCause 3 (some .int) 1 [.ref (ad 3), .int a0, .int a1] h (some (.int q.1), q.2) := by
  refine enter (own := RX5) (lv := [(0, .ref (ad 3)), (1, .int a0), (2, .int a1)]) (by decide +kernel) rfl (Nat.le_of_ble_eq_true rfl) rfl (fun Γ hG => ?_)
  unfold f_Plan_ofCause_3 at hd
  refine a_aload_n (pc := 0) hG 0 rfl dX5_ofCause_0 rfl ?_
  refine a_getR (pc := 1) hG sc_3 cl_X5 ok_X5 9 (by decide) rfl t_206 dX5_ofCause_1 ?_
  refine a_iload_n (pc := 4) hG 1 rfl dX5_ofCause_4 rfl ?_
  refine a_iconst (pc := 5) hG dX5_ofCause_5 (v := (nI 4)) rfl ?_
  refine a_imul (pc := 6) hG dX5_ofCause_6 ?_
  refine a_iload_n (pc := 7) hG 2 rfl dX5_ofCause_7 rfl ?_
  refine a_iadd (pc := 8) hG dX5_ofCause_8 ?_
  refine a_iald (pc := 9) hG sc_7 hd dX5_ofCause_9 (fun hd => ?_)
  exact a_iret (pc := 10) hG hd dX5_ofCause_10
theorem dX0_setCause_0 : decode cX0_setCause 0 = .ok (.aload_n 0, 1) := by decide +kernel
theorem dX0_setCause_1 : decode cX0_setCause 1 = .ok (.getfield 9, 3) := by decide +kernel
theorem dX0_setCause_4 : decode cX0_setCause 4 = .ok (.iload_n 1, 1) := by decide +kernel
theorem dX0_setCause_5 : decode cX0_setCause 5 = .ok (.bipush 9, 2) := by decide +kernel
theorem dX0_setCause_7 : decode cX0_setCause 7 = .ok (.imul, 1) := by decide +kernel
theorem dX0_setCause_8 : decode cX0_setCause 8 = .ok (.iload_n 2, 1) := by decide +kernel
theorem dX0_setCause_9 : decode cX0_setCause 9 = .ok (.iadd, 1) := by decide +kernel
theorem dX0_setCause_10 : decode cX0_setCause 10 = .ok (.iload_n 3, 1) := by decide +kernel
theorem dX0_setCause_11 : decode cX0_setCause 11 = .ok (.iastore, 1) := by decide +kernel
theorem dX0_setCause_12 : decode cX0_setCause 12 = .ok (.return_, 1) := by decide +kernel
set_option maxHeartbeats 4000000 in
theorem c_Desk_setCause {ad wad : Nat → Nat} (a0 : Int32) (a1 : Int32) (a2 : Int32) (h : HS)  (q : Unit × HS) (hd : f_Desk_setCause a0 a1 a2 h = some q) : Ctr SHc ad wad yX0_setCause cX0_setCause 4 none 1 [.ref (ad 20), .int a0, .int a1, .int a2] h (none, q.2) := by
  refine enter (own := RX0) (lv := [(0, .ref (ad 20)), (1, .int a0), (2, .int a1), (3, .int a2)]) (by decide +kernel) rfl (Nat.le_of_ble_eq_true rfl) rfl (fun Γ hG => ?_)
  unfold f_Desk_setCause at hd
  refine a_aload_n (pc := 0) hG 0 rfl dX0_setCause_0 rfl ?_
  refine a_getR (pc := 1) hG sc_20 cl_X0 ok_X0 1 (by decide) rfl t_267 dX0_setCause_1 ?_
  refine a_iload_n (pc := 4) hG 1 rfl dX0_setCause_4 rfl ?_
  refine a_bipush (pc := 5) hG dX0_setCause_5 (v := (nI 9)) rfl ?_
  refine a_imul (pc := 7) hG dX0_setCause_7 ?_
  refine a_iload_n (pc := 8) hG 2 rfl dX0_setCause_8 rfl ?_
  refine a_iadd (pc := 9) hG dX0_setCause_9 ?_
  refine a_iload_n (pc := 10) hG 3 rfl dX0_setCause_10 rfl ?_
  refine a_iast (pc := 11) hG sc_21 hd dX0_setCause_11 (fun h1 hd => ?_)
  exact a_vret (pc := 12) hG hd dX0_setCause_12
set_option maxHeartbeats 4000000 in
theorem c_Plan_clerks_3 {ad wad : Nat → Nat}  (h : HS)  (q : Int32 × HS) (hd : f_Plan_clerks_3  h = some q) : Ctr SHc ad wad yX5_clerks cX5_clerks 1 (some .int) 1 [.ref (ad 3)] h (some (.int q.1), q.2) := by
  refine enter (own := RX5) (lv := [(0, .ref (ad 3))]) (by decide +kernel) rfl (Nat.le_of_ble_eq_true rfl) rfl (fun Γ hG => ?_)
  unfold f_Plan_clerks_3 at hd
  refine a_aload_n (pc := 0) hG 0 rfl dX5_clerks_0 rfl ?_
  refine a_getI (pc := 1) hG sc_3 cl_X5 ok_X5 5 (by decide) rfl t_202 dX5_clerks_1 ?_
  exact a_iret (pc := 4) hG hd dX5_clerks_4
theorem dX5_zealOf_0 : decode cX5_zealOf 0 = .ok (.aload_n 0, 1) := by decide +kernel
theorem dX5_zealOf_1 : decode cX5_zealOf 1 = .ok (.getfield 50, 3) := by decide +kernel
theorem dX5_zealOf_4 : decode cX5_zealOf 4 = .ok (.iload_n 1, 1) := by decide +kernel
theorem dX5_zealOf_5 : decode cX5_zealOf 5 = .ok (.iaload, 1) := by decide +kernel
theorem dX5_zealOf_6 : decode cX5_zealOf 6 = .ok (.ireturn, 1) := by decide +kernel
set_option maxHeartbeats 4000000 in
theorem c_Plan_zealOf_3 {ad wad : Nat → Nat} (a0 : Int32) (h : HS)  (q : Int32 × HS) (hd : f_Plan_zealOf_3 a0 h = some q) : Ctr SHc ad wad yX5_zealOf cX5_zealOf 2 (some .int) 1 [.ref (ad 3), .int a0] h (some (.int q.1), q.2) := by
  refine enter (own := RX5) (lv := [(0, .ref (ad 3)), (1, .int a0)]) (by decide +kernel) rfl (Nat.le_of_ble_eq_true rfl) rfl (fun Γ hG => ?_)
  unfold f_Plan_zealOf_3 at hd
  refine a_aload_n (pc := 0) hG 0 rfl dX5_zealOf_0 rfl ?_
  refine a_getR (pc := 1) hG sc_3 cl_X5 ok_X5 12 (by decide) rfl t_209 dX5_zealOf_1 ?_
  refine a_iload_n (pc := 4) hG 1 rfl dX5_zealOf_4 rfl ?_
  refine a_iald (pc := 5) hG sc_10 hd dX5_zealOf_5 (fun hd => ?_)
  exact a_iret (pc := 6) hG hd dX5_zealOf_6
theorem dX0_setClerk_0 : decode cX0_setClerk 0 = .ok (.aload_n 0, 1) := by decide +kernel
theorem dX0_setClerk_1 : decode cX0_setClerk 1 = .ok (.getfield 9, 3) := by decide +kernel
theorem dX0_setClerk_4 : decode cX0_setClerk 4 = .ok (.bipush 54, 2) := by decide +kernel
theorem dX0_setClerk_6 : decode cX0_setClerk 6 = .ok (.iload_n 1, 1) := by decide +kernel
theorem dX0_setClerk_7 : decode cX0_setClerk 7 = .ok (.bipush 6, 2) := by decide +kernel
theorem dX0_setClerk_9 : decode cX0_setClerk 9 = .ok (.imul, 1) := by decide +kernel
theorem dX0_setClerk_10 : decode cX0_setClerk 10 = .ok (.iadd, 1) := by decide +kernel
theorem dX0_setClerk_11 : decode cX0_setClerk 11 = .ok (.iload_n 2, 1) := by decide +kernel
theorem dX0_setClerk_12 : decode cX0_setClerk 12 = .ok (.iadd, 1) := by decide +kernel
theorem dX0_setClerk_13 : decode cX0_setClerk 13 = .ok (.iload_n 3, 1) := by decide +kernel
theorem dX0_setClerk_14 : decode cX0_setClerk 14 = .ok (.iastore, 1) := by decide +kernel
theorem dX0_setClerk_15 : decode cX0_setClerk 15 = .ok (.return_, 1) := by decide +kernel
set_option maxHeartbeats 4000000 in
theorem c_Desk_setClerk {ad wad : Nat → Nat} (a0 : Int32) (a1 : Int32) (a2 : Int32) (h : HS)  (q : Unit × HS) (hd : f_Desk_setClerk a0 a1 a2 h = some q) : Ctr SHc ad wad yX0_setClerk cX0_setClerk 4 none 1 [.ref (ad 20), .int a0, .int a1, .int a2] h (none, q.2) := by
  refine enter (own := RX0) (lv := [(0, .ref (ad 20)), (1, .int a0), (2, .int a1), (3, .int a2)]) (by decide +kernel) rfl (Nat.le_of_ble_eq_true rfl) rfl (fun Γ hG => ?_)
  unfold f_Desk_setClerk at hd
  refine a_aload_n (pc := 0) hG 0 rfl dX0_setClerk_0 rfl ?_
  refine a_getR (pc := 1) hG sc_20 cl_X0 ok_X0 1 (by decide) rfl t_267 dX0_setClerk_1 ?_
  refine a_bipush (pc := 4) hG dX0_setClerk_4 (v := (nI 54)) rfl ?_
  refine a_iload_n (pc := 6) hG 1 rfl dX0_setClerk_6 rfl ?_
  refine a_bipush (pc := 7) hG dX0_setClerk_7 (v := (nI 6)) rfl ?_
  refine a_imul (pc := 9) hG dX0_setClerk_9 ?_
  refine a_iadd (pc := 10) hG dX0_setClerk_10 ?_
  refine a_iload_n (pc := 11) hG 2 rfl dX0_setClerk_11 rfl ?_
  refine a_iadd (pc := 12) hG dX0_setClerk_12 ?_
  refine a_iload_n (pc := 13) hG 3 rfl dX0_setClerk_13 rfl ?_
  refine a_iast (pc := 14) hG sc_21 hd dX0_setClerk_14 (fun h1 hd => ?_)
  exact a_vret (pc := 15) hG hd dX0_setClerk_15
theorem dX5_coin_0 : decode cX5_coin 0 = .ok (.aload_n 0, 1) := by decide +kernel
theorem dX5_coin_1 : decode cX5_coin 1 = .ok (.getfield 18, 3) := by decide +kernel
theorem dX5_coin_4 : decode cX5_coin 4 = .ok (.ireturn, 1) := by decide +kernel
set_option maxHeartbeats 4000000 in
theorem c_Plan_coin_3 {ad wad : Nat → Nat}  (h : HS)  (q : Int32 × HS) (hd : f_Plan_coin_3  h = some q) : Ctr SHc ad wad yX5_coin cX5_coin 1 (some .int) 1 [.ref (ad 3)] h (some (.int q.1), q.2) := by
  refine enter (own := RX5) (lv := [(0, .ref (ad 3))]) (by decide +kernel) rfl (Nat.le_of_ble_eq_true rfl) rfl (fun Γ hG => ?_)
  unfold f_Plan_coin_3 at hd
  refine a_aload_n (pc := 0) hG 0 rfl dX5_coin_0 rfl ?_
  refine a_getI (pc := 1) hG sc_3 cl_X5 ok_X5 2 (by decide) rfl t_199 dX5_coin_1 ?_
  exact a_iret (pc := 4) hG hd dX5_coin_4
theorem dX0_setNow_0 : decode cX0_setNow 0 = .ok (.aload_n 0, 1) := by decide +kernel
theorem dX0_setNow_1 : decode cX0_setNow 1 = .ok (.getfield 9, 3) := by decide +kernel
theorem dX0_setNow_4 : decode cX0_setNow 4 = .ok (.bipush 84, 2) := by decide +kernel
theorem dX0_setNow_6 : decode cX0_setNow 6 = .ok (.iload_n 1, 1) := by decide +kernel
theorem dX0_setNow_7 : decode cX0_setNow 7 = .ok (.iadd, 1) := by decide +kernel
theorem dX0_setNow_8 : decode cX0_setNow 8 = .ok (.iload_n 2, 1) := by decide +kernel
theorem dX0_setNow_9 : decode cX0_setNow 9 = .ok (.iastore, 1) := by decide +kernel
theorem dX0_setNow_10 : decode cX0_setNow 10 = .ok (.return_, 1) := by decide +kernel
set_option maxHeartbeats 4000000 in
theorem c_Desk_setNow {ad wad : Nat → Nat} (a0 : Int32) (a1 : Int32) (h : HS)  (q : Unit × HS) (hd : f_Desk_setNow a0 a1 h = some q) : Ctr SHc ad wad yX0_setNow cX0_setNow 3 none 1 [.ref (ad 20), .int a0, .int a1] h (none, q.2) := by
  refine enter (own := RX0) (lv := [(0, .ref (ad 20)), (1, .int a0), (2, .int a1)]) (by decide +kernel) rfl (Nat.le_of_ble_eq_true rfl) rfl (fun Γ hG => ?_)
  unfold f_Desk_setNow at hd
  refine a_aload_n (pc := 0) hG 0 rfl dX0_setNow_0 rfl ?_
  refine a_getR (pc := 1) hG sc_20 cl_X0 ok_X0 1 (by decide) rfl t_267 dX0_setNow_1 ?_
  refine a_bipush (pc := 4) hG dX0_setNow_4 (v := (nI 84)) rfl ?_
  refine a_iload_n (pc := 6) hG 1 rfl dX0_setNow_6 rfl ?_
  refine a_iadd (pc := 7) hG dX0_setNow_7 ?_
  refine a_iload_n (pc := 8) hG 2 rfl dX0_setNow_8 rfl ?_
  refine a_iast (pc := 9) hG sc_21 hd dX0_setNow_9 (fun h1 hd => ?_)
  exact a_vret (pc := 10) hG hd dX0_setNow_10
theorem dX0_begin_0 : decode cX0_begin 0 = .ok (.iconst 0, 1) := by decide +kernel
theorem dX0_begin_1 : decode cX0_begin 1 = .ok (.istore_n 1, 1) := by decide +kernel
theorem dX0_begin_2 : decode cX0_begin 2 = .ok (.iload_n 1, 1) := by decide +kernel
theorem dX0_begin_3 : decode cX0_begin 3 = .ok (.aload_n 0, 1) := by decide +kernel
theorem dX0_begin_4 : decode cX0_begin 4 = .ok (.getfield 9, 3) := by decide +kernel
theorem dX0_begin_7 : decode cX0_begin 7 = .ok (.arraylength, 1) := by decide +kernel
theorem dX0_begin_8 : decode cX0_begin 8 = .ok (.if_icmp .ge 16, 3) := by decide +kernel
theorem dX0_begin_11 : decode cX0_begin 11 = .ok (.aload_n 0, 1) := by decide +kernel
theorem dX0_begin_12 : decode cX0_begin 12 = .ok (.getfield 9, 3) := by decide +kernel
theorem dX0_begin_15 : decode cX0_begin 15 = .ok (.iload_n 1, 1) := by decide +kernel
theorem dX0_begin_16 : decode cX0_begin 16 = .ok (.iconst 0, 1) := by decide +kernel
theorem dX0_begin_17 : decode cX0_begin 17 = .ok (.iastore, 1) := by decide +kernel
theorem dX0_begin_18 : decode cX0_begin 18 = .ok (.iinc 1 1, 3) := by decide +kernel
theorem dX0_begin_21 : decode cX0_begin 21 = .ok (.goto (-19), 3) := by decide +kernel
theorem dX0_begin_24 : decode cX0_begin 24 = .ok (.iconst 0, 1) := by decide +kernel
theorem dX0_begin_25 : decode cX0_begin 25 = .ok (.istore_n 1, 1) := by decide +kernel
theorem dX0_begin_26 : decode cX0_begin 26 = .ok (.iload_n 1, 1) := by decide +kernel
theorem dX0_begin_27 : decode cX0_begin 27 = .ok (.aload_n 0, 1) := by decide +kernel
theorem dX0_begin_28 : decode cX0_begin 28 = .ok (.getfield 27, 3) := by decide +kernel
theorem dX0_begin_31 : decode cX0_begin 31 = .ok (.invokevirtual 31, 3) := by decide +kernel
theorem dX0_begin_34 : decode cX0_begin 34 = .ok (.if_icmp .ge 59, 3) := by decide +kernel
theorem dX0_begin_37 : decode cX0_begin 37 = .ok (.iconst 0, 1) := by decide +kernel
theorem dX0_begin_38 : decode cX0_begin 38 = .ok (.istore_n 2, 1) := by decide +kernel
theorem dX0_begin_39 : decode cX0_begin 39 = .ok (.iload_n 2, 1) := by decide +kernel
theorem dX0_begin_40 : decode cX0_begin 40 = .ok (.iconst 3, 1) := by decide +kernel
theorem dX0_begin_41 : decode cX0_begin 41 = .ok (.if_icmp .gt 24, 3) := by decide +kernel
theorem dX0_begin_44 : decode cX0_begin 44 = .ok (.aload_n 0, 1) := by decide +kernel
theorem dX0_begin_45 : decode cX0_begin 45 = .ok (.iload_n 1, 1) := by decide +kernel
theorem dX0_begin_46 : decode cX0_begin 46 = .ok (.iload_n 2, 1) := by decide +kernel
theorem dX0_begin_47 : decode cX0_begin 47 = .ok (.aload_n 0, 1) := by decide +kernel
theorem dX0_begin_48 : decode cX0_begin 48 = .ok (.getfield 27, 3) := by decide +kernel
theorem dX0_begin_51 : decode cX0_begin 51 = .ok (.iload_n 1, 1) := by decide +kernel
theorem dX0_begin_52 : decode cX0_begin 52 = .ok (.iload_n 2, 1) := by decide +kernel
theorem dX0_begin_53 : decode cX0_begin 53 = .ok (.invokevirtual 37, 3) := by decide +kernel
theorem dX0_begin_56 : decode cX0_begin 56 = .ok (.invokevirtual 41, 3) := by decide +kernel
theorem dX0_begin_59 : decode cX0_begin 59 = .ok (.iinc 2 1, 3) := by decide +kernel
theorem dX0_begin_62 : decode cX0_begin 62 = .ok (.goto (-23), 3) := by decide +kernel
theorem dX0_begin_65 : decode cX0_begin 65 = .ok (.aload_n 0, 1) := by decide +kernel
theorem dX0_begin_66 : decode cX0_begin 66 = .ok (.iload_n 1, 1) := by decide +kernel
theorem dX0_begin_67 : decode cX0_begin 67 = .ok (.iconst 4, 1) := by decide +kernel
theorem dX0_begin_68 : decode cX0_begin 68 = .ok (.iconst 0, 1) := by decide +kernel
theorem dX0_begin_69 : decode cX0_begin 69 = .ok (.invokevirtual 41, 3) := by decide +kernel
theorem dX0_begin_72 : decode cX0_begin 72 = .ok (.aload_n 0, 1) := by decide +kernel
theorem dX0_begin_73 : decode cX0_begin 73 = .ok (.iload_n 1, 1) := by decide +kernel
theorem dX0_begin_74 : decode cX0_begin 74 = .ok (.iconst 5, 1) := by decide +kernel
theorem dX0_begin_75 : decode cX0_begin 75 = .ok (.iconst (-1), 1) := by decide +kernel
theorem dX0_begin_76 : decode cX0_begin 76 = .ok (.invokevirtual 41, 3) := by decide +kernel
theorem dX0_begin_79 : decode cX0_begin 79 = .ok (.aload_n 0, 1) := by decide +kernel
theorem dX0_begin_80 : decode cX0_begin 80 = .ok (.iload_n 1, 1) := by decide +kernel
theorem dX0_begin_81 : decode cX0_begin 81 = .ok (.bipush 7, 2) := by decide +kernel
theorem dX0_begin_83 : decode cX0_begin 83 = .ok (.iconst (-1), 1) := by decide +kernel
theorem dX0_begin_84 : decode cX0_begin 84 = .ok (.invokevirtual 41, 3) := by decide +kernel
theorem dX0_begin_87 : decode cX0_begin 87 = .ok (.iinc 1 1, 3) := by decide +kernel
theorem dX0_begin_90 : decode cX0_begin 90 = .ok (.goto (-64), 3) := by decide +kernel
theorem dX0_begin_93 : decode cX0_begin 93 = .ok (.iconst 0, 1) := by decide +kernel
theorem dX0_begin_94 : decode cX0_begin 94 = .ok (.istore_n 1, 1) := by decide +kernel
theorem dX0_begin_95 : decode cX0_begin 95 = .ok (.iload_n 1, 1) := by decide +kernel
theorem dX0_begin_96 : decode cX0_begin 96 = .ok (.aload_n 0, 1) := by decide +kernel
theorem dX0_begin_97 : decode cX0_begin 97 = .ok (.getfield 27, 3) := by decide +kernel
theorem dX0_begin_100 : decode cX0_begin 100 = .ok (.invokevirtual 45, 3) := by decide +kernel
theorem dX0_begin_103 : decode cX0_begin 103 = .ok (.if_icmp .ge 44, 3) := by decide +kernel
theorem dX0_begin_106 : decode cX0_begin 106 = .ok (.aload_n 0, 1) := by decide +kernel
theorem dX0_begin_107 : decode cX0_begin 107 = .ok (.iload_n 1, 1) := by decide +kernel
theorem dX0_begin_108 : decode cX0_begin 108 = .ok (.iconst 0, 1) := by decide +kernel
theorem dX0_begin_109 : decode cX0_begin 109 = .ok (.aload_n 0, 1) := by decide +kernel
theorem dX0_begin_110 : decode cX0_begin 110 = .ok (.getfield 27, 3) := by decide +kernel
theorem dX0_begin_113 : decode cX0_begin 113 = .ok (.iload_n 1, 1) := by decide +kernel
theorem dX0_begin_114 : decode cX0_begin 114 = .ok (.invokevirtual 48, 3) := by decide +kernel
theorem dX0_begin_117 : decode cX0_begin 117 = .ok (.invokevirtual 52, 3) := by decide +kernel
theorem dX0_begin_120 : decode cX0_begin 120 = .ok (.aload_n 0, 1) := by decide +kernel
theorem dX0_begin_121 : decode cX0_begin 121 = .ok (.iload_n 1, 1) := by decide +kernel
theorem dX0_begin_122 : decode cX0_begin 122 = .ok (.iconst 1, 1) := by decide +kernel
theorem dX0_begin_123 : decode cX0_begin 123 = .ok (.aload_n 0, 1) := by decide +kernel
theorem dX0_begin_124 : decode cX0_begin 124 = .ok (.getfield 27, 3) := by decide +kernel
theorem dX0_begin_127 : decode cX0_begin 127 = .ok (.iload_n 1, 1) := by decide +kernel
theorem dX0_begin_128 : decode cX0_begin 128 = .ok (.invokevirtual 48, 3) := by decide +kernel
theorem dX0_begin_131 : decode cX0_begin 131 = .ok (.invokevirtual 52, 3) := by decide +kernel
theorem dX0_begin_134 : decode cX0_begin 134 = .ok (.aload_n 0, 1) := by decide +kernel
theorem dX0_begin_135 : decode cX0_begin 135 = .ok (.iload_n 1, 1) := by decide +kernel
theorem dX0_begin_136 : decode cX0_begin 136 = .ok (.iconst 2, 1) := by decide +kernel
theorem dX0_begin_137 : decode cX0_begin 137 = .ok (.iconst (-1), 1) := by decide +kernel
theorem dX0_begin_138 : decode cX0_begin 138 = .ok (.invokevirtual 52, 3) := by decide +kernel
theorem dX0_begin_141 : decode cX0_begin 141 = .ok (.iinc 1 1, 3) := by decide +kernel
theorem dX0_begin_144 : decode cX0_begin 144 = .ok (.goto (-49), 3) := by decide +kernel
theorem dX0_begin_147 : decode cX0_begin 147 = .ok (.aload_n 0, 1) := by decide +kernel
theorem dX0_begin_148 : decode cX0_begin 148 = .ok (.iconst 1, 1) := by decide +kernel
theorem dX0_begin_149 : decode cX0_begin 149 = .ok (.aload_n 0, 1) := by decide +kernel
theorem dX0_begin_150 : decode cX0_begin 150 = .ok (.getfield 27, 3) := by decide +kernel
theorem dX0_begin_153 : decode cX0_begin 153 = .ok (.invokevirtual 55, 3) := by decide +kernel
theorem dX0_begin_156 : decode cX0_begin 156 = .ok (.invokevirtual 58, 3) := by decide +kernel
theorem dX0_begin_159 : decode cX0_begin 159 = .ok (.aload_n 0, 1) := by decide +kernel
theorem dX0_begin_160 : decode cX0_begin 160 = .ok (.iconst 5, 1) := by decide +kernel
theorem dX0_begin_161 : decode cX0_begin 161 = .ok (.iconst (-1), 1) := by decide +kernel
theorem dX0_begin_162 : decode cX0_begin 162 = .ok (.invokevirtual 58, 3) := by decide +kernel
theorem dX0_begin_165 : decode cX0_begin 165 = .ok (.return_, 1) := by decide +kernel
set_option maxHeartbeats 4000000 in
theorem w_l_Desk_begin_0 {ad wad : Nat → Nat} {Γ : Ctx} (F : Nat) {n : Nat} (hn : 2 ≤ n) (hG : Cx SHc ad wad cX0_begin 3 RX0 none (n) Γ) {q : Unit × HS} {K0 : HS → Option (Unit × HS)} {g : Nat} {x1 : Int32} {h : HS} (hd : l_Desk_begin_0 F K0 g x1 h = some q) (hK0 : ∀ (z : HS), K0 z = some q → AW SHc ad 3 (none, q.2) Γ 24 [(0, .ref (ad 20))] [] z) : AW SHc ad 3 (none, q.2) Γ 2 [(0, .ref (ad 20)), (1, .int x1)] [] h := by
  induction g generalizing x1 h with
  | zero => unfold l_Desk_begin_0 at hd; cases hd
  | succ g ih =>
    unfold l_Desk_begin_0 at hd
    refine a_iload_n (pc := 2) hG 1 rfl dX0_begin_2 rfl ?_
    refine a_aload_n (pc := 3) hG 0 rfl dX0_begin_3 rfl ?_
    refine a_getR (pc := 4) hG sc_20 cl_X0 ok_X0 1 (by decide) rfl t_267 dX0_begin_4 ?_
    refine a_alenI (pc := 7) hG sc_21 (fun _ => rfl) (v := nI 91) rfl dX0_begin_7 ?_
    refine a_ic_ge (pc := 8) hG (tgt := 24) hd dX0_begin_8 (by decide) (fun hd => ?_) (fun hd => ?_)
    · exact AW.sub [0] rfl (hK0  _ hd)
    refine a_aload_n (pc := 11) hG 0 rfl dX0_begin_11 rfl ?_
    refine a_getR (pc := 12) hG sc_20 cl_X0 ok_X0 1 (by decide) rfl t_267 dX0_begin_12 ?_
    refine a_iload_n (pc := 15) hG 1 rfl dX0_begin_15 rfl ?_
    refine a_iconst (pc := 16) hG dX0_begin_16 (v := (nI 0)) rfl ?_
    refine a_iast (pc := 17) hG sc_21 hd dX0_begin_17 (fun h2 hd => ?_)
    refine a_iincN (pc := 18) hG (c0 := (nI 1)) 1 rfl hd dX0_begin_18 rfl (by decide) (lf := fun x => [(1, .int x), (0, .ref (ad 20))]) (fun _ => rfl) (fun v3 hd => ?_)
    refine a_goto (pc := 21) hG (tgt := 2) dX0_begin_21 (by decide) ?_
    exact AW.sub [1, 0] rfl (ih hd)
set_option maxHeartbeats 4000000 in
theorem w_l_Desk_begin_2 {ad wad : Nat → Nat} {Γ : Ctx} (F : Nat) {n : Nat} (hn : 2 ≤ n) (hG : Cx SHc ad wad cX0_begin 3 RX0 none (n) Γ) {q : Unit × HS} {x1 : Int32} {K0 : HS → Option (Unit × HS)} {g : Nat} {x2 : Int32} {h : HS} (hd : l_Desk_begin_2 F x1 K0 g x2 h = some q) (hK0 : ∀ (z : HS), K0 z = some q → AW SHc ad 3 (none, q.2) Γ 65 [(0, .ref (ad 20)), (1, .int x1)] [] z) : AW SHc ad 3 (none, q.2) Γ 39 [(0, .ref (ad 20)), (1, .int x1), (2, .int x2)] [] h := by
  induction g generalizing x2 h with
  | zero => unfold l_Desk_begin_2 at hd; cases hd
  | succ g ih =>
    unfold l_Desk_begin_2 at hd
    refine a_iload_n (pc := 39) hG 2 rfl dX0_begin_39 rfl ?_
    refine a_iconst (pc := 40) hG dX0_begin_40 (v := (nI 3)) rfl ?_
    refine a_ic_gt (pc := 41) hG (tgt := 65) hd dX0_begin_41 (by decide) (fun hd => ?_) (fun hd => ?_)
    · exact AW.sub [0, 1] rfl (hK0  _ hd)
    refine a_aload_n (pc := 44) hG 0 rfl dX0_begin_44 rfl ?_
    refine a_iload_n (pc := 45) hG 1 rfl dX0_begin_45 rfl ?_
    refine a_iload_n (pc := 46) hG 2 rfl dX0_begin_46 rfl ?_
    refine a_aload_n (pc := 47) hG 0 rfl dX0_begin_47 rfl ?_
    refine a_getR (pc := 48) hG sc_20 cl_X0 ok_X0 0 (by decide) rfl t_266 dX0_begin_48 ?_
    refine a_iload_n (pc := 51) hG 1 rfl dX0_begin_51 rfl ?_
    refine a_iload_n (pc := 52) hG 2 rfl dX0_begin_52 rfl ?_
    refine a_cvI (pc := 53) hG (As := [.int x1, .int x2]) (st := [.int x2, .int x1, .ref (ad 20)]) sc_3 cl_X5 mk_X5_ofCause t_441 (by omega) (fun z hz => c_Plan_ofCause_3 x1 x2 _  z hz) rfl (Nat.le_of_ble_eq_true rfl) hd dX0_begin_53 (fun r10 h9 hd => ?_)
    refine a_cvN (pc := 56) hG (As := [.int x1, .int x2, .int r10]) (st := []) sc_20 cl_X0 mk_X0_setCause t_445 (by omega) (fun z hz => c_Desk_setCause x1 x2 r10 _  z hz) rfl (Nat.le_of_ble_eq_true rfl) hd dX0_begin_56 (fun _ h11 hd => ?_)
    refine a_iincN (pc := 59) hG (c0 := (nI 1)) 2 rfl hd dX0_begin_59 rfl (by decide) (lf := fun x => [(2, .int x), (0, .ref (ad 20)), (1, .int x1)]) (fun _ => rfl) (fun v12 hd => ?_)
    refine a_goto (pc := 62) hG (tgt := 39) dX0_begin_62 (by decide) ?_
    exact AW.sub [1, 2, 0] rfl (ih hd)
set_option maxHeartbeats 4000000 in
theorem w_l_Desk_begin_1 {ad wad : Nat → Nat} {Γ : Ctx} (F : Nat) {n : Nat} (hn : 2 ≤ n) (hG : Cx SHc ad wad cX0_begin 3 RX0 none (n) Γ) {q : Unit × HS} {K0 : HS → Option (Unit × HS)} {g : Nat} {x1 : Int32} {h : HS} (hd : l_Desk_begin_1 F K0 g x1 h = some q) (hK0 : ∀ (z : HS), K0 z = some q → AW SHc ad 3 (none, q.2) Γ 93 [(0, .ref (ad 20))] [] z) : AW SHc ad 3 (none, q.2) Γ 26 [(0, .ref (ad 20)), (1, .int x1)] [] h := by
  induction g generalizing x1 h with
  | zero => unfold l_Desk_begin_1 at hd; cases hd
  | succ g ih =>
    unfold l_Desk_begin_1 at hd
    refine a_iload_n (pc := 26) hG 1 rfl dX0_begin_26 rfl ?_
    refine a_aload_n (pc := 27) hG 0 rfl dX0_begin_27 rfl ?_
    refine a_getR (pc := 28) hG sc_20 cl_X0 ok_X0 0 (by decide) rfl t_266 dX0_begin_28 ?_
    refine a_cvI (pc := 31) hG (As := []) (st := [.int x1]) sc_3 cl_X5 mk_X5_causes t_437 (by omega) (fun z hz => c_Plan_causes_3  _  z hz) rfl (Nat.le_of_ble_eq_true rfl) hd dX0_begin_31 (fun r7 h6 hd => ?_)
    refine a_ic_ge (pc := 34) hG (tgt := 93) hd dX0_begin_34 (by decide) (fun hd => ?_) (fun hd => ?_)
    · exact AW.sub [0] rfl (hK0  _ hd)
    refine a_iconst (pc := 37) hG dX0_begin_37 (v := (nI 0)) rfl ?_
    refine a_istore_nN (pc := 38) hG hd dX0_begin_38 rfl (by decide) (lf := fun x => [(2, .int x), (0, .ref (ad 20)), (1, .int x1)]) (fun _ => rfl) (fun v8 hd => ?_)
    refine AW.sub [1, 2, 0] rfl ?_
    refine w_l_Desk_begin_2 F (by omega) hG hd (fun h13 hd => ?_)
    refine a_aload_n (pc := 65) hG 0 rfl dX0_begin_65 rfl ?_
    refine a_iload_n (pc := 66) hG 1 rfl dX0_begin_66 rfl ?_
    refine a_iconst (pc := 67) hG dX0_begin_67 (v := (nI 4)) rfl ?_
    refine a_iconst (pc := 68) hG dX0_begin_68 (v := (nI 0)) rfl ?_
    refine a_cvN (pc := 69) hG (As := [.int x1, .int (nI 4), .int (nI 0)]) (st := []) sc_20 cl_X0 mk_X0_setCause t_445 (by omega) (fun z hz => c_Desk_setCause x1 (nI 4) (nI 0) _  z hz) rfl (Nat.le_of_ble_eq_true rfl) hd dX0_begin_69 (fun _ h14 hd => ?_)
    refine a_aload_n (pc := 72) hG 0 rfl dX0_begin_72 rfl ?_
    refine a_iload_n (pc := 73) hG 1 rfl dX0_begin_73 rfl ?_
    refine a_iconst (pc := 74) hG dX0_begin_74 (v := (nI 5)) rfl ?_
    refine a_iconst (pc := 75) hG dX0_begin_75 (v := (-1 : Int32)) rfl ?_
    refine a_cvN (pc := 76) hG (As := [.int x1, .int (nI 5), .int (-1 : Int32)]) (st := []) sc_20 cl_X0 mk_X0_setCause t_445 (by omega) (fun z hz => c_Desk_setCause x1 (nI 5) (-1 : Int32) _  z hz) rfl (Nat.le_of_ble_eq_true rfl) hd dX0_begin_76 (fun _ h15 hd => ?_)
    refine a_aload_n (pc := 79) hG 0 rfl dX0_begin_79 rfl ?_
    refine a_iload_n (pc := 80) hG 1 rfl dX0_begin_80 rfl ?_
    refine a_bipush (pc := 81) hG dX0_begin_81 (v := (nI 7)) rfl ?_
    refine a_iconst (pc := 83) hG dX0_begin_83 (v := (-1 : Int32)) rfl ?_
    refine a_cvN (pc := 84) hG (As := [.int x1, .int (nI 7), .int (-1 : Int32)]) (st := []) sc_20 cl_X0 mk_X0_setCause t_445 (by omega) (fun z hz => c_Desk_setCause x1 (nI 7) (-1 : Int32) _  z hz) rfl (Nat.le_of_ble_eq_true rfl) hd dX0_begin_84 (fun _ h16 hd => ?_)
    refine a_iincN (pc := 87) hG (c0 := (nI 1)) 1 rfl hd dX0_begin_87 rfl (by decide) (lf := fun x => [(1, .int x), (0, .ref (ad 20))]) (fun _ => rfl) (fun v17 hd => ?_)
    refine a_goto (pc := 90) hG (tgt := 26) dX0_begin_90 (by decide) ?_
    exact AW.sub [1, 0] rfl (ih hd)
set_option maxHeartbeats 4000000 in
theorem w_l_Desk_begin_3 {ad wad : Nat → Nat} {Γ : Ctx} (F : Nat) {n : Nat} (hn : 2 ≤ n) (hG : Cx SHc ad wad cX0_begin 3 RX0 none (n) Γ) {q : Unit × HS} {K0 : HS → Option (Unit × HS)} {g : Nat} {x1 : Int32} {h : HS} (hd : l_Desk_begin_3 F K0 g x1 h = some q) (hK0 : ∀ (z : HS), K0 z = some q → AW SHc ad 3 (none, q.2) Γ 147 [(0, .ref (ad 20))] [] z) : AW SHc ad 3 (none, q.2) Γ 95 [(0, .ref (ad 20)), (1, .int x1)] [] h := by
  induction g generalizing x1 h with
  | zero => unfold l_Desk_begin_3 at hd; cases hd
  | succ g ih =>
    unfold l_Desk_begin_3 at hd
    refine a_iload_n (pc := 95) hG 1 rfl dX0_begin_95 rfl ?_
    refine a_aload_n (pc := 96) hG 0 rfl dX0_begin_96 rfl ?_
    refine a_getR (pc := 97) hG sc_20 cl_X0 ok_X0 0 (by decide) rfl t_266 dX0_begin_97 ?_
    refine a_cvI (pc := 100) hG (As := []) (st := [.int x1]) sc_3 cl_X5 mk_X5_clerks t_449 (by omega) (fun z hz => c_Plan_clerks_3  _  z hz) rfl (Nat.le_of_ble_eq_true rfl) hd dX0_begin_100 (fun r21 h20 hd => ?_)
    refine a_ic_ge (pc := 103) hG (tgt := 147) hd dX0_begin_103 (by decide) (fun hd => ?_) (fun hd => ?_)
    · exact AW.sub [0] rfl (hK0  _ hd)
    refine a_aload_n (pc := 106) hG 0 rfl dX0_begin_106 rfl ?_
    refine a_iload_n (pc := 107) hG 1 rfl dX0_begin_107 rfl ?_
    refine a_iconst (pc := 108) hG dX0_begin_108 (v := (nI 0)) rfl ?_
    refine a_aload_n (pc := 109) hG 0 rfl dX0_begin_109 rfl ?_
    refine a_getR (pc := 110) hG sc_20 cl_X0 ok_X0 0 (by decide) rfl t_266 dX0_begin_110 ?_
    refine a_iload_n (pc := 113) hG 1 rfl dX0_begin_113 rfl ?_
    refine a_cvI (pc := 114) hG (As := [.int x1]) (st := [.int (nI 0), .int x1, .ref (ad 20)]) sc_3 cl_X5 mk_X5_zealOf t_453 (by omega) (fun z hz => c_Plan_zealOf_3 x1 _  z hz) rfl (Nat.le_of_ble_eq_true rfl) hd dX0_begin_114 (fun r23 h22 hd => ?_)
    refine a_cvN (pc := 117) hG (As := [.int x1, .int (nI 0), .int r23]) (st := []) sc_20 cl_X0 mk_X0_setClerk t_457 (by omega) (fun z hz => c_Desk_setClerk x1 (nI 0) r23 _  z hz) rfl (Nat.le_of_ble_eq_true rfl) hd dX0_begin_117 (fun _ h24 hd => ?_)
    refine a_aload_n (pc := 120) hG 0 rfl dX0_begin_120 rfl ?_
    refine a_iload_n (pc := 121) hG 1 rfl dX0_begin_121 rfl ?_
    refine a_iconst (pc := 122) hG dX0_begin_122 (v := (nI 1)) rfl ?_
    refine a_aload_n (pc := 123) hG 0 rfl dX0_begin_123 rfl ?_
    refine a_getR (pc := 124) hG sc_20 cl_X0 ok_X0 0 (by decide) rfl t_266 dX0_begin_124 ?_
    refine a_iload_n (pc := 127) hG 1 rfl dX0_begin_127 rfl ?_
    refine a_cvI (pc := 128) hG (As := [.int x1]) (st := [.int (nI 1), .int x1, .ref (ad 20)]) sc_3 cl_X5 mk_X5_zealOf t_453 (by omega) (fun z hz => c_Plan_zealOf_3 x1 _  z hz) rfl (Nat.le_of_ble_eq_true rfl) hd dX0_begin_128 (fun r26 h25 hd => ?_)
    refine a_cvN (pc := 131) hG (As := [.int x1, .int (nI 1), .int r26]) (st := []) sc_20 cl_X0 mk_X0_setClerk t_457 (by omega) (fun z hz => c_Desk_setClerk x1 (nI 1) r26 _  z hz) rfl (Nat.le_of_ble_eq_true rfl) hd dX0_begin_131 (fun _ h27 hd => ?_)
    refine a_aload_n (pc := 134) hG 0 rfl dX0_begin_134 rfl ?_
    refine a_iload_n (pc := 135) hG 1 rfl dX0_begin_135 rfl ?_
    refine a_iconst (pc := 136) hG dX0_begin_136 (v := (nI 2)) rfl ?_
    refine a_iconst (pc := 137) hG dX0_begin_137 (v := (-1 : Int32)) rfl ?_
    refine a_cvN (pc := 138) hG (As := [.int x1, .int (nI 2), .int (-1 : Int32)]) (st := []) sc_20 cl_X0 mk_X0_setClerk t_457 (by omega) (fun z hz => c_Desk_setClerk x1 (nI 2) (-1 : Int32) _  z hz) rfl (Nat.le_of_ble_eq_true rfl) hd dX0_begin_138 (fun _ h28 hd => ?_)
    refine a_iincN (pc := 141) hG (c0 := (nI 1)) 1 rfl hd dX0_begin_141 rfl (by decide) (lf := fun x => [(1, .int x), (0, .ref (ad 20))]) (fun _ => rfl) (fun v29 hd => ?_)
    refine a_goto (pc := 144) hG (tgt := 95) dX0_begin_144 (by decide) ?_
    exact AW.sub [1, 0] rfl (ih hd)
set_option maxHeartbeats 4000000 in
theorem c_Desk_begin {ad wad : Nat → Nat} (F : Nat)  (h : HS)  (q : Unit × HS) (hd : f_Desk_begin F  h = some q) : Ctr SHc ad wad yX0_begin cX0_begin 3 none 2 [.ref (ad 20)] h (none, q.2) := by
  refine enter (own := RX0) (lv := [(0, .ref (ad 20))]) (by decide +kernel) rfl (Nat.le_of_ble_eq_true rfl) rfl (fun Γ hG => ?_)
  unfold f_Desk_begin at hd
  refine a_iconst (pc := 0) hG dX0_begin_0 (v := (nI 0)) rfl ?_
  refine a_istore_nN (pc := 1) hG hd dX0_begin_1 rfl (by decide) (lf := fun x => [(1, .int x), (0, .ref (ad 20))]) (fun _ => rfl) (fun v1 hd => ?_)
  refine AW.sub [1, 0] rfl ?_
  refine w_l_Desk_begin_0 F (by omega) hG hd (fun h4 hd => ?_)
  refine a_iconst (pc := 24) hG dX0_begin_24 (v := (nI 0)) rfl ?_
  refine a_istore_nN (pc := 25) hG hd dX0_begin_25 rfl (by decide) (lf := fun x => [(1, .int x), (0, .ref (ad 20))]) (fun _ => rfl) (fun v5 hd => ?_)
  refine AW.sub [1, 0] rfl ?_
  refine w_l_Desk_begin_1 F (by omega) hG hd (fun h18 hd => ?_)
  refine a_iconst (pc := 93) hG dX0_begin_93 (v := (nI 0)) rfl ?_
  refine a_istore_nN (pc := 94) hG hd dX0_begin_94 rfl (by decide) (lf := fun x => [(1, .int x), (0, .ref (ad 20))]) (fun _ => rfl) (fun v19 hd => ?_)
  refine AW.sub [1, 0] rfl ?_
  refine w_l_Desk_begin_3 F (by omega) hG hd (fun h30 hd => ?_)
  refine a_aload_n (pc := 147) hG 0 rfl dX0_begin_147 rfl ?_
  refine a_iconst (pc := 148) hG dX0_begin_148 (v := (nI 1)) rfl ?_
  refine a_aload_n (pc := 149) hG 0 rfl dX0_begin_149 rfl ?_
  refine a_getR (pc := 150) hG sc_20 cl_X0 ok_X0 0 (by decide) rfl t_266 dX0_begin_150 ?_
  refine a_cvI (pc := 153) hG (As := []) (st := [.int (nI 1), .ref (ad 20)]) sc_3 cl_X5 mk_X5_coin t_461 (by omega) (fun z hz => c_Plan_coin_3  _  z hz) rfl (Nat.le_of_ble_eq_true rfl) hd dX0_begin_153 (fun r32 h31 hd => ?_)
  refine a_cvN (pc := 156) hG (As := [.int (nI 1), .int r32]) (st := []) sc_20 cl_X0 mk_X0_setNow t_465 (by omega) (fun z hz => c_Desk_setNow (nI 1) r32 _  z hz) rfl (Nat.le_of_ble_eq_true rfl) hd dX0_begin_156 (fun _ h33 hd => ?_)
  refine a_aload_n (pc := 159) hG 0 rfl dX0_begin_159 rfl ?_
  refine a_iconst (pc := 160) hG dX0_begin_160 (v := (nI 5)) rfl ?_
  refine a_iconst (pc := 161) hG dX0_begin_161 (v := (-1 : Int32)) rfl ?_
  refine a_cvN (pc := 162) hG (As := [.int (nI 5), .int (-1 : Int32)]) (st := []) sc_20 cl_X0 mk_X0_setNow t_465 (by omega) (fun z hz => c_Desk_setNow (nI 5) (-1 : Int32) _  z hz) rfl (Nat.le_of_ble_eq_true rfl) hd dX0_begin_162 (fun _ h34 hd => ?_)
  exact a_vret (pc := 165) hG hd dX0_begin_165
theorem dX7_empty_0 : decode cX7_empty 0 = .ok (.aload_n 0, 1) := by decide +kernel
theorem dX7_empty_1 : decode cX7_empty 1 = .ok (.iconst 0, 1) := by decide +kernel
theorem dX7_empty_2 : decode cX7_empty 2 = .ok (.putfield 21, 3) := by decide +kernel
theorem dX7_empty_5 : decode cX7_empty 5 = .ok (.return_, 1) := by decide +kernel
set_option maxHeartbeats 4000000 in
theorem c_Sent_empty_42 {ad wad : Nat → Nat}  (h : HS)  (q : Unit × HS) (hd : f_Sent_empty_42  h = some q) : Ctr SHc ad wad yX7_empty cX7_empty 1 none 1 [.ref (ad 42)] h (none, q.2) := by
  refine enter (own := RX7) (lv := [(0, .ref (ad 42))]) (by decide +kernel) rfl (Nat.le_of_ble_eq_true rfl) rfl (fun Γ hG => ?_)
  unfold f_Sent_empty_42 at hd
  refine a_aload_n (pc := 0) hG 0 rfl dX7_empty_0 rfl ?_
  refine a_iconst (pc := 1) hG dX7_empty_1 (v := (nI 0)) rfl ?_
  refine a_putI (pc := 2) hG sc_42 cl_X7 ok_X7 3 (by decide) rfl t_369 rfl (ty := .int) rfl rfl rfl hd dX7_empty_2 (fun h1 hd => ?_)
  exact a_vret (pc := 5) hG hd dX7_empty_5
theorem dX0_forget_0 : decode cX0_forget 0 = .ok (.aload_n 0, 1) := by decide +kernel
theorem dX0_forget_1 : decode cX0_forget 1 = .ok (.iconst 0, 1) := by decide +kernel
theorem dX0_forget_2 : decode cX0_forget 2 = .ok (.putfield 24, 3) := by decide +kernel
theorem dX0_forget_5 : decode cX0_forget 5 = .ok (.return_, 1) := by decide +kernel
set_option maxHeartbeats 4000000 in
theorem c_Desk_forget {ad wad : Nat → Nat}  (h : HS)  (q : Unit × HS) (hd : f_Desk_forget  h = some q) : Ctr SHc ad wad yX0_forget cX0_forget 1 none 1 [.ref (ad 20)] h (none, q.2) := by
  refine enter (own := RX0) (lv := [(0, .ref (ad 20))]) (by decide +kernel) rfl (Nat.le_of_ble_eq_true rfl) rfl (fun Γ hG => ?_)
  unfold f_Desk_forget at hd
  refine a_aload_n (pc := 0) hG 0 rfl dX0_forget_0 rfl ?_
  refine a_iconst (pc := 1) hG dX0_forget_1 (v := (nI 0)) rfl ?_
  refine a_putI (pc := 2) hG sc_20 cl_X0 ok_X0 4 (by decide) rfl t_270 rfl (ty := .int) rfl rfl rfl hd dX0_forget_2 (fun h1 hd => ?_)
  exact a_vret (pc := 5) hG hd dX0_forget_5
theorem dX8_faultPlace_0 : decode cX8_faultPlace 0 = .ok (.aload_n 0, 1) := by decide +kernel
theorem dX8_faultPlace_1 : decode cX8_faultPlace 1 = .ok (.getfield 44, 3) := by decide +kernel
theorem dX8_faultPlace_4 : decode cX8_faultPlace 4 = .ok (.ireturn, 1) := by decide +kernel
set_option maxHeartbeats 4000000 in
theorem c_Tape_faultPlace {ad wad : Nat → Nat}  (h : HS)  (q : Int32 × HS) (hd : f_Tape_faultPlace  h = some q) : Ctr SHc ad wad yX8_faultPlace cX8_faultPlace 1 (some .int) 1 [.ref (ad 1)] h (some (.int q.1), q.2) := by
  refine enter (own := RX8) (lv := [(0, .ref (ad 1))]) (by decide +kernel) rfl (Nat.le_of_ble_eq_true rfl) rfl (fun Γ hG => ?_)
  unfold f_Tape_faultPlace at hd
  refine a_aload_n (pc := 0) hG 0 rfl dX8_faultPlace_0 rfl ?_
  refine a_getI (pc := 1) hG sc_1 cl_X8 ok_X8 10 (by decide) rfl t_166 dX8_faultPlace_1 ?_
  exact a_iret (pc := 4) hG hd dX8_faultPlace_4
theorem dX11_office_0 : decode cX11_office 0 = .ok (.aload_n 0, 1) := by decide +kernel
theorem dX11_office_1 : decode cX11_office 1 = .ok (.getfield 31, 3) := by decide +kernel
theorem dX11_office_4 : decode cX11_office 4 = .ok (.invokevirtual 128, 3) := by decide +kernel
theorem dX11_office_7 : decode cX11_office 7 = .ok (.istore_n 1, 1) := by decide +kernel
theorem dX11_office_8 : decode cX11_office 8 = .ok (.aload_n 0, 1) := by decide +kernel
theorem dX11_office_9 : decode cX11_office 9 = .ok (.getfield 12, 3) := by decide +kernel
theorem dX11_office_12 : decode cX11_office 12 = .ok (.invokevirtual 131, 3) := by decide +kernel
theorem dX11_office_15 : decode cX11_office 15 = .ok (.aload_n 0, 1) := by decide +kernel
theorem dX11_office_16 : decode cX11_office 16 = .ok (.aload_n 0, 1) := by decide +kernel
theorem dX11_office_17 : decode cX11_office 17 = .ok (.getfield 12, 3) := by decide +kernel
theorem dX11_office_20 : decode cX11_office 20 = .ok (.invokevirtual 134, 3) := by decide +kernel
theorem dX11_office_23 : decode cX11_office 23 = .ok (.putfield 103, 3) := by decide +kernel
theorem dX11_office_26 : decode cX11_office 26 = .ok (.iload_n 1, 1) := by decide +kernel
theorem dX11_office_27 : decode cX11_office 27 = .ok (.iconst (-1), 1) := by decide +kernel
theorem dX11_office_28 : decode cX11_office 28 = .ok (.if_icmp .ne 13, 3) := by decide +kernel
theorem dX11_office_31 : decode cX11_office 31 = .ok (.iconst (-1), 1) := by decide +kernel
theorem dX11_office_32 : decode cX11_office 32 = .ok (.aload_n 0, 1) := by decide +kernel
theorem dX11_office_33 : decode cX11_office 33 = .ok (.getfield 12, 3) := by decide +kernel
theorem dX11_office_36 : decode cX11_office 36 = .ok (.invokevirtual 137, 3) := by decide +kernel
theorem dX11_office_39 : decode cX11_office 39 = .ok (.isub, 1) := by decide +kernel
theorem dX11_office_40 : decode cX11_office 40 = .ok (.ireturn, 1) := by decide +kernel
theorem dX11_office_41 : decode cX11_office 41 = .ok (.aload_n 0, 1) := by decide +kernel
theorem dX11_office_42 : decode cX11_office 42 = .ok (.getfield 19, 3) := by decide +kernel
theorem dX11_office_45 : decode cX11_office 45 = .ok (.aload_n 0, 1) := by decide +kernel
theorem dX11_office_46 : decode cX11_office 46 = .ok (.getfield 23, 3) := by decide +kernel
theorem dX11_office_49 : decode cX11_office 49 = .ok (.invokevirtual 140, 3) := by decide +kernel
theorem dX11_office_52 : decode cX11_office 52 = .ok (.aload_n 0, 1) := by decide +kernel
theorem dX11_office_53 : decode cX11_office 53 = .ok (.getfield 49, 3) := by decide +kernel
theorem dX11_office_56 : decode cX11_office 56 = .ok (.invokevirtual 113, 3) := by decide +kernel
theorem dX11_office_59 : decode cX11_office 59 = .ok (.aload_n 0, 1) := by decide +kernel
theorem dX11_office_60 : decode cX11_office 60 = .ok (.getfield 40, 3) := by decide +kernel
theorem dX11_office_63 : decode cX11_office 63 = .ok (.invokevirtual 110, 3) := by decide +kernel
theorem dX11_office_66 : decode cX11_office 66 = .ok (.aload_n 0, 1) := by decide +kernel
theorem dX11_office_67 : decode cX11_office 67 = .ok (.getfield 72, 3) := by decide +kernel
theorem dX11_office_70 : decode cX11_office 70 = .ok (.invokevirtual 143, 3) := by decide +kernel
theorem dX11_office_73 : decode cX11_office 73 = .ok (.aload_n 0, 1) := by decide +kernel
theorem dX11_office_74 : decode cX11_office 74 = .ok (.getfield 40, 3) := by decide +kernel
theorem dX11_office_77 : decode cX11_office 77 = .ok (.invokevirtual 144, 3) := by decide +kernel
theorem dX11_office_80 : decode cX11_office 80 = .ok (.iload_n 1, 1) := by decide +kernel
theorem dX11_office_81 : decode cX11_office 81 = .ok (.ireturn, 1) := by decide +kernel
set_option maxHeartbeats 4000000 in
theorem c_LC_office {ad wad : Nat → Nat} (F : Nat)  (h : HS)  (q : Int32 × HS) (hd : f_LC_office F  h = some q) : Ctr SHc ad wad yX11_office cX11_office 2 (some .int) 8 [.ref (ad 0)] h (some (.int q.1), q.2) := by
  refine enter (own := RX11) (lv := [(0, .ref (ad 0))]) (by decide +kernel) rfl (Nat.le_of_ble_eq_true rfl) rfl (fun Γ hG => ?_)
  unfold f_LC_office at hd
  refine a_aload_n (pc := 0) hG 0 rfl dX11_office_0 rfl ?_
  refine a_getR (pc := 1) hG sc_0 cl_X11 ok_X11 3 (by decide) rfl t_484 dX11_office_1 ?_
  refine a_cvI (pc := 4) hG (As := []) (st := []) sc_19 cl_X4 mk_X4_read t_561 (by omega) (fun z hz => c_OffR_read F  _  z hz) rfl (Nat.le_of_ble_eq_true rfl) hd dX11_office_4 (fun r2 h1 hd => ?_)
  refine a_istore_nN (pc := 7) hG hd dX11_office_7 rfl (by decide) (lf := fun x => [(1, .int x), (0, .ref (ad 0))]) (fun _ => rfl) (fun v3 hd => ?_)
  refine a_aload_n (pc := 8) hG 1 rfl dX11_office_8 rfl ?_
  refine a_getR (pc := 9) hG sc_0 cl_X11 ok_X11 0 (by decide) rfl t_481 dX11_office_9 ?_
  refine a_cvN (pc := 12) hG (As := []) (st := []) sc_1 cl_X8 mk_X8_empty t_746 (by omega) (fun z hz => c_Tape_empty  _  z hz) rfl (Nat.le_of_ble_eq_true rfl) hd dX11_office_12 (fun _ h4 hd => ?_)
  refine a_aload_n (pc := 15) hG 1 rfl dX11_office_15 rfl ?_
  refine a_aload_n (pc := 16) hG 1 rfl dX11_office_16 rfl ?_
  refine a_getR (pc := 17) hG sc_0 cl_X11 ok_X11 0 (by decide) rfl t_481 dX11_office_17 ?_
  refine a_cvI (pc := 20) hG (As := []) (st := [.ref (ad 0)]) sc_1 cl_X8 mk_X8_faultKind t_750 (by omega) (fun z hz => c_Tape_faultKind  _  z hz) rfl (Nat.le_of_ble_eq_true rfl) hd dX11_office_20 (fun r6 h5 hd => ?_)
  refine a_putI (pc := 23) hG sc_0 cl_X11 ok_X11 15 (by decide) rfl t_496 rfl (ty := .int) rfl rfl rfl hd dX11_office_23 (fun h7 hd => ?_)
  refine a_iload_n (pc := 26) hG 0 rfl dX11_office_26 rfl ?_
  refine a_iconst (pc := 27) hG dX11_office_27 (v := (-1 : Int32)) rfl ?_
  refine a_ic_ne (pc := 28) hG (tgt := 41) hd dX11_office_28 (by decide) (fun hd => ?_) (fun hd => ?_)
  · refine a_aload_n (pc := 41) hG 1 rfl dX11_office_41 rfl ?_
    refine a_getR (pc := 42) hG sc_0 cl_X11 ok_X11 1 (by decide) rfl t_482 dX11_office_42 ?_
    refine a_aload_n (pc := 45) hG 1 rfl dX11_office_45 rfl ?_
    refine a_getR (pc := 46) hG sc_0 cl_X11 ok_X11 2 (by decide) rfl t_483 dX11_office_46 ?_
    refine a_cvN (pc := 49) hG (As := [.ref (ad 11)]) (st := []) sc_3 cl_X5 mk_X5_copyFrom t_758 (by omega) (fun z hz => c_Plan_copyFrom_3_11  _  z hz) rfl (Nat.le_of_ble_eq_true rfl) hd dX11_office_49 (fun _ h8 hd => ?_)
    refine a_aload_n (pc := 52) hG 1 rfl dX11_office_52 rfl ?_
    refine a_getR (pc := 53) hG sc_0 cl_X11 ok_X11 5 (by decide) rfl t_486 dX11_office_53 ?_
    refine a_cvN (pc := 56) hG (As := []) (st := []) sc_31 cl_X9 mk_X9_sumUp t_469 (by omega) (fun z hz => c_Ways_sumUp F  _  z hz) rfl (Nat.le_of_ble_eq_true rfl) hd dX11_office_56 (fun _ h9 hd => ?_)
    refine a_aload_n (pc := 59) hG 1 rfl dX11_office_59 rfl ?_
    refine a_getR (pc := 60) hG sc_0 cl_X11 ok_X11 4 (by decide) rfl t_485 dX11_office_60 ?_
    refine a_cvN (pc := 63) hG (As := []) (st := []) sc_20 cl_X0 mk_X0_begin t_433 (by omega) (fun z hz => c_Desk_begin F  _  z hz) rfl (Nat.le_of_ble_eq_true rfl) hd dX11_office_63 (fun _ h10 hd => ?_)
    refine a_aload_n (pc := 66) hG 1 rfl dX11_office_66 rfl ?_
    refine a_getR (pc := 67) hG sc_0 cl_X11 ok_X11 8 (by decide) rfl t_489 dX11_office_67 ?_
    refine a_cvN (pc := 70) hG (As := []) (st := []) sc_42 cl_X7 mk_X7_empty t_765 (by omega) (fun z hz => c_Sent_empty_42  _  z hz) rfl (Nat.le_of_ble_eq_true rfl) hd dX11_office_70 (fun _ h11 hd => ?_)
    refine a_aload_n (pc := 73) hG 1 rfl dX11_office_73 rfl ?_
    refine a_getR (pc := 74) hG sc_0 cl_X11 ok_X11 4 (by decide) rfl t_485 dX11_office_74 ?_
    refine a_cvN (pc := 77) hG (As := []) (st := []) sc_20 cl_X0 mk_X0_forget t_769 (by omega) (fun z hz => c_Desk_forget  _  z hz) rfl (Nat.le_of_ble_eq_true rfl) hd dX11_office_77 (fun _ h12 hd => ?_)
    refine a_iload_n (pc := 80) hG 0 rfl dX11_office_80 rfl ?_
    exact a_iret (pc := 81) hG hd dX11_office_81
  refine a_iconst (pc := 31) hG dX11_office_31 (v := (-1 : Int32)) rfl ?_
  refine a_aload_n (pc := 32) hG 1 rfl dX11_office_32 rfl ?_
  refine a_getR (pc := 33) hG sc_0 cl_X11 ok_X11 0 (by decide) rfl t_481 dX11_office_33 ?_
  refine a_cvI (pc := 36) hG (As := []) (st := [.int (-1 : Int32)]) sc_1 cl_X8 mk_X8_faultPlace t_754 (by omega) (fun z hz => c_Tape_faultPlace  _  z hz) rfl (Nat.le_of_ble_eq_true rfl) hd dX11_office_36 (fun r14 h13 hd => ?_)
  refine a_isub (pc := 39) hG dX11_office_39 ?_
  exact a_iret (pc := 40) hG hd dX11_office_40
theorem dX11_fault_0 : decode cX11_fault 0 = .ok (.aload_n 0, 1) := by decide +kernel
theorem dX11_fault_1 : decode cX11_fault 1 = .ok (.getfield 103, 3) := by decide +kernel
theorem dX11_fault_4 : decode cX11_fault 4 = .ok (.ireturn, 1) := by decide +kernel
set_option maxHeartbeats 4000000 in
theorem c_LC_fault {ad wad : Nat → Nat}  (h : HS)  (q : Int32 × HS) (hd : f_LC_fault  h = some q) : Ctr SHc ad wad yX11_fault cX11_fault 1 (some .int) 1 [.ref (ad 0)] h (some (.int q.1), q.2) := by
  refine enter (own := RX11) (lv := [(0, .ref (ad 0))]) (by decide +kernel) rfl (Nat.le_of_ble_eq_true rfl) rfl (fun Γ hG => ?_)
  unfold f_LC_fault at hd
  refine a_aload_n (pc := 0) hG 0 rfl dX11_fault_0 rfl ?_
  refine a_getI (pc := 1) hG sc_0 cl_X11 ok_X11 15 (by decide) rfl t_496 dX11_fault_1 ?_
  exact a_iret (pc := 4) hG hd dX11_fault_4
set_option maxHeartbeats 4000000 in
theorem c_Plan_hasCause_3 {ad wad : Nat → Nat} (a0 : Int32) (h : HS)  (q : Int32 × HS) (hd : f_Plan_hasCause_3 a0 h = some q) : Ctr SHc ad wad yX5_hasCause cX5_hasCause 2 (some .boolean) 1 [.ref (ad 3), .int a0] h (some (.int q.1), q.2) := by
  refine enter (own := RX5) (lv := [(0, .ref (ad 3)), (1, .int a0)]) (by decide +kernel) rfl (Nat.le_of_ble_eq_true rfl) rfl (fun Γ hG => ?_)
  unfold f_Plan_hasCause_3 at hd
  refine a_iload_n (pc := 0) hG 1 rfl dX5_hasCause_0 rfl ?_
  refine a_if_lt (pc := 1) hG (tgt := 16) hd dX5_hasCause_1 (by decide) (fun hd => ?_) (fun hd => ?_)
  · refine a_iconst (pc := 16) hG dX5_hasCause_16 (v := (nI 0)) rfl ?_
    exact a_zret (pc := 17) hG hd dX5_hasCause_17
  refine a_iload_n (pc := 4) hG 1 rfl dX5_hasCause_4 rfl ?_
  refine a_aload_n (pc := 5) hG 0 rfl dX5_hasCause_5 rfl ?_
  refine a_getI (pc := 6) hG sc_3 cl_X5 ok_X5 3 (by decide) rfl t_200 dX5_hasCause_6 ?_
  refine a_ic_ge (pc := 9) hG (tgt := 16) hd dX5_hasCause_9 (by decide) (fun hd => ?_) (fun hd => ?_)
  · refine a_iconst (pc := 16) hG dX5_hasCause_16 (v := (nI 0)) rfl ?_
    exact a_zret (pc := 17) hG hd dX5_hasCause_17
  refine a_iconst (pc := 12) hG dX5_hasCause_12 (v := (nI 1)) rfl ?_
  refine a_goto (pc := 13) hG (tgt := 17) dX5_hasCause_13 (by decide) ?_
  exact a_zret (pc := 17) hG hd dX5_hasCause_17
theorem dX0_ofCause_0 : decode cX0_ofCause 0 = .ok (.aload_n 0, 1) := by decide +kernel
theorem dX0_ofCause_1 : decode cX0_ofCause 1 = .ok (.getfield 9, 3) := by decide +kernel
theorem dX0_ofCause_4 : decode cX0_ofCause 4 = .ok (.iload_n 1, 1) := by decide +kernel
theorem dX0_ofCause_5 : decode cX0_ofCause 5 = .ok (.bipush 9, 2) := by decide +kernel
theorem dX0_ofCause_7 : decode cX0_ofCause 7 = .ok (.imul, 1) := by decide +kernel
theorem dX0_ofCause_8 : decode cX0_ofCause 8 = .ok (.iload_n 2, 1) := by decide +kernel
theorem dX0_ofCause_9 : decode cX0_ofCause 9 = .ok (.iadd, 1) := by decide +kernel
theorem dX0_ofCause_10 : decode cX0_ofCause 10 = .ok (.iaload, 1) := by decide +kernel
theorem dX0_ofCause_11 : decode cX0_ofCause 11 = .ok (.ireturn, 1) := by decide +kernel
set_option maxHeartbeats 4000000 in
theorem c_Desk_ofCause {ad wad : Nat → Nat} (a0 : Int32) (a1 : Int32) (h : HS)  (q : Int32 × HS) (hd : f_Desk_ofCause a0 a1 h = some q) : Ctr SHc ad wad yX0_ofCause cX0_ofCause 3 (some .int) 1 [.ref (ad 20), .int a0, .int a1] h (some (.int q.1), q.2) := by
  refine enter (own := RX0) (lv := [(0, .ref (ad 20)), (1, .int a0), (2, .int a1)]) (by decide +kernel) rfl (Nat.le_of_ble_eq_true rfl) rfl (fun Γ hG => ?_)
  unfold f_Desk_ofCause at hd
  refine a_aload_n (pc := 0) hG 0 rfl dX0_ofCause_0 rfl ?_
  refine a_getR (pc := 1) hG sc_20 cl_X0 ok_X0 1 (by decide) rfl t_267 dX0_ofCause_1 ?_
  refine a_iload_n (pc := 4) hG 1 rfl dX0_ofCause_4 rfl ?_
  refine a_bipush (pc := 5) hG dX0_ofCause_5 (v := (nI 9)) rfl ?_
  refine a_imul (pc := 7) hG dX0_ofCause_7 ?_
  refine a_iload_n (pc := 8) hG 2 rfl dX0_ofCause_8 rfl ?_
  refine a_iadd (pc := 9) hG dX0_ofCause_9 ?_
  refine a_iald (pc := 10) hG sc_21 hd dX0_ofCause_10 (fun hd => ?_)
  exact a_iret (pc := 11) hG hd dX0_ofCause_11
theorem dX5_nearness_0 : decode cX5_nearness 0 = .ok (.iload_n 1, 1) := by decide +kernel
theorem dX5_nearness_1 : decode cX5_nearness 1 = .ok (.iload_n 2, 1) := by decide +kernel
theorem dX5_nearness_2 : decode cX5_nearness 2 = .ok (.iadd, 1) := by decide +kernel
theorem dX5_nearness_3 : decode cX5_nearness 3 = .ok (.aload_n 0, 1) := by decide +kernel
theorem dX5_nearness_4 : decode cX5_nearness 4 = .ok (.getfield 9, 3) := by decide +kernel
theorem dX5_nearness_7 : decode cX5_nearness 7 = .ok (.imul, 1) := by decide +kernel
theorem dX5_nearness_8 : decode cX5_nearness 8 = .ok (.istore_n 3, 1) := by decide +kernel
theorem dX5_nearness_9 : decode cX5_nearness 9 = .ok (.iload_n 3, 1) := by decide +kernel
theorem dX5_nearness_10 : decode cX5_nearness 10 = .ok (.ifCond .le 18, 3) := by decide +kernel
theorem dX5_nearness_13 : decode cX5_nearness 13 = .ok (.sipush 1000, 3) := by decide +kernel
theorem dX5_nearness_16 : decode cX5_nearness 16 = .ok (.iload_n 1, 1) := by decide +kernel
theorem dX5_nearness_17 : decode cX5_nearness 17 = .ok (.imul, 1) := by decide +kernel
theorem dX5_nearness_18 : decode cX5_nearness 18 = .ok (.aload_n 0, 1) := by decide +kernel
theorem dX5_nearness_19 : decode cX5_nearness 19 = .ok (.getfield 15, 3) := by decide +kernel
theorem dX5_nearness_22 : decode cX5_nearness 22 = .ok (.imul, 1) := by decide +kernel
theorem dX5_nearness_23 : decode cX5_nearness 23 = .ok (.iload_n 3, 1) := by decide +kernel
theorem dX5_nearness_24 : decode cX5_nearness 24 = .ok (.idiv, 1) := by decide +kernel
theorem dX5_nearness_25 : decode cX5_nearness 25 = .ok (.goto 4, 3) := by decide +kernel
theorem dX5_nearness_28 : decode cX5_nearness 28 = .ok (.iconst 0, 1) := by decide +kernel
theorem dX5_nearness_29 : decode cX5_nearness 29 = .ok (.ireturn, 1) := by decide +kernel
set_option maxHeartbeats 4000000 in
theorem c_Plan_nearness_3 {ad wad : Nat → Nat} (a0 : Int32) (a1 : Int32) (h : HS)  (q : Int32 × HS) (hd : f_Plan_nearness_3 a0 a1 h = some q) : Ctr SHc ad wad yX5_nearness cX5_nearness 4 (some .int) 1 [.ref (ad 3), .int a0, .int a1] h (some (.int q.1), q.2) := by
  refine enter (own := RX5) (lv := [(0, .ref (ad 3)), (1, .int a0), (2, .int a1)]) (by decide +kernel) rfl (Nat.le_of_ble_eq_true rfl) rfl (fun Γ hG => ?_)
  unfold f_Plan_nearness_3 at hd
  refine a_iload_n (pc := 0) hG 1 rfl dX5_nearness_0 rfl ?_
  refine a_iload_n (pc := 1) hG 2 rfl dX5_nearness_1 rfl ?_
  refine a_iadd (pc := 2) hG dX5_nearness_2 ?_
  refine a_aload_n (pc := 3) hG 0 rfl dX5_nearness_3 rfl ?_
  refine a_getI (pc := 4) hG sc_3 cl_X5 ok_X5 0 (by decide) rfl t_197 dX5_nearness_4 ?_
  refine a_imul (pc := 7) hG dX5_nearness_7 ?_
  refine a_istore_nN (pc := 8) hG hd dX5_nearness_8 rfl (by decide) (lf := fun x => [(3, .int x), (0, .ref (ad 3)), (1, .int a0), (2, .int a1)]) (fun _ => rfl) (fun v1 hd => ?_)
  refine a_iload_n (pc := 9) hG 0 rfl dX5_nearness_9 rfl ?_
  refine a_if_le (pc := 10) hG (tgt := 28) hd dX5_nearness_10 (by decide) (fun hd => ?_) (fun hd => ?_)
  · refine a_iconst (pc := 28) hG dX5_nearness_28 (v := (nI 0)) rfl ?_
    exact a_iret (pc := 29) hG hd dX5_nearness_29
  refine a_sipush (pc := 13) hG dX5_nearness_13 (v := (nI 1000)) rfl ?_
  refine a_iload_n (pc := 16) hG 2 rfl dX5_nearness_16 rfl ?_
  refine a_imul (pc := 17) hG dX5_nearness_17 ?_
  refine a_aload_n (pc := 18) hG 1 rfl dX5_nearness_18 rfl ?_
  refine a_getI (pc := 19) hG sc_3 cl_X5 ok_X5 1 (by decide) rfl t_198 dX5_nearness_19 ?_
  refine a_imul (pc := 22) hG dX5_nearness_22 ?_
  refine a_iload_n (pc := 23) hG 0 rfl dX5_nearness_23 rfl ?_
  refine a_idiv (pc := 24) hG hd dX5_nearness_24 (fun hd => ?_)
  refine a_goto (pc := 25) hG (tgt := 29) dX5_nearness_25 (by decide) ?_
  exact a_iret (pc := 29) hG hd dX5_nearness_29
theorem dX0_nearness_0 : decode cX0_nearness 0 = .ok (.aload_n 0, 1) := by decide +kernel
theorem dX0_nearness_1 : decode cX0_nearness 1 = .ok (.getfield 27, 3) := by decide +kernel
theorem dX0_nearness_4 : decode cX0_nearness 4 = .ok (.aload_n 0, 1) := by decide +kernel
theorem dX0_nearness_5 : decode cX0_nearness 5 = .ok (.iload_n 1, 1) := by decide +kernel
theorem dX0_nearness_6 : decode cX0_nearness 6 = .ok (.iconst 0, 1) := by decide +kernel
theorem dX0_nearness_7 : decode cX0_nearness 7 = .ok (.invokevirtual 81, 3) := by decide +kernel
theorem dX0_nearness_10 : decode cX0_nearness 10 = .ok (.aload_n 0, 1) := by decide +kernel
theorem dX0_nearness_11 : decode cX0_nearness 11 = .ok (.iload_n 1, 1) := by decide +kernel
theorem dX0_nearness_12 : decode cX0_nearness 12 = .ok (.iconst 1, 1) := by decide +kernel
theorem dX0_nearness_13 : decode cX0_nearness 13 = .ok (.invokevirtual 81, 3) := by decide +kernel
theorem dX0_nearness_16 : decode cX0_nearness 16 = .ok (.invokevirtual 89, 3) := by decide +kernel
theorem dX0_nearness_19 : decode cX0_nearness 19 = .ok (.ireturn, 1) := by decide +kernel
set_option maxHeartbeats 4000000 in
theorem c_Desk_nearness {ad wad : Nat → Nat} (a0 : Int32) (h : HS)  (q : Int32 × HS) (hd : f_Desk_nearness a0 h = some q) : Ctr SHc ad wad yX0_nearness cX0_nearness 2 (some .int) 2 [.ref (ad 20), .int a0] h (some (.int q.1), q.2) := by
  refine enter (own := RX0) (lv := [(0, .ref (ad 20)), (1, .int a0)]) (by decide +kernel) rfl (Nat.le_of_ble_eq_true rfl) rfl (fun Γ hG => ?_)
  unfold f_Desk_nearness at hd
  refine a_aload_n (pc := 0) hG 0 rfl dX0_nearness_0 rfl ?_
  refine a_getR (pc := 1) hG sc_20 cl_X0 ok_X0 0 (by decide) rfl t_266 dX0_nearness_1 ?_
  refine a_aload_n (pc := 4) hG 0 rfl dX0_nearness_4 rfl ?_
  refine a_iload_n (pc := 5) hG 1 rfl dX0_nearness_5 rfl ?_
  refine a_iconst (pc := 6) hG dX0_nearness_6 (v := (nI 0)) rfl ?_
  refine a_cvI (pc := 7) hG (As := [.int a0, .int (nI 0)]) (st := [.ref (ad 3)]) sc_20 cl_X0 mk_X0_ofCause t_806 (by omega) (fun z hz => c_Desk_ofCause a0 (nI 0) _  z hz) rfl (Nat.le_of_ble_eq_true rfl) hd dX0_nearness_7 (fun r2 h1 hd => ?_)
  refine a_aload_n (pc := 10) hG 0 rfl dX0_nearness_10 rfl ?_
  refine a_iload_n (pc := 11) hG 1 rfl dX0_nearness_11 rfl ?_
  refine a_iconst (pc := 12) hG dX0_nearness_12 (v := (nI 1)) rfl ?_
  refine a_cvI (pc := 13) hG (As := [.int a0, .int (nI 1)]) (st := [.int r2, .ref (ad 3)]) sc_20 cl_X0 mk_X0_ofCause t_806 (by omega) (fun z hz => c_Desk_ofCause a0 (nI 1) _  z hz) rfl (Nat.le_of_ble_eq_true rfl) hd dX0_nearness_13 (fun r4 h3 hd => ?_)
  refine a_cvI (pc := 16) hG (As := [.int r2, .int r4]) (st := []) sc_3 cl_X5 mk_X5_nearness t_899 (by omega) (fun z hz => c_Plan_nearness_3 r2 r4 _  z hz) rfl (Nat.le_of_ble_eq_true rfl) hd dX0_nearness_16 (fun r6 h5 hd => ?_)
  exact a_iret (pc := 19) hG hd dX0_nearness_19
theorem dX11_cause_0 : decode cX11_cause 0 = .ok (.aload_n 0, 1) := by decide +kernel
theorem dX11_cause_1 : decode cX11_cause 1 = .ok (.getfield 19, 3) := by decide +kernel
theorem dX11_cause_4 : decode cX11_cause 4 = .ok (.iload_n 1, 1) := by decide +kernel
theorem dX11_cause_5 : decode cX11_cause 5 = .ok (.invokevirtual 147, 3) := by decide +kernel
theorem dX11_cause_8 : decode cX11_cause 8 = .ok (.ifCond .eq 13, 3) := by decide +kernel
theorem dX11_cause_11 : decode cX11_cause 11 = .ok (.iload_n 2, 1) := by decide +kernel
theorem dX11_cause_12 : decode cX11_cause 12 = .ok (.ifCond .lt 9, 3) := by decide +kernel
theorem dX11_cause_15 : decode cX11_cause 15 = .ok (.iload_n 2, 1) := by decide +kernel
theorem dX11_cause_16 : decode cX11_cause 16 = .ok (.bipush 8, 2) := by decide +kernel
theorem dX11_cause_18 : decode cX11_cause 18 = .ok (.if_icmp .le 13, 3) := by decide +kernel
theorem dX11_cause_21 : decode cX11_cause 21 = .ok (.new 150, 3) := by decide +kernel
theorem dX11_cause_24 : decode cX11_cause 24 = .ok (.dup, 1) := by decide +kernel
theorem dX11_cause_25 : decode cX11_cause 25 = .ok (.ldc 152, 2) := by decide +kernel
theorem dX11_cause_27 : decode cX11_cause 27 = .ok (.invokespecial 154, 3) := by decide +kernel
theorem dX11_cause_30 : decode cX11_cause 30 = .ok (.athrow, 1) := by decide +kernel
theorem dX11_cause_31 : decode cX11_cause 31 = .ok (.iload_n 2, 1) := by decide +kernel
theorem dX11_cause_32 : decode cX11_cause 32 = .ok (.bipush 8, 2) := by decide +kernel
theorem dX11_cause_34 : decode cX11_cause 34 = .ok (.if_icmp .ne 14, 3) := by decide +kernel
theorem dX11_cause_37 : decode cX11_cause 37 = .ok (.aload_n 0, 1) := by decide +kernel
theorem dX11_cause_38 : decode cX11_cause 38 = .ok (.getfield 40, 3) := by decide +kernel
theorem dX11_cause_41 : decode cX11_cause 41 = .ok (.iload_n 1, 1) := by decide +kernel
theorem dX11_cause_42 : decode cX11_cause 42 = .ok (.invokevirtual 157, 3) := by decide +kernel
theorem dX11_cause_45 : decode cX11_cause 45 = .ok (.goto 12, 3) := by decide +kernel
theorem dX11_cause_48 : decode cX11_cause 48 = .ok (.aload_n 0, 1) := by decide +kernel
theorem dX11_cause_49 : decode cX11_cause 49 = .ok (.getfield 40, 3) := by decide +kernel
theorem dX11_cause_52 : decode cX11_cause 52 = .ok (.iload_n 1, 1) := by decide +kernel
theorem dX11_cause_53 : decode cX11_cause 53 = .ok (.iload_n 2, 1) := by decide +kernel
theorem dX11_cause_54 : decode cX11_cause 54 = .ok (.invokevirtual 161, 3) := by decide +kernel
theorem dX11_cause_57 : decode cX11_cause 57 = .ok (.ireturn, 1) := by decide +kernel
set_option maxHeartbeats 4000000 in
theorem c_LC_cause {ad wad : Nat → Nat} (a0 : Int32) (a1 : Int32) (h : HS)  (q : Int32 × HS) (hd : f_LC_cause a0 a1 h = some q) : Ctr SHc ad wad yX11_cause cX11_cause 3 (some .int) 3 [.ref (ad 0), .int a0, .int a1] h (some (.int q.1), q.2) := by
  refine enter (own := RX11) (lv := [(0, .ref (ad 0)), (1, .int a0), (2, .int a1)]) (by decide +kernel) rfl (Nat.le_of_ble_eq_true rfl) rfl (fun Γ hG => ?_)
  unfold f_LC_cause at hd
  refine a_aload_n (pc := 0) hG 0 rfl dX11_cause_0 rfl ?_
  refine a_getR (pc := 1) hG sc_0 cl_X11 ok_X11 1 (by decide) rfl t_482 dX11_cause_1 ?_
  refine a_iload_n (pc := 4) hG 1 rfl dX11_cause_4 rfl ?_
  refine a_cvI (pc := 5) hG (As := [.int a0]) (st := []) sc_3 cl_X5 mk_X5_hasCause t_818 (by omega) (fun z hz => c_Plan_hasCause_3 a0 _  z hz) rfl (Nat.le_of_ble_eq_true rfl) hd dX11_cause_5 (fun r2 h1 hd => ?_)
  refine a_join hd (Q := fun J : HS → Option (Int32 × HS) => ∀  (h4 : HS), J  h4 = some q → AW SHc ad 3 (some (.int q.1), q.2) Γ 21 [] [] h4) (fun  h4 hd => ?_) (fun J3 hJ3 hd => ?_)
  · cases hd
  refine a_if_eq (pc := 8) hG (tgt := 21) hd dX11_cause_8 (by decide) (fun hd => ?_) (fun hd => ?_)
  · exact AW.sub [] rfl (hJ3  _ hd)
  refine a_iload_n (pc := 11) hG 2 rfl dX11_cause_11 rfl ?_
  refine a_if_lt (pc := 12) hG (tgt := 21) hd dX11_cause_12 (by decide) (fun hd => ?_) (fun hd => ?_)
  · exact AW.sub [] rfl (hJ3  _ hd)
  refine a_iload_n (pc := 15) hG 2 rfl dX11_cause_15 rfl ?_
  refine a_bipush (pc := 16) hG dX11_cause_16 (v := (nI 8)) rfl ?_
  refine a_ic_le (pc := 18) hG (tgt := 31) hd dX11_cause_18 (by decide) (fun hd => ?_) (fun hd => ?_)
  · refine a_iload_n (pc := 31) hG 2 rfl dX11_cause_31 rfl ?_
    refine a_bipush (pc := 32) hG dX11_cause_32 (v := (nI 8)) rfl ?_
    refine a_ic_ne (pc := 34) hG (tgt := 48) hd dX11_cause_34 (by decide) (fun hd => ?_) (fun hd => ?_)
    · refine a_aload_n (pc := 48) hG 0 rfl dX11_cause_48 rfl ?_
      refine a_getR (pc := 49) hG sc_0 cl_X11 ok_X11 4 (by decide) rfl t_485 dX11_cause_49 ?_
      refine a_iload_n (pc := 52) hG 1 rfl dX11_cause_52 rfl ?_
      refine a_iload_n (pc := 53) hG 2 rfl dX11_cause_53 rfl ?_
      refine a_cvI (pc := 54) hG (As := [.int a0, .int a1]) (st := []) sc_20 cl_X0 mk_X0_ofCause t_1192 (by omega) (fun z hz => c_Desk_ofCause a0 a1 _  z hz) rfl (Nat.le_of_ble_eq_true rfl) hd dX11_cause_54 (fun r6 h5 hd => ?_)
      exact a_iret (pc := 57) hG hd dX11_cause_57
    refine a_aload_n (pc := 37) hG 0 rfl dX11_cause_37 rfl ?_
    refine a_getR (pc := 38) hG sc_0 cl_X11 ok_X11 4 (by decide) rfl t_485 dX11_cause_38 ?_
    refine a_iload_n (pc := 41) hG 1 rfl dX11_cause_41 rfl ?_
    refine a_cvI (pc := 42) hG (As := [.int a0]) (st := []) sc_20 cl_X0 mk_X0_nearness t_1199 (by omega) (fun z hz => c_Desk_nearness a0 _  z hz) rfl (Nat.le_of_ble_eq_true rfl) hd dX11_cause_42 (fun r8 h7 hd => ?_)
    refine a_goto (pc := 45) hG (tgt := 57) dX11_cause_45 (by decide) ?_
    exact a_iret (pc := 57) hG hd dX11_cause_57
  exact AW.sub [] rfl (hJ3  _ hd)
theorem dX11_greatestDivisor_0 : decode cX11_greatestDivisor 0 = .ok (.iload_n 0, 1) := by decide +kernel
theorem dX11_greatestDivisor_1 : decode cX11_greatestDivisor 1 = .ok (.istore_n 2, 1) := by decide +kernel
theorem dX11_greatestDivisor_2 : decode cX11_greatestDivisor 2 = .ok (.iload_n 1, 1) := by decide +kernel
theorem dX11_greatestDivisor_3 : decode cX11_greatestDivisor 3 = .ok (.istore_n 3, 1) := by decide +kernel
theorem dX11_greatestDivisor_4 : decode cX11_greatestDivisor 4 = .ok (.iconst 0, 1) := by decide +kernel
theorem dX11_greatestDivisor_5 : decode cX11_greatestDivisor 5 = .ok (.istore 4, 2) := by decide +kernel
theorem dX11_greatestDivisor_7 : decode cX11_greatestDivisor 7 = .ok (.iload 4, 2) := by decide +kernel
theorem dX11_greatestDivisor_9 : decode cX11_greatestDivisor 9 = .ok (.bipush 64, 2) := by decide +kernel
theorem dX11_greatestDivisor_11 : decode cX11_greatestDivisor 11 = .ok (.if_icmp .ge 23, 3) := by decide +kernel
theorem dX11_greatestDivisor_14 : decode cX11_greatestDivisor 14 = .ok (.iload_n 3, 1) := by decide +kernel
theorem dX11_greatestDivisor_15 : decode cX11_greatestDivisor 15 = .ok (.ifCond .le 19, 3) := by decide +kernel
theorem dX11_greatestDivisor_18 : decode cX11_greatestDivisor 18 = .ok (.iload_n 2, 1) := by decide +kernel
theorem dX11_greatestDivisor_19 : decode cX11_greatestDivisor 19 = .ok (.iload_n 3, 1) := by decide +kernel
theorem dX11_greatestDivisor_20 : decode cX11_greatestDivisor 20 = .ok (.irem, 1) := by decide +kernel
theorem dX11_greatestDivisor_21 : decode cX11_greatestDivisor 21 = .ok (.istore 5, 2) := by decide +kernel
theorem dX11_greatestDivisor_23 : decode cX11_greatestDivisor 23 = .ok (.iload_n 3, 1) := by decide +kernel
theorem dX11_greatestDivisor_24 : decode cX11_greatestDivisor 24 = .ok (.istore_n 2, 1) := by decide +kernel
theorem dX11_greatestDivisor_25 : decode cX11_greatestDivisor 25 = .ok (.iload 5, 2) := by decide +kernel
theorem dX11_greatestDivisor_27 : decode cX11_greatestDivisor 27 = .ok (.istore_n 3, 1) := by decide +kernel
theorem dX11_greatestDivisor_28 : decode cX11_greatestDivisor 28 = .ok (.iinc 4 1, 3) := by decide +kernel
theorem dX11_greatestDivisor_31 : decode cX11_greatestDivisor 31 = .ok (.goto (-24), 3) := by decide +kernel
theorem dX11_greatestDivisor_34 : decode cX11_greatestDivisor 34 = .ok (.iload_n 2, 1) := by decide +kernel
theorem dX11_greatestDivisor_35 : decode cX11_greatestDivisor 35 = .ok (.ireturn, 1) := by decide +kernel
set_option maxHeartbeats 4000000 in
theorem w_l_LC_greatestDivisor_0 {ad wad : Nat → Nat} {Γ : Ctx} (F : Nat) {n : Nat} (hn : 1 ≤ n) (hG : Cx SHc ad wad cX11_greatestDivisor 6 RX11 (some .int) (n) Γ) {q : Int32 × HS} {g : Nat} {x2 : Int32} {x3 : Int32} {x4 : Int32} {h : HS} (hd : l_LC_greatestDivisor_0 F g x2 x3 x4 h = some q) : AW SHc ad 6 (some (.int q.1), q.2) Γ 7 [(2, .int x2), (3, .int x3), (4, .int x4)] [] h := by
  induction g generalizing x2 x3 x4 h with
  | zero => unfold l_LC_greatestDivisor_0 at hd; cases hd
  | succ g ih =>
    unfold l_LC_greatestDivisor_0 at hd
    refine a_iload (pc := 7) hG 2 rfl dX11_greatestDivisor_7 ?_
    refine a_bipush (pc := 9) hG dX11_greatestDivisor_9 (v := (nI 64)) rfl ?_
    refine a_ic_ge (pc := 11) hG (tgt := 34) hd dX11_greatestDivisor_11 (by decide) (fun hd => ?_) (fun hd => ?_)
    · refine a_iload_n (pc := 34) hG 0 rfl dX11_greatestDivisor_34 rfl ?_
      exact a_iret (pc := 35) hG hd dX11_greatestDivisor_35
    refine a_iload_n (pc := 14) hG 1 rfl dX11_greatestDivisor_14 rfl ?_
    refine a_if_le (pc := 15) hG (tgt := 34) hd dX11_greatestDivisor_15 (by decide) (fun hd => ?_) (fun hd => ?_)
    · refine a_iload_n (pc := 34) hG 0 rfl dX11_greatestDivisor_34 rfl ?_
      exact a_iret (pc := 35) hG hd dX11_greatestDivisor_35
    refine a_iload_n (pc := 18) hG 0 rfl dX11_greatestDivisor_18 rfl ?_
    refine a_iload_n (pc := 19) hG 1 rfl dX11_greatestDivisor_19 rfl ?_
    refine a_irem (pc := 20) hG hd dX11_greatestDivisor_20 (fun hd => ?_)
    refine a_istoreN (pc := 21) hG hd dX11_greatestDivisor_21 (by decide) (lf := fun x => [(5, .int x), (2, .int x2), (3, .int x3), (4, .int x4)]) (fun _ => rfl) (fun v4 hd => ?_)
    refine a_iload_n (pc := 23) hG 2 rfl dX11_greatestDivisor_23 rfl ?_
    refine a_istore_nN (pc := 24) hG hd dX11_greatestDivisor_24 rfl (by decide) (lf := fun x => [(2, .int x), (5, .int v4), (3, .int x3), (4, .int x4)]) (fun _ => rfl) (fun v5 hd => ?_)
    refine a_iload (pc := 25) hG 1 rfl dX11_greatestDivisor_25 ?_
    refine a_istore_nN (pc := 27) hG hd dX11_greatestDivisor_27 rfl (by decide) (lf := fun x => [(3, .int x), (2, .int v5), (5, .int v4), (4, .int x4)]) (fun _ => rfl) (fun v6 hd => ?_)
    refine a_iincN (pc := 28) hG (c0 := (nI 1)) 3 rfl hd dX11_greatestDivisor_28 rfl (by decide) (lf := fun x => [(4, .int x), (3, .int v6), (2, .int v5), (5, .int v4)]) (fun _ => rfl) (fun v7 hd => ?_)
    refine a_goto (pc := 31) hG (tgt := 7) dX11_greatestDivisor_31 (by decide) ?_
    exact AW.sub [2, 1, 0] rfl (ih hd)
set_option maxHeartbeats 4000000 in
theorem c_LC_greatestDivisor {ad wad : Nat → Nat} (F : Nat) (a0 : Int32) (a1 : Int32) (h : HS)  (q : Int32 × HS) (hd : f_LC_greatestDivisor F a0 a1 h = some q) : Ctr SHc ad wad yX11_greatestDivisor cX11_greatestDivisor 6 (some .int) 1 [.int a0, .int a1] h (some (.int q.1), q.2) := by
  refine enter (own := RX11) (lv := [(0, .int a0), (1, .int a1)]) (by decide +kernel) rfl (Nat.le_of_ble_eq_true rfl) rfl (fun Γ hG => ?_)
  unfold f_LC_greatestDivisor at hd
  refine a_iload_n (pc := 0) hG 0 rfl dX11_greatestDivisor_0 rfl ?_
  refine a_istore_nN (pc := 1) hG hd dX11_greatestDivisor_1 rfl (by decide) (lf := fun x => [(2, .int x), (0, .int a0), (1, .int a1)]) (fun _ => rfl) (fun v1 hd => ?_)
  refine a_iload_n (pc := 2) hG 2 rfl dX11_greatestDivisor_2 rfl ?_
  refine a_istore_nN (pc := 3) hG hd dX11_greatestDivisor_3 rfl (by decide) (lf := fun x => [(3, .int x), (2, .int v1), (0, .int a0), (1, .int a1)]) (fun _ => rfl) (fun v2 hd => ?_)
  refine a_iconst (pc := 4) hG dX11_greatestDivisor_4 (v := (nI 0)) rfl ?_
  refine a_istoreN (pc := 5) hG hd dX11_greatestDivisor_5 (by decide) (lf := fun x => [(4, .int x), (3, .int v2), (2, .int v1), (0, .int a0), (1, .int a1)]) (fun _ => rfl) (fun v3 hd => ?_)
  refine AW.sub [2, 1, 0] rfl ?_
  exact w_l_LC_greatestDivisor_0 F (by omega) hG hd
theorem dX11_leastTerm_0 : decode cX11_leastTerm 0 = .ok (.iload_n 0, 1) := by decide +kernel
theorem dX11_leastTerm_1 : decode cX11_leastTerm 1 = .ok (.iload_n 1, 1) := by decide +kernel
theorem dX11_leastTerm_2 : decode cX11_leastTerm 2 = .ok (.invokestatic 353, 3) := by decide +kernel
theorem dX11_leastTerm_5 : decode cX11_leastTerm 5 = .ok (.istore_n 3, 1) := by decide +kernel
theorem dX11_leastTerm_6 : decode cX11_leastTerm 6 = .ok (.iload_n 2, 1) := by decide +kernel
theorem dX11_leastTerm_7 : decode cX11_leastTerm 7 = .ok (.ifCond .ne 7, 3) := by decide +kernel
theorem dX11_leastTerm_10 : decode cX11_leastTerm 10 = .ok (.iload_n 0, 1) := by decide +kernel
theorem dX11_leastTerm_11 : decode cX11_leastTerm 11 = .ok (.goto 4, 3) := by decide +kernel
theorem dX11_leastTerm_14 : decode cX11_leastTerm 14 = .ok (.iload_n 1, 1) := by decide +kernel
theorem dX11_leastTerm_15 : decode cX11_leastTerm 15 = .ok (.istore 4, 2) := by decide +kernel
theorem dX11_leastTerm_17 : decode cX11_leastTerm 17 = .ok (.iload_n 3, 1) := by decide +kernel
theorem dX11_leastTerm_18 : decode cX11_leastTerm 18 = .ok (.ifCond .le 10, 3) := by decide +kernel
theorem dX11_leastTerm_21 : decode cX11_leastTerm 21 = .ok (.iload 4, 2) := by decide +kernel
theorem dX11_leastTerm_23 : decode cX11_leastTerm 23 = .ok (.iload_n 3, 1) := by decide +kernel
theorem dX11_leastTerm_24 : decode cX11_leastTerm 24 = .ok (.idiv, 1) := by decide +kernel
theorem dX11_leastTerm_25 : decode cX11_leastTerm 25 = .ok (.goto 5, 3) := by decide +kernel
theorem dX11_leastTerm_28 : decode cX11_leastTerm 28 = .ok (.iload 4, 2) := by decide +kernel
theorem dX11_leastTerm_30 : decode cX11_leastTerm 30 = .ok (.ireturn, 1) := by decide +kernel
set_option maxHeartbeats 4000000 in
theorem c_LC_leastTerm {ad wad : Nat → Nat} (F : Nat) (a0 : Int32) (a1 : Int32) (a2 : Int32) (h : HS)  (q : Int32 × HS) (hd : f_LC_leastTerm F a0 a1 a2 h = some q) : Ctr SHc ad wad yX11_leastTerm cX11_leastTerm 5 (some .int) 2 [.int a0, .int a1, .int a2] h (some (.int q.1), q.2) := by
  refine enter (own := RX11) (lv := [(0, .int a0), (1, .int a1), (2, .int a2)]) (by decide +kernel) rfl (Nat.le_of_ble_eq_true rfl) rfl (fun Γ hG => ?_)
  unfold f_LC_leastTerm at hd
  refine a_iload_n (pc := 0) hG 0 rfl dX11_leastTerm_0 rfl ?_
  refine a_iload_n (pc := 1) hG 1 rfl dX11_leastTerm_1 rfl ?_
  refine a_csI (pc := 2) hG (As := [.int a0, .int a1]) (st := []) mk_X11_greatestDivisor t_1536 (by omega) (fun z hz => c_LC_greatestDivisor F a0 a1 _  z hz) rfl (Nat.le_of_ble_eq_true rfl) hd dX11_leastTerm_2 (fun r2 h1 hd => ?_)
  refine a_istore_nN (pc := 5) hG hd dX11_leastTerm_5 rfl (by decide) (lf := fun x => [(3, .int x), (0, .int a0), (1, .int a1), (2, .int a2)]) (fun _ => rfl) (fun v3 hd => ?_)
  refine a_iload_n (pc := 6) hG 3 rfl dX11_leastTerm_6 rfl ?_
  refine a_join hd (Q := fun J : Int32 → HS → Option (Int32 × HS) => ∀ (v5 : Int32) (h6 : HS), J v5 h6 = some q → AW SHc ad 5 (some (.int q.1), q.2) Γ 15 [(3, .int v3)] [.int v5] h6) (fun v5 h6 hd => ?_) (fun J4 hJ4 hd => ?_)
  · refine a_istoreN (pc := 15) hG hd dX11_leastTerm_15 (by decide) (lf := fun x => [(4, .int x), (3, .int v3)]) (fun _ => rfl) (fun v7 hd => ?_)
    refine a_iload_n (pc := 17) hG 1 rfl dX11_leastTerm_17 rfl ?_
    refine a_if_le (pc := 18) hG (tgt := 28) hd dX11_leastTerm_18 (by decide) (fun hd => ?_) (fun hd => ?_)
    · refine a_iload (pc := 28) hG 0 rfl dX11_leastTerm_28 ?_
      exact a_iret (pc := 30) hG hd dX11_leastTerm_30
    refine a_iload (pc := 21) hG 0 rfl dX11_leastTerm_21 ?_
    refine a_iload_n (pc := 23) hG 1 rfl dX11_leastTerm_23 rfl ?_
    refine a_idiv (pc := 24) hG hd dX11_leastTerm_24 (fun hd => ?_)
    refine a_goto (pc := 25) hG (tgt := 30) dX11_leastTerm_25 (by decide) ?_
    exact a_iret (pc := 30) hG hd dX11_leastTerm_30
  refine a_if_ne (pc := 7) hG (tgt := 14) hd dX11_leastTerm_7 (by decide) (fun hd => ?_) (fun hd => ?_)
  · refine a_iload_n (pc := 14) hG 2 rfl dX11_leastTerm_14 rfl ?_
    exact AW.sub [0] rfl (hJ4 _ _ hd)
  refine a_iload_n (pc := 10) hG 1 rfl dX11_leastTerm_10 rfl ?_
  refine a_goto (pc := 11) hG (tgt := 15) dX11_leastTerm_11 (by decide) ?_
  exact AW.sub [0] rfl (hJ4 _ _ hd)
theorem dX11_odds_0 : decode cX11_odds 0 = .ok (.aload_n 0, 1) := by decide +kernel
theorem dX11_odds_1 : decode cX11_odds 1 = .ok (.getfield 19, 3) := by decide +kernel
theorem dX11_odds_4 : decode cX11_odds 4 = .ok (.iload_n 1, 1) := by decide +kernel
theorem dX11_odds_5 : decode cX11_odds 5 = .ok (.invokevirtual 147, 3) := by decide +kernel
theorem dX11_odds_8 : decode cX11_odds 8 = .ok (.ifCond .eq 12, 3) := by decide +kernel
theorem dX11_odds_11 : decode cX11_odds 11 = .ok (.iload_n 2, 1) := by decide +kernel
theorem dX11_odds_12 : decode cX11_odds 12 = .ok (.ifCond .lt 8, 3) := by decide +kernel
theorem dX11_odds_15 : decode cX11_odds 15 = .ok (.iload_n 2, 1) := by decide +kernel
theorem dX11_odds_16 : decode cX11_odds 16 = .ok (.iconst 1, 1) := by decide +kernel
theorem dX11_odds_17 : decode cX11_odds 17 = .ok (.if_icmp .le 13, 3) := by decide +kernel
theorem dX11_odds_20 : decode cX11_odds 20 = .ok (.new 150, 3) := by decide +kernel
theorem dX11_odds_23 : decode cX11_odds 23 = .ok (.dup, 1) := by decide +kernel
theorem dX11_odds_24 : decode cX11_odds 24 = .ok (.ldc 165, 2) := by decide +kernel
theorem dX11_odds_26 : decode cX11_odds 26 = .ok (.invokespecial 154, 3) := by decide +kernel
theorem dX11_odds_29 : decode cX11_odds 29 = .ok (.athrow, 1) := by decide +kernel
theorem dX11_odds_30 : decode cX11_odds 30 = .ok (.aload_n 0, 1) := by decide +kernel
theorem dX11_odds_31 : decode cX11_odds 31 = .ok (.getfield 40, 3) := by decide +kernel
theorem dX11_odds_34 : decode cX11_odds 34 = .ok (.iload_n 1, 1) := by decide +kernel
theorem dX11_odds_35 : decode cX11_odds 35 = .ok (.iconst 0, 1) := by decide +kernel
theorem dX11_odds_36 : decode cX11_odds 36 = .ok (.invokevirtual 161, 3) := by decide +kernel
theorem dX11_odds_39 : decode cX11_odds 39 = .ok (.istore_n 3, 1) := by decide +kernel
theorem dX11_odds_40 : decode cX11_odds 40 = .ok (.iload_n 3, 1) := by decide +kernel
theorem dX11_odds_41 : decode cX11_odds 41 = .ok (.iload_n 3, 1) := by decide +kernel
theorem dX11_odds_42 : decode cX11_odds 42 = .ok (.aload_n 0, 1) := by decide +kernel
theorem dX11_odds_43 : decode cX11_odds 43 = .ok (.getfield 40, 3) := by decide +kernel
theorem dX11_odds_46 : decode cX11_odds 46 = .ok (.iload_n 1, 1) := by decide +kernel
theorem dX11_odds_47 : decode cX11_odds 47 = .ok (.iconst 1, 1) := by decide +kernel
theorem dX11_odds_48 : decode cX11_odds 48 = .ok (.invokevirtual 161, 3) := by decide +kernel
theorem dX11_odds_51 : decode cX11_odds 51 = .ok (.iadd, 1) := by decide +kernel
theorem dX11_odds_52 : decode cX11_odds 52 = .ok (.iload_n 2, 1) := by decide +kernel
theorem dX11_odds_53 : decode cX11_odds 53 = .ok (.invokestatic 167, 3) := by decide +kernel
theorem dX11_odds_56 : decode cX11_odds 56 = .ok (.ireturn, 1) := by decide +kernel
set_option maxHeartbeats 4000000 in
theorem c_LC_odds {ad wad : Nat → Nat} (F : Nat) (a0 : Int32) (a1 : Int32) (h : HS)  (q : Int32 × HS) (hd : f_LC_odds F a0 a1 h = some q) : Ctr SHc ad wad yX11_odds cX11_odds 4 (some .int) 3 [.ref (ad 0), .int a0, .int a1] h (some (.int q.1), q.2) := by
  refine enter (own := RX11) (lv := [(0, .ref (ad 0)), (1, .int a0), (2, .int a1)]) (by decide +kernel) rfl (Nat.le_of_ble_eq_true rfl) rfl (fun Γ hG => ?_)
  unfold f_LC_odds at hd
  refine a_aload_n (pc := 0) hG 0 rfl dX11_odds_0 rfl ?_
  refine a_getR (pc := 1) hG sc_0 cl_X11 ok_X11 1 (by decide) rfl t_482 dX11_odds_1 ?_
  refine a_iload_n (pc := 4) hG 1 rfl dX11_odds_4 rfl ?_
  refine a_cvI (pc := 5) hG (As := [.int a0]) (st := []) sc_3 cl_X5 mk_X5_hasCause t_818 (by omega) (fun z hz => c_Plan_hasCause_3 a0 _  z hz) rfl (Nat.le_of_ble_eq_true rfl) hd dX11_odds_5 (fun r2 h1 hd => ?_)
  refine a_join hd (Q := fun J : HS → Option (Int32 × HS) => ∀  (h4 : HS), J  h4 = some q → AW SHc ad 4 (some (.int q.1), q.2) Γ 20 [] [] h4) (fun  h4 hd => ?_) (fun J3 hJ3 hd => ?_)
  · cases hd
  refine a_if_eq (pc := 8) hG (tgt := 20) hd dX11_odds_8 (by decide) (fun hd => ?_) (fun hd => ?_)
  · exact AW.sub [] rfl (hJ3  _ hd)
  refine a_iload_n (pc := 11) hG 2 rfl dX11_odds_11 rfl ?_
  refine a_if_lt (pc := 12) hG (tgt := 20) hd dX11_odds_12 (by decide) (fun hd => ?_) (fun hd => ?_)
  · exact AW.sub [] rfl (hJ3  _ hd)
  refine a_iload_n (pc := 15) hG 2 rfl dX11_odds_15 rfl ?_
  refine a_iconst (pc := 16) hG dX11_odds_16 (v := (nI 1)) rfl ?_
  refine a_ic_le (pc := 17) hG (tgt := 30) hd dX11_odds_17 (by decide) (fun hd => ?_) (fun hd => ?_)
  · refine a_aload_n (pc := 30) hG 0 rfl dX11_odds_30 rfl ?_
    refine a_getR (pc := 31) hG sc_0 cl_X11 ok_X11 4 (by decide) rfl t_485 dX11_odds_31 ?_
    refine a_iload_n (pc := 34) hG 1 rfl dX11_odds_34 rfl ?_
    refine a_iconst (pc := 35) hG dX11_odds_35 (v := (nI 0)) rfl ?_
    refine a_cvI (pc := 36) hG (As := [.int a0, .int (nI 0)]) (st := []) sc_20 cl_X0 mk_X0_ofCause t_1192 (by omega) (fun z hz => c_Desk_ofCause a0 (nI 0) _  z hz) rfl (Nat.le_of_ble_eq_true rfl) hd dX11_odds_36 (fun r6 h5 hd => ?_)
    refine a_istore_nN (pc := 39) hG hd dX11_odds_39 rfl (by decide) (lf := fun x => [(3, .int x), (0, .ref (ad 0)), (1, .int a0), (2, .int a1)]) (fun _ => rfl) (fun v7 hd => ?_)
    refine a_iload_n (pc := 40) hG 0 rfl dX11_odds_40 rfl ?_
    refine a_iload_n (pc := 41) hG 0 rfl dX11_odds_41 rfl ?_
    refine a_aload_n (pc := 42) hG 1 rfl dX11_odds_42 rfl ?_
    refine a_getR (pc := 43) hG sc_0 cl_X11 ok_X11 4 (by decide) rfl t_485 dX11_odds_43 ?_
    refine a_iload_n (pc := 46) hG 2 rfl dX11_odds_46 rfl ?_
    refine a_iconst (pc := 47) hG dX11_odds_47 (v := (nI 1)) rfl ?_
    refine a_cvI (pc := 48) hG (As := [.int a0, .int (nI 1)]) (st := [.int v7, .int v7]) sc_20 cl_X0 mk_X0_ofCause t_1192 (by omega) (fun z hz => c_Desk_ofCause a0 (nI 1) _  z hz) rfl (Nat.le_of_ble_eq_true rfl) hd dX11_odds_48 (fun r9 h8 hd => ?_)
    refine a_iadd (pc := 51) hG dX11_odds_51 ?_
    refine a_iload_n (pc := 52) hG 3 rfl dX11_odds_52 rfl ?_
    refine a_csI (pc := 53) hG (As := [.int v7, .int (v7 + r9), .int a1]) (st := []) mk_X11_leastTerm t_1533 (by omega) (fun z hz => c_LC_leastTerm F v7 (v7 + r9) a1 _  z hz) rfl (Nat.le_of_ble_eq_true rfl) hd dX11_odds_53 (fun r11 h10 hd => ?_)
    exact a_iret (pc := 56) hG hd dX11_odds_56
  exact AW.sub [] rfl (hJ3  _ hd)
theorem dX5_hasDeed_0 : decode cX5_hasDeed 0 = .ok (.iload_n 1, 1) := by decide +kernel
theorem dX5_hasDeed_1 : decode cX5_hasDeed 1 = .ok (.ifCond .lt 15, 3) := by decide +kernel
theorem dX5_hasDeed_4 : decode cX5_hasDeed 4 = .ok (.iload_n 1, 1) := by decide +kernel
theorem dX5_hasDeed_5 : decode cX5_hasDeed 5 = .ok (.aload_n 0, 1) := by decide +kernel
theorem dX5_hasDeed_6 : decode cX5_hasDeed 6 = .ok (.getfield 24, 3) := by decide +kernel
theorem dX5_hasDeed_9 : decode cX5_hasDeed 9 = .ok (.if_icmp .ge 7, 3) := by decide +kernel
theorem dX5_hasDeed_12 : decode cX5_hasDeed 12 = .ok (.iconst 1, 1) := by decide +kernel
theorem dX5_hasDeed_13 : decode cX5_hasDeed 13 = .ok (.goto 4, 3) := by decide +kernel
theorem dX5_hasDeed_16 : decode cX5_hasDeed 16 = .ok (.iconst 0, 1) := by decide +kernel
theorem dX5_hasDeed_17 : decode cX5_hasDeed 17 = .ok (.ireturn, 1) := by decide +kernel
set_option maxHeartbeats 4000000 in
theorem c_Plan_hasDeed_3 {ad wad : Nat → Nat} (a0 : Int32) (h : HS)  (q : Int32 × HS) (hd : f_Plan_hasDeed_3 a0 h = some q) : Ctr SHc ad wad yX5_hasDeed cX5_hasDeed 2 (some .boolean) 1 [.ref (ad 3), .int a0] h (some (.int q.1), q.2) := by
  refine enter (own := RX5) (lv := [(0, .ref (ad 3)), (1, .int a0)]) (by decide +kernel) rfl (Nat.le_of_ble_eq_true rfl) rfl (fun Γ hG => ?_)
  unfold f_Plan_hasDeed_3 at hd
  refine a_iload_n (pc := 0) hG 1 rfl dX5_hasDeed_0 rfl ?_
  refine a_if_lt (pc := 1) hG (tgt := 16) hd dX5_hasDeed_1 (by decide) (fun hd => ?_) (fun hd => ?_)
  · refine a_iconst (pc := 16) hG dX5_hasDeed_16 (v := (nI 0)) rfl ?_
    exact a_zret (pc := 17) hG hd dX5_hasDeed_17
  refine a_iload_n (pc := 4) hG 1 rfl dX5_hasDeed_4 rfl ?_
  refine a_aload_n (pc := 5) hG 0 rfl dX5_hasDeed_5 rfl ?_
  refine a_getI (pc := 6) hG sc_3 cl_X5 ok_X5 4 (by decide) rfl t_201 dX5_hasDeed_6 ?_
  refine a_ic_ge (pc := 9) hG (tgt := 16) hd dX5_hasDeed_9 (by decide) (fun hd => ?_) (fun hd => ?_)
  · refine a_iconst (pc := 16) hG dX5_hasDeed_16 (v := (nI 0)) rfl ?_
    exact a_zret (pc := 17) hG hd dX5_hasDeed_17
  refine a_iconst (pc := 12) hG dX5_hasDeed_12 (v := (nI 1)) rfl ?_
  refine a_goto (pc := 13) hG (tgt := 17) dX5_hasDeed_13 (by decide) ?_
  exact a_zret (pc := 17) hG hd dX5_hasDeed_17
theorem dX11_deed_0 : decode cX11_deed 0 = .ok (.aload_n 0, 1) := by decide +kernel
theorem dX11_deed_1 : decode cX11_deed 1 = .ok (.getfield 19, 3) := by decide +kernel
theorem dX11_deed_4 : decode cX11_deed 4 = .ok (.iload_n 1, 1) := by decide +kernel
theorem dX11_deed_5 : decode cX11_deed 5 = .ok (.invokevirtual 171, 3) := by decide +kernel
theorem dX11_deed_8 : decode cX11_deed 8 = .ok (.ifCond .eq 24, 3) := by decide +kernel
theorem dX11_deed_11 : decode cX11_deed 11 = .ok (.iload_n 2, 1) := by decide +kernel
theorem dX11_deed_12 : decode cX11_deed 12 = .ok (.ifCond .lt 20, 3) := by decide +kernel
theorem dX11_deed_15 : decode cX11_deed 15 = .ok (.iload_n 2, 1) := by decide +kernel
theorem dX11_deed_16 : decode cX11_deed 16 = .ok (.iconst 3, 1) := by decide +kernel
theorem dX11_deed_17 : decode cX11_deed 17 = .ok (.if_icmp .ge 15, 3) := by decide +kernel
theorem dX11_deed_20 : decode cX11_deed 20 = .ok (.aload_n 0, 1) := by decide +kernel
theorem dX11_deed_21 : decode cX11_deed 21 = .ok (.getfield 19, 3) := by decide +kernel
theorem dX11_deed_24 : decode cX11_deed 24 = .ok (.iload_n 1, 1) := by decide +kernel
theorem dX11_deed_25 : decode cX11_deed 25 = .ok (.iload_n 2, 1) := by decide +kernel
theorem dX11_deed_26 : decode cX11_deed 26 = .ok (.invokevirtual 174, 3) := by decide +kernel
theorem dX11_deed_29 : decode cX11_deed 29 = .ok (.goto 4, 3) := by decide +kernel
theorem dX11_deed_32 : decode cX11_deed 32 = .ok (.iconst (-1), 1) := by decide +kernel
theorem dX11_deed_33 : decode cX11_deed 33 = .ok (.ireturn, 1) := by decide +kernel
set_option maxHeartbeats 4000000 in
theorem c_LC_deed {ad wad : Nat → Nat} (a0 : Int32) (a1 : Int32) (h : HS)  (q : Int32 × HS) (hd : f_LC_deed a0 a1 h = some q) : Ctr SHc ad wad yX11_deed cX11_deed 3 (some .int) 2 [.ref (ad 0), .int a0, .int a1] h (some (.int q.1), q.2) := by
  refine enter (own := RX11) (lv := [(0, .ref (ad 0)), (1, .int a0), (2, .int a1)]) (by decide +kernel) rfl (Nat.le_of_ble_eq_true rfl) rfl (fun Γ hG => ?_)
  unfold f_LC_deed at hd
  refine a_aload_n (pc := 0) hG 0 rfl dX11_deed_0 rfl ?_
  refine a_getR (pc := 1) hG sc_0 cl_X11 ok_X11 1 (by decide) rfl t_482 dX11_deed_1 ?_
  refine a_iload_n (pc := 4) hG 1 rfl dX11_deed_4 rfl ?_
  refine a_cvI (pc := 5) hG (As := [.int a0]) (st := []) sc_3 cl_X5 mk_X5_hasDeed t_781 (by omega) (fun z hz => c_Plan_hasDeed_3 a0 _  z hz) rfl (Nat.le_of_ble_eq_true rfl) hd dX11_deed_5 (fun r2 h1 hd => ?_)
  refine a_if_eq (pc := 8) hG (tgt := 32) hd dX11_deed_8 (by decide) (fun hd => ?_) (fun hd => ?_)
  · refine a_iconst (pc := 32) hG dX11_deed_32 (v := (-1 : Int32)) rfl ?_
    exact a_iret (pc := 33) hG hd dX11_deed_33
  refine a_iload_n (pc := 11) hG 2 rfl dX11_deed_11 rfl ?_
  refine a_if_lt (pc := 12) hG (tgt := 32) hd dX11_deed_12 (by decide) (fun hd => ?_) (fun hd => ?_)
  · refine a_iconst (pc := 32) hG dX11_deed_32 (v := (-1 : Int32)) rfl ?_
    exact a_iret (pc := 33) hG hd dX11_deed_33
  refine a_iload_n (pc := 15) hG 2 rfl dX11_deed_15 rfl ?_
  refine a_iconst (pc := 16) hG dX11_deed_16 (v := (nI 3)) rfl ?_
  refine a_ic_ge (pc := 17) hG (tgt := 32) hd dX11_deed_17 (by decide) (fun hd => ?_) (fun hd => ?_)
  · refine a_iconst (pc := 32) hG dX11_deed_32 (v := (-1 : Int32)) rfl ?_
    exact a_iret (pc := 33) hG hd dX11_deed_33
  refine a_aload_n (pc := 20) hG 0 rfl dX11_deed_20 rfl ?_
  refine a_getR (pc := 21) hG sc_0 cl_X11 ok_X11 1 (by decide) rfl t_482 dX11_deed_21 ?_
  refine a_iload_n (pc := 24) hG 1 rfl dX11_deed_24 rfl ?_
  refine a_iload_n (pc := 25) hG 2 rfl dX11_deed_25 rfl ?_
  refine a_cvI (pc := 26) hG (As := [.int a0, .int a1]) (st := []) sc_3 cl_X5 mk_X5_ofDeed t_785 (by omega) (fun z hz => c_Plan_ofDeed_3 a0 a1 _  z hz) rfl (Nat.le_of_ble_eq_true rfl) hd dX11_deed_26 (fun r4 h3 hd => ?_)
  refine a_goto (pc := 29) hG (tgt := 33) dX11_deed_29 (by decide) ?_
  exact a_iret (pc := 33) hG hd dX11_deed_33
theorem dX5_hasClerk_0 : decode cX5_hasClerk 0 = .ok (.iload_n 1, 1) := by decide +kernel
theorem dX5_hasClerk_1 : decode cX5_hasClerk 1 = .ok (.ifCond .lt 15, 3) := by decide +kernel
theorem dX5_hasClerk_4 : decode cX5_hasClerk 4 = .ok (.iload_n 1, 1) := by decide +kernel
theorem dX5_hasClerk_5 : decode cX5_hasClerk 5 = .ok (.aload_n 0, 1) := by decide +kernel
theorem dX5_hasClerk_6 : decode cX5_hasClerk 6 = .ok (.getfield 27, 3) := by decide +kernel
theorem dX5_hasClerk_9 : decode cX5_hasClerk 9 = .ok (.if_icmp .ge 7, 3) := by decide +kernel
theorem dX5_hasClerk_12 : decode cX5_hasClerk 12 = .ok (.iconst 1, 1) := by decide +kernel
theorem dX5_hasClerk_13 : decode cX5_hasClerk 13 = .ok (.goto 4, 3) := by decide +kernel
theorem dX5_hasClerk_16 : decode cX5_hasClerk 16 = .ok (.iconst 0, 1) := by decide +kernel
theorem dX5_hasClerk_17 : decode cX5_hasClerk 17 = .ok (.ireturn, 1) := by decide +kernel
set_option maxHeartbeats 4000000 in
theorem c_Plan_hasClerk_3 {ad wad : Nat → Nat} (a0 : Int32) (h : HS)  (q : Int32 × HS) (hd : f_Plan_hasClerk_3 a0 h = some q) : Ctr SHc ad wad yX5_hasClerk cX5_hasClerk 2 (some .boolean) 1 [.ref (ad 3), .int a0] h (some (.int q.1), q.2) := by
  refine enter (own := RX5) (lv := [(0, .ref (ad 3)), (1, .int a0)]) (by decide +kernel) rfl (Nat.le_of_ble_eq_true rfl) rfl (fun Γ hG => ?_)
  unfold f_Plan_hasClerk_3 at hd
  refine a_iload_n (pc := 0) hG 1 rfl dX5_hasClerk_0 rfl ?_
  refine a_if_lt (pc := 1) hG (tgt := 16) hd dX5_hasClerk_1 (by decide) (fun hd => ?_) (fun hd => ?_)
  · refine a_iconst (pc := 16) hG dX5_hasClerk_16 (v := (nI 0)) rfl ?_
    exact a_zret (pc := 17) hG hd dX5_hasClerk_17
  refine a_iload_n (pc := 4) hG 1 rfl dX5_hasClerk_4 rfl ?_
  refine a_aload_n (pc := 5) hG 0 rfl dX5_hasClerk_5 rfl ?_
  refine a_getI (pc := 6) hG sc_3 cl_X5 ok_X5 5 (by decide) rfl t_202 dX5_hasClerk_6 ?_
  refine a_ic_ge (pc := 9) hG (tgt := 16) hd dX5_hasClerk_9 (by decide) (fun hd => ?_) (fun hd => ?_)
  · refine a_iconst (pc := 16) hG dX5_hasClerk_16 (v := (nI 0)) rfl ?_
    exact a_zret (pc := 17) hG hd dX5_hasClerk_17
  refine a_iconst (pc := 12) hG dX5_hasClerk_12 (v := (nI 1)) rfl ?_
  refine a_goto (pc := 13) hG (tgt := 17) dX5_hasClerk_13 (by decide) ?_
  exact a_zret (pc := 17) hG hd dX5_hasClerk_17
theorem dX0_ofClerk_0 : decode cX0_ofClerk 0 = .ok (.aload_n 0, 1) := by decide +kernel
theorem dX0_ofClerk_1 : decode cX0_ofClerk 1 = .ok (.getfield 9, 3) := by decide +kernel
theorem dX0_ofClerk_4 : decode cX0_ofClerk 4 = .ok (.bipush 54, 2) := by decide +kernel
theorem dX0_ofClerk_6 : decode cX0_ofClerk 6 = .ok (.iload_n 1, 1) := by decide +kernel
theorem dX0_ofClerk_7 : decode cX0_ofClerk 7 = .ok (.bipush 6, 2) := by decide +kernel
theorem dX0_ofClerk_9 : decode cX0_ofClerk 9 = .ok (.imul, 1) := by decide +kernel
theorem dX0_ofClerk_10 : decode cX0_ofClerk 10 = .ok (.iadd, 1) := by decide +kernel
theorem dX0_ofClerk_11 : decode cX0_ofClerk 11 = .ok (.iload_n 2, 1) := by decide +kernel
theorem dX0_ofClerk_12 : decode cX0_ofClerk 12 = .ok (.iadd, 1) := by decide +kernel
theorem dX0_ofClerk_13 : decode cX0_ofClerk 13 = .ok (.iaload, 1) := by decide +kernel
theorem dX0_ofClerk_14 : decode cX0_ofClerk 14 = .ok (.ireturn, 1) := by decide +kernel
set_option maxHeartbeats 4000000 in
theorem c_Desk_ofClerk {ad wad : Nat → Nat} (a0 : Int32) (a1 : Int32) (h : HS)  (q : Int32 × HS) (hd : f_Desk_ofClerk a0 a1 h = some q) : Ctr SHc ad wad yX0_ofClerk cX0_ofClerk 3 (some .int) 1 [.ref (ad 20), .int a0, .int a1] h (some (.int q.1), q.2) := by
  refine enter (own := RX0) (lv := [(0, .ref (ad 20)), (1, .int a0), (2, .int a1)]) (by decide +kernel) rfl (Nat.le_of_ble_eq_true rfl) rfl (fun Γ hG => ?_)
  unfold f_Desk_ofClerk at hd
  refine a_aload_n (pc := 0) hG 0 rfl dX0_ofClerk_0 rfl ?_
  refine a_getR (pc := 1) hG sc_20 cl_X0 ok_X0 1 (by decide) rfl t_267 dX0_ofClerk_1 ?_
  refine a_bipush (pc := 4) hG dX0_ofClerk_4 (v := (nI 54)) rfl ?_
  refine a_iload_n (pc := 6) hG 1 rfl dX0_ofClerk_6 rfl ?_
  refine a_bipush (pc := 7) hG dX0_ofClerk_7 (v := (nI 6)) rfl ?_
  refine a_imul (pc := 9) hG dX0_ofClerk_9 ?_
  refine a_iadd (pc := 10) hG dX0_ofClerk_10 ?_
  refine a_iload_n (pc := 11) hG 2 rfl dX0_ofClerk_11 rfl ?_
  refine a_iadd (pc := 12) hG dX0_ofClerk_12 ?_
  refine a_iald (pc := 13) hG sc_21 hd dX0_ofClerk_13 (fun hd => ?_)
  exact a_iret (pc := 14) hG hd dX0_ofClerk_14
theorem dX11_clerk_0 : decode cX11_clerk 0 = .ok (.aload_n 0, 1) := by decide +kernel
theorem dX11_clerk_1 : decode cX11_clerk 1 = .ok (.getfield 19, 3) := by decide +kernel
theorem dX11_clerk_4 : decode cX11_clerk 4 = .ok (.iload_n 1, 1) := by decide +kernel
theorem dX11_clerk_5 : decode cX11_clerk 5 = .ok (.invokevirtual 177, 3) := by decide +kernel
theorem dX11_clerk_8 : decode cX11_clerk 8 = .ok (.ifCond .eq 25, 3) := by decide +kernel
theorem dX11_clerk_11 : decode cX11_clerk 11 = .ok (.iload_n 2, 1) := by decide +kernel
theorem dX11_clerk_12 : decode cX11_clerk 12 = .ok (.ifCond .lt 21, 3) := by decide +kernel
theorem dX11_clerk_15 : decode cX11_clerk 15 = .ok (.iload_n 2, 1) := by decide +kernel
theorem dX11_clerk_16 : decode cX11_clerk 16 = .ok (.bipush 6, 2) := by decide +kernel
theorem dX11_clerk_18 : decode cX11_clerk 18 = .ok (.if_icmp .ge 15, 3) := by decide +kernel
theorem dX11_clerk_21 : decode cX11_clerk 21 = .ok (.aload_n 0, 1) := by decide +kernel
theorem dX11_clerk_22 : decode cX11_clerk 22 = .ok (.getfield 40, 3) := by decide +kernel
theorem dX11_clerk_25 : decode cX11_clerk 25 = .ok (.iload_n 1, 1) := by decide +kernel
theorem dX11_clerk_26 : decode cX11_clerk 26 = .ok (.iload_n 2, 1) := by decide +kernel
theorem dX11_clerk_27 : decode cX11_clerk 27 = .ok (.invokevirtual 180, 3) := by decide +kernel
theorem dX11_clerk_30 : decode cX11_clerk 30 = .ok (.goto 4, 3) := by decide +kernel
theorem dX11_clerk_33 : decode cX11_clerk 33 = .ok (.iconst (-1), 1) := by decide +kernel
theorem dX11_clerk_34 : decode cX11_clerk 34 = .ok (.ireturn, 1) := by decide +kernel
set_option maxHeartbeats 4000000 in
theorem c_LC_clerk {ad wad : Nat → Nat} (a0 : Int32) (a1 : Int32) (h : HS)  (q : Int32 × HS) (hd : f_LC_clerk a0 a1 h = some q) : Ctr SHc ad wad yX11_clerk cX11_clerk 3 (some .int) 2 [.ref (ad 0), .int a0, .int a1] h (some (.int q.1), q.2) := by
  refine enter (own := RX11) (lv := [(0, .ref (ad 0)), (1, .int a0), (2, .int a1)]) (by decide +kernel) rfl (Nat.le_of_ble_eq_true rfl) rfl (fun Γ hG => ?_)
  unfold f_LC_clerk at hd
  refine a_aload_n (pc := 0) hG 0 rfl dX11_clerk_0 rfl ?_
  refine a_getR (pc := 1) hG sc_0 cl_X11 ok_X11 1 (by decide) rfl t_482 dX11_clerk_1 ?_
  refine a_iload_n (pc := 4) hG 1 rfl dX11_clerk_4 rfl ?_
  refine a_cvI (pc := 5) hG (As := [.int a0]) (st := []) sc_3 cl_X5 mk_X5_hasClerk t_790 (by omega) (fun z hz => c_Plan_hasClerk_3 a0 _  z hz) rfl (Nat.le_of_ble_eq_true rfl) hd dX11_clerk_5 (fun r2 h1 hd => ?_)
  refine a_if_eq (pc := 8) hG (tgt := 33) hd dX11_clerk_8 (by decide) (fun hd => ?_) (fun hd => ?_)
  · refine a_iconst (pc := 33) hG dX11_clerk_33 (v := (-1 : Int32)) rfl ?_
    exact a_iret (pc := 34) hG hd dX11_clerk_34
  refine a_iload_n (pc := 11) hG 2 rfl dX11_clerk_11 rfl ?_
  refine a_if_lt (pc := 12) hG (tgt := 33) hd dX11_clerk_12 (by decide) (fun hd => ?_) (fun hd => ?_)
  · refine a_iconst (pc := 33) hG dX11_clerk_33 (v := (-1 : Int32)) rfl ?_
    exact a_iret (pc := 34) hG hd dX11_clerk_34
  refine a_iload_n (pc := 15) hG 2 rfl dX11_clerk_15 rfl ?_
  refine a_bipush (pc := 16) hG dX11_clerk_16 (v := (nI 6)) rfl ?_
  refine a_ic_ge (pc := 18) hG (tgt := 33) hd dX11_clerk_18 (by decide) (fun hd => ?_) (fun hd => ?_)
  · refine a_iconst (pc := 33) hG dX11_clerk_33 (v := (-1 : Int32)) rfl ?_
    exact a_iret (pc := 34) hG hd dX11_clerk_34
  refine a_aload_n (pc := 21) hG 0 rfl dX11_clerk_21 rfl ?_
  refine a_getR (pc := 22) hG sc_0 cl_X11 ok_X11 4 (by decide) rfl t_485 dX11_clerk_22 ?_
  refine a_iload_n (pc := 25) hG 1 rfl dX11_clerk_25 rfl ?_
  refine a_iload_n (pc := 26) hG 2 rfl dX11_clerk_26 rfl ?_
  refine a_cvI (pc := 27) hG (As := [.int a0, .int a1]) (st := []) sc_20 cl_X0 mk_X0_ofClerk t_794 (by omega) (fun z hz => c_Desk_ofClerk a0 a1 _  z hz) rfl (Nat.le_of_ble_eq_true rfl) hd dX11_clerk_27 (fun r4 h3 hd => ?_)
  refine a_goto (pc := 30) hG (tgt := 34) dX11_clerk_30 (by decide) ?_
  exact a_iret (pc := 34) hG hd dX11_clerk_34
theorem dX0_ofNow_0 : decode cX0_ofNow 0 = .ok (.aload_n 0, 1) := by decide +kernel
theorem dX0_ofNow_1 : decode cX0_ofNow 1 = .ok (.getfield 9, 3) := by decide +kernel
theorem dX0_ofNow_4 : decode cX0_ofNow 4 = .ok (.bipush 84, 2) := by decide +kernel
theorem dX0_ofNow_6 : decode cX0_ofNow 6 = .ok (.iload_n 1, 1) := by decide +kernel
theorem dX0_ofNow_7 : decode cX0_ofNow 7 = .ok (.iadd, 1) := by decide +kernel
theorem dX0_ofNow_8 : decode cX0_ofNow 8 = .ok (.iaload, 1) := by decide +kernel
theorem dX0_ofNow_9 : decode cX0_ofNow 9 = .ok (.ireturn, 1) := by decide +kernel
set_option maxHeartbeats 4000000 in
theorem c_Desk_ofNow {ad wad : Nat → Nat} (a0 : Int32) (h : HS)  (q : Int32 × HS) (hd : f_Desk_ofNow a0 h = some q) : Ctr SHc ad wad yX0_ofNow cX0_ofNow 2 (some .int) 1 [.ref (ad 20), .int a0] h (some (.int q.1), q.2) := by
  refine enter (own := RX0) (lv := [(0, .ref (ad 20)), (1, .int a0)]) (by decide +kernel) rfl (Nat.le_of_ble_eq_true rfl) rfl (fun Γ hG => ?_)
  unfold f_Desk_ofNow at hd
  refine a_aload_n (pc := 0) hG 0 rfl dX0_ofNow_0 rfl ?_
  refine a_getR (pc := 1) hG sc_20 cl_X0 ok_X0 1 (by decide) rfl t_267 dX0_ofNow_1 ?_
  refine a_bipush (pc := 4) hG dX0_ofNow_4 (v := (nI 84)) rfl ?_
  refine a_iload_n (pc := 6) hG 1 rfl dX0_ofNow_6 rfl ?_
  refine a_iadd (pc := 7) hG dX0_ofNow_7 ?_
  refine a_iald (pc := 8) hG sc_21 hd dX0_ofNow_8 (fun hd => ?_)
  exact a_iret (pc := 9) hG hd dX0_ofNow_9
theorem dX0_deadBits_0 : decode cX0_deadBits 0 = .ok (.iconst 0, 1) := by decide +kernel
theorem dX0_deadBits_1 : decode cX0_deadBits 1 = .ok (.istore_n 1, 1) := by decide +kernel
theorem dX0_deadBits_2 : decode cX0_deadBits 2 = .ok (.iconst 0, 1) := by decide +kernel
theorem dX0_deadBits_3 : decode cX0_deadBits 3 = .ok (.istore_n 2, 1) := by decide +kernel
theorem dX0_deadBits_4 : decode cX0_deadBits 4 = .ok (.iload_n 2, 1) := by decide +kernel
theorem dX0_deadBits_5 : decode cX0_deadBits 5 = .ok (.aload_n 0, 1) := by decide +kernel
theorem dX0_deadBits_6 : decode cX0_deadBits 6 = .ok (.getfield 27, 3) := by decide +kernel
theorem dX0_deadBits_9 : decode cX0_deadBits 9 = .ok (.invokevirtual 31, 3) := by decide +kernel
theorem dX0_deadBits_12 : decode cX0_deadBits 12 = .ok (.if_icmp .ge 25, 3) := by decide +kernel
theorem dX0_deadBits_15 : decode cX0_deadBits 15 = .ok (.aload_n 0, 1) := by decide +kernel
theorem dX0_deadBits_16 : decode cX0_deadBits 16 = .ok (.iload_n 2, 1) := by decide +kernel
theorem dX0_deadBits_17 : decode cX0_deadBits 17 = .ok (.iconst 4, 1) := by decide +kernel
theorem dX0_deadBits_18 : decode cX0_deadBits 18 = .ok (.invokevirtual 81, 3) := by decide +kernel
theorem dX0_deadBits_21 : decode cX0_deadBits 21 = .ok (.iconst 4, 1) := by decide +kernel
theorem dX0_deadBits_22 : decode cX0_deadBits 22 = .ok (.if_icmp .ne 9, 3) := by decide +kernel
theorem dX0_deadBits_25 : decode cX0_deadBits 25 = .ok (.iload_n 1, 1) := by decide +kernel
theorem dX0_deadBits_26 : decode cX0_deadBits 26 = .ok (.iconst 1, 1) := by decide +kernel
theorem dX0_deadBits_27 : decode cX0_deadBits 27 = .ok (.iload_n 2, 1) := by decide +kernel
theorem dX0_deadBits_28 : decode cX0_deadBits 28 = .ok (.ishl, 1) := by decide +kernel
theorem dX0_deadBits_29 : decode cX0_deadBits 29 = .ok (.ior, 1) := by decide +kernel
theorem dX0_deadBits_30 : decode cX0_deadBits 30 = .ok (.istore_n 1, 1) := by decide +kernel
theorem dX0_deadBits_31 : decode cX0_deadBits 31 = .ok (.iinc 2 1, 3) := by decide +kernel
theorem dX0_deadBits_34 : decode cX0_deadBits 34 = .ok (.goto (-30), 3) := by decide +kernel
theorem dX0_deadBits_37 : decode cX0_deadBits 37 = .ok (.iload_n 1, 1) := by decide +kernel
theorem dX0_deadBits_38 : decode cX0_deadBits 38 = .ok (.ireturn, 1) := by decide +kernel
set_option maxHeartbeats 4000000 in
theorem w_l_Desk_deadBits_0 {ad wad : Nat → Nat} {Γ : Ctx} (F : Nat) {n : Nat} (hn : 2 ≤ n) (hG : Cx SHc ad wad cX0_deadBits 3 RX0 (some .int) (n) Γ) {q : Int32 × HS} {g : Nat} {x1 : Int32} {x2 : Int32} {h : HS} (hd : l_Desk_deadBits_0 F g x1 x2 h = some q) : AW SHc ad 3 (some (.int q.1), q.2) Γ 4 [(0, .ref (ad 20)), (1, .int x1), (2, .int x2)] [] h := by
  induction g generalizing x1 x2 h with
  | zero => unfold l_Desk_deadBits_0 at hd; cases hd
  | succ g ih =>
    unfold l_Desk_deadBits_0 at hd
    refine a_iload_n (pc := 4) hG 2 rfl dX0_deadBits_4 rfl ?_
    refine a_aload_n (pc := 5) hG 0 rfl dX0_deadBits_5 rfl ?_
    refine a_getR (pc := 6) hG sc_20 cl_X0 ok_X0 0 (by decide) rfl t_266 dX0_deadBits_6 ?_
    refine a_cvI (pc := 9) hG (As := []) (st := [.int x2]) sc_3 cl_X5 mk_X5_causes t_437 (by omega) (fun z hz => c_Plan_causes_3  _  z hz) rfl (Nat.le_of_ble_eq_true rfl) hd dX0_deadBits_9 (fun r4 h3 hd => ?_)
    refine a_ic_ge (pc := 12) hG (tgt := 37) hd dX0_deadBits_12 (by decide) (fun hd => ?_) (fun hd => ?_)
    · refine a_iload_n (pc := 37) hG 1 rfl dX0_deadBits_37 rfl ?_
      exact a_iret (pc := 38) hG hd dX0_deadBits_38
    refine a_aload_n (pc := 15) hG 0 rfl dX0_deadBits_15 rfl ?_
    refine a_iload_n (pc := 16) hG 2 rfl dX0_deadBits_16 rfl ?_
    refine a_iconst (pc := 17) hG dX0_deadBits_17 (v := (nI 4)) rfl ?_
    refine a_cvI (pc := 18) hG (As := [.int x2, .int (nI 4)]) (st := []) sc_20 cl_X0 mk_X0_ofCause t_806 (by omega) (fun z hz => c_Desk_ofCause x2 (nI 4) _  z hz) rfl (Nat.le_of_ble_eq_true rfl) hd dX0_deadBits_18 (fun r6 h5 hd => ?_)
    refine a_iconst (pc := 21) hG dX0_deadBits_21 (v := (nI 4)) rfl ?_
    refine a_join hd (Q := fun J : Int32 → HS → Option (Int32 × HS) => ∀ (v8 : Int32) (h9 : HS), J v8 h9 = some q → AW SHc ad 3 (some (.int q.1), q.2) Γ 31 [(0, .ref (ad 20)), (1, .int v8), (2, .int x2)] [] h9) (fun v8 h9 hd => ?_) (fun J7 hJ7 hd => ?_)
    · refine a_iincN (pc := 31) hG (c0 := (nI 1)) 2 rfl hd dX0_deadBits_31 rfl (by decide) (lf := fun x => [(2, .int x), (0, .ref (ad 20)), (1, .int v8)]) (fun _ => rfl) (fun v10 hd => ?_)
      refine a_goto (pc := 34) hG (tgt := 4) dX0_deadBits_34 (by decide) ?_
      exact AW.sub [1, 2, 0] rfl (ih hd)
    refine a_ic_ne (pc := 22) hG (tgt := 31) hd dX0_deadBits_22 (by decide) (fun hd => ?_) (fun hd => ?_)
    · exact AW.sub [0, 1, 2] rfl (hJ7 _ _ hd)
    refine a_iload_n (pc := 25) hG 1 rfl dX0_deadBits_25 rfl ?_
    refine a_iconst (pc := 26) hG dX0_deadBits_26 (v := (nI 1)) rfl ?_
    refine a_iload_n (pc := 27) hG 2 rfl dX0_deadBits_27 rfl ?_
    refine a_ishl (pc := 28) hG dX0_deadBits_28 ?_
    refine a_ior (pc := 29) hG dX0_deadBits_29 ?_
    refine a_istore_nN (pc := 30) hG hd dX0_deadBits_30 rfl (by decide) (lf := fun x => [(1, .int x), (0, .ref (ad 20)), (2, .int x2)]) (fun _ => rfl) (fun v11 hd => ?_)
    exact AW.sub [1, 0, 2] rfl (hJ7 _ _ hd)
set_option maxHeartbeats 4000000 in
theorem c_Desk_deadBits {ad wad : Nat → Nat} (F : Nat)  (h : HS)  (q : Int32 × HS) (hd : f_Desk_deadBits F  h = some q) : Ctr SHc ad wad yX0_deadBits cX0_deadBits 3 (some .int) 2 [.ref (ad 20)] h (some (.int q.1), q.2) := by
  refine enter (own := RX0) (lv := [(0, .ref (ad 20))]) (by decide +kernel) rfl (Nat.le_of_ble_eq_true rfl) rfl (fun Γ hG => ?_)
  unfold f_Desk_deadBits at hd
  refine a_iconst (pc := 0) hG dX0_deadBits_0 (v := (nI 0)) rfl ?_
  refine a_istore_nN (pc := 1) hG hd dX0_deadBits_1 rfl (by decide) (lf := fun x => [(1, .int x), (0, .ref (ad 20))]) (fun _ => rfl) (fun v1 hd => ?_)
  refine a_iconst (pc := 2) hG dX0_deadBits_2 (v := (nI 0)) rfl ?_
  refine a_istore_nN (pc := 3) hG hd dX0_deadBits_3 rfl (by decide) (lf := fun x => [(2, .int x), (1, .int v1), (0, .ref (ad 20))]) (fun _ => rfl) (fun v2 hd => ?_)
  refine AW.sub [2, 1, 0] rfl ?_
  exact w_l_Desk_deadBits_0 F (by omega) hG hd
theorem dX11_now_0 : decode cX11_now 0 = .ok (.iload_n 1, 1) := by decide +kernel
theorem dX11_now_1 : decode cX11_now 1 = .ok (.ifCond .lt 9, 3) := by decide +kernel
theorem dX11_now_4 : decode cX11_now 4 = .ok (.iload_n 1, 1) := by decide +kernel
theorem dX11_now_5 : decode cX11_now 5 = .ok (.bipush 7, 2) := by decide +kernel
theorem dX11_now_7 : decode cX11_now 7 = .ok (.if_icmp .lt 5, 3) := by decide +kernel
theorem dX11_now_10 : decode cX11_now 10 = .ok (.iconst (-1), 1) := by decide +kernel
theorem dX11_now_11 : decode cX11_now 11 = .ok (.ireturn, 1) := by decide +kernel
theorem dX11_now_12 : decode cX11_now 12 = .ok (.iload_n 1, 1) := by decide +kernel
theorem dX11_now_13 : decode cX11_now 13 = .ok (.iconst 3, 1) := by decide +kernel
theorem dX11_now_14 : decode cX11_now 14 = .ok (.if_icmp .ne 13, 3) := by decide +kernel
theorem dX11_now_17 : decode cX11_now 17 = .ok (.aload_n 0, 1) := by decide +kernel
theorem dX11_now_18 : decode cX11_now 18 = .ok (.getfield 40, 3) := by decide +kernel
theorem dX11_now_21 : decode cX11_now 21 = .ok (.invokevirtual 183, 3) := by decide +kernel
theorem dX11_now_24 : decode cX11_now 24 = .ok (.goto 11, 3) := by decide +kernel
theorem dX11_now_27 : decode cX11_now 27 = .ok (.aload_n 0, 1) := by decide +kernel
theorem dX11_now_28 : decode cX11_now 28 = .ok (.getfield 40, 3) := by decide +kernel
theorem dX11_now_31 : decode cX11_now 31 = .ok (.iload_n 1, 1) := by decide +kernel
theorem dX11_now_32 : decode cX11_now 32 = .ok (.invokevirtual 186, 3) := by decide +kernel
theorem dX11_now_35 : decode cX11_now 35 = .ok (.ireturn, 1) := by decide +kernel
set_option maxHeartbeats 4000000 in
theorem c_LC_now {ad wad : Nat → Nat} (F : Nat) (a0 : Int32) (h : HS)  (q : Int32 × HS) (hd : f_LC_now F a0 h = some q) : Ctr SHc ad wad yX11_now cX11_now 2 (some .int) 3 [.ref (ad 0), .int a0] h (some (.int q.1), q.2) := by
  refine enter (own := RX11) (lv := [(0, .ref (ad 0)), (1, .int a0)]) (by decide +kernel) rfl (Nat.le_of_ble_eq_true rfl) rfl (fun Γ hG => ?_)
  unfold f_LC_now at hd
  refine a_iload_n (pc := 0) hG 1 rfl dX11_now_0 rfl ?_
  refine a_if_lt (pc := 1) hG (tgt := 10) hd dX11_now_1 (by decide) (fun hd => ?_) (fun hd => ?_)
  · refine a_iconst (pc := 10) hG dX11_now_10 (v := (-1 : Int32)) rfl ?_
    exact a_iret (pc := 11) hG hd dX11_now_11
  refine a_iload_n (pc := 4) hG 1 rfl dX11_now_4 rfl ?_
  refine a_bipush (pc := 5) hG dX11_now_5 (v := (nI 7)) rfl ?_
  refine a_ic_lt (pc := 7) hG (tgt := 12) hd dX11_now_7 (by decide) (fun hd => ?_) (fun hd => ?_)
  · refine a_iload_n (pc := 12) hG 1 rfl dX11_now_12 rfl ?_
    refine a_iconst (pc := 13) hG dX11_now_13 (v := (nI 3)) rfl ?_
    refine a_ic_ne (pc := 14) hG (tgt := 27) hd dX11_now_14 (by decide) (fun hd => ?_) (fun hd => ?_)
    · refine a_aload_n (pc := 27) hG 0 rfl dX11_now_27 rfl ?_
      refine a_getR (pc := 28) hG sc_0 cl_X11 ok_X11 4 (by decide) rfl t_485 dX11_now_28 ?_
      refine a_iload_n (pc := 31) hG 1 rfl dX11_now_31 rfl ?_
      refine a_cvI (pc := 32) hG (As := [.int a0]) (st := []) sc_20 cl_X0 mk_X0_ofNow t_810 (by omega) (fun z hz => c_Desk_ofNow a0 _  z hz) rfl (Nat.le_of_ble_eq_true rfl) hd dX11_now_32 (fun r2 h1 hd => ?_)
      exact a_iret (pc := 35) hG hd dX11_now_35
    refine a_aload_n (pc := 17) hG 0 rfl dX11_now_17 rfl ?_
    refine a_getR (pc := 18) hG sc_0 cl_X11 ok_X11 4 (by decide) rfl t_485 dX11_now_18 ?_
    refine a_cvI (pc := 21) hG (As := []) (st := []) sc_20 cl_X0 mk_X0_deadBits t_802 (by omega) (fun z hz => c_Desk_deadBits F  _  z hz) rfl (Nat.le_of_ble_eq_true rfl) hd dX11_now_21 (fun r4 h3 hd => ?_)
    refine a_goto (pc := 24) hG (tgt := 35) dX11_now_24 (by decide) ?_
    exact a_iret (pc := 35) hG hd dX11_now_35
  refine a_iconst (pc := 10) hG dX11_now_10 (v := (-1 : Int32)) rfl ?_
  exact a_iret (pc := 11) hG hd dX11_now_11
theorem dX0_isFree_0 : decode cX0_isFree 0 = .ok (.aload_n 0, 1) := by decide +kernel
theorem dX0_isFree_1 : decode cX0_isFree 1 = .ok (.iload_n 1, 1) := by decide +kernel
theorem dX0_isFree_2 : decode cX0_isFree 2 = .ok (.iconst 2, 1) := by decide +kernel
theorem dX0_isFree_3 : decode cX0_isFree 3 = .ok (.invokevirtual 78, 3) := by decide +kernel
theorem dX0_isFree_6 : decode cX0_isFree 6 = .ok (.iconst (-1), 1) := by decide +kernel
theorem dX0_isFree_7 : decode cX0_isFree 7 = .ok (.if_icmp .ne 7, 3) := by decide +kernel
theorem dX0_isFree_10 : decode cX0_isFree 10 = .ok (.iconst 1, 1) := by decide +kernel
theorem dX0_isFree_11 : decode cX0_isFree 11 = .ok (.goto 4, 3) := by decide +kernel
theorem dX0_isFree_14 : decode cX0_isFree 14 = .ok (.iconst 0, 1) := by decide +kernel
theorem dX0_isFree_15 : decode cX0_isFree 15 = .ok (.ireturn, 1) := by decide +kernel
set_option maxHeartbeats 4000000 in
theorem c_Desk_isFree {ad wad : Nat → Nat} (a0 : Int32) (h : HS)  (q : Int32 × HS) (hd : f_Desk_isFree a0 h = some q) : Ctr SHc ad wad yX0_isFree cX0_isFree 2 (some .boolean) 2 [.ref (ad 20), .int a0] h (some (.int q.1), q.2) := by
  refine enter (own := RX0) (lv := [(0, .ref (ad 20)), (1, .int a0)]) (by decide +kernel) rfl (Nat.le_of_ble_eq_true rfl) rfl (fun Γ hG => ?_)
  unfold f_Desk_isFree at hd
  refine a_aload_n (pc := 0) hG 0 rfl dX0_isFree_0 rfl ?_
  refine a_iload_n (pc := 1) hG 1 rfl dX0_isFree_1 rfl ?_
  refine a_iconst (pc := 2) hG dX0_isFree_2 (v := (nI 2)) rfl ?_
  refine a_cvI (pc := 3) hG (As := [.int a0, .int (nI 2)]) (st := []) sc_20 cl_X0 mk_X0_ofClerk t_827 (by omega) (fun z hz => c_Desk_ofClerk a0 (nI 2) _  z hz) rfl (Nat.le_of_ble_eq_true rfl) hd dX0_isFree_3 (fun r2 h1 hd => ?_)
  refine a_iconst (pc := 6) hG dX0_isFree_6 (v := (-1 : Int32)) rfl ?_
  refine a_ic_ne (pc := 7) hG (tgt := 14) hd dX0_isFree_7 (by decide) (fun hd => ?_) (fun hd => ?_)
  · refine a_iconst (pc := 14) hG dX0_isFree_14 (v := (nI 0)) rfl ?_
    exact a_zret (pc := 15) hG hd dX0_isFree_15
  refine a_iconst (pc := 10) hG dX0_isFree_10 (v := (nI 1)) rfl ?_
  refine a_goto (pc := 11) hG (tgt := 15) dX0_isFree_11 (by decide) ?_
  exact a_zret (pc := 15) hG hd dX0_isFree_15
theorem dX5_isSafe_0 : decode cX5_isSafe 0 = .ok (.iload_n 1, 1) := by decide +kernel
theorem dX5_isSafe_1 : decode cX5_isSafe 1 = .ok (.aload_n 0, 1) := by decide +kernel
theorem dX5_isSafe_2 : decode cX5_isSafe 2 = .ok (.getfield 15, 3) := by decide +kernel
theorem dX5_isSafe_5 : decode cX5_isSafe 5 = .ok (.imul, 1) := by decide +kernel
theorem dX5_isSafe_6 : decode cX5_isSafe 6 = .ok (.aload_n 0, 1) := by decide +kernel
theorem dX5_isSafe_7 : decode cX5_isSafe 7 = .ok (.getfield 9, 3) := by decide +kernel
theorem dX5_isSafe_10 : decode cX5_isSafe 10 = .ok (.iload_n 1, 1) := by decide +kernel
theorem dX5_isSafe_11 : decode cX5_isSafe 11 = .ok (.iload_n 2, 1) := by decide +kernel
theorem dX5_isSafe_12 : decode cX5_isSafe 12 = .ok (.iadd, 1) := by decide +kernel
theorem dX5_isSafe_13 : decode cX5_isSafe 13 = .ok (.imul, 1) := by decide +kernel
theorem dX5_isSafe_14 : decode cX5_isSafe 14 = .ok (.if_icmp .ge 7, 3) := by decide +kernel
theorem dX5_isSafe_17 : decode cX5_isSafe 17 = .ok (.iconst 1, 1) := by decide +kernel
theorem dX5_isSafe_18 : decode cX5_isSafe 18 = .ok (.goto 4, 3) := by decide +kernel
theorem dX5_isSafe_21 : decode cX5_isSafe 21 = .ok (.iconst 0, 1) := by decide +kernel
theorem dX5_isSafe_22 : decode cX5_isSafe 22 = .ok (.ireturn, 1) := by decide +kernel
set_option maxHeartbeats 4000000 in
theorem c_Plan_isSafe_3 {ad wad : Nat → Nat} (a0 : Int32) (a1 : Int32) (h : HS)  (q : Int32 × HS) (hd : f_Plan_isSafe_3 a0 a1 h = some q) : Ctr SHc ad wad yX5_isSafe cX5_isSafe 3 (some .boolean) 1 [.ref (ad 3), .int a0, .int a1] h (some (.int q.1), q.2) := by
  refine enter (own := RX5) (lv := [(0, .ref (ad 3)), (1, .int a0), (2, .int a1)]) (by decide +kernel) rfl (Nat.le_of_ble_eq_true rfl) rfl (fun Γ hG => ?_)
  unfold f_Plan_isSafe_3 at hd
  refine a_iload_n (pc := 0) hG 1 rfl dX5_isSafe_0 rfl ?_
  refine a_aload_n (pc := 1) hG 0 rfl dX5_isSafe_1 rfl ?_
  refine a_getI (pc := 2) hG sc_3 cl_X5 ok_X5 1 (by decide) rfl t_198 dX5_isSafe_2 ?_
  refine a_imul (pc := 5) hG dX5_isSafe_5 ?_
  refine a_aload_n (pc := 6) hG 0 rfl dX5_isSafe_6 rfl ?_
  refine a_getI (pc := 7) hG sc_3 cl_X5 ok_X5 0 (by decide) rfl t_197 dX5_isSafe_7 ?_
  refine a_iload_n (pc := 10) hG 1 rfl dX5_isSafe_10 rfl ?_
  refine a_iload_n (pc := 11) hG 2 rfl dX5_isSafe_11 rfl ?_
  refine a_iadd (pc := 12) hG dX5_isSafe_12 ?_
  refine a_imul (pc := 13) hG dX5_isSafe_13 ?_
  refine a_ic_ge (pc := 14) hG (tgt := 21) hd dX5_isSafe_14 (by decide) (fun hd => ?_) (fun hd => ?_)
  · refine a_iconst (pc := 21) hG dX5_isSafe_21 (v := (nI 0)) rfl ?_
    exact a_zret (pc := 22) hG hd dX5_isSafe_22
  refine a_iconst (pc := 17) hG dX5_isSafe_17 (v := (nI 1)) rfl ?_
  refine a_goto (pc := 18) hG (tgt := 22) dX5_isSafe_18 (by decide) ?_
  exact a_zret (pc := 22) hG hd dX5_isSafe_22
theorem dX0_isSafe_0 : decode cX0_isSafe 0 = .ok (.aload_n 0, 1) := by decide +kernel
theorem dX0_isSafe_1 : decode cX0_isSafe 1 = .ok (.getfield 27, 3) := by decide +kernel
theorem dX0_isSafe_4 : decode cX0_isSafe 4 = .ok (.aload_n 0, 1) := by decide +kernel
theorem dX0_isSafe_5 : decode cX0_isSafe 5 = .ok (.iload_n 1, 1) := by decide +kernel
theorem dX0_isSafe_6 : decode cX0_isSafe 6 = .ok (.iconst 0, 1) := by decide +kernel
theorem dX0_isSafe_7 : decode cX0_isSafe 7 = .ok (.invokevirtual 81, 3) := by decide +kernel
theorem dX0_isSafe_10 : decode cX0_isSafe 10 = .ok (.aload_n 0, 1) := by decide +kernel
theorem dX0_isSafe_11 : decode cX0_isSafe 11 = .ok (.iload_n 1, 1) := by decide +kernel
theorem dX0_isSafe_12 : decode cX0_isSafe 12 = .ok (.iconst 1, 1) := by decide +kernel
theorem dX0_isSafe_13 : decode cX0_isSafe 13 = .ok (.invokevirtual 81, 3) := by decide +kernel
theorem dX0_isSafe_16 : decode cX0_isSafe 16 = .ok (.invokevirtual 82, 3) := by decide +kernel
theorem dX0_isSafe_19 : decode cX0_isSafe 19 = .ok (.ireturn, 1) := by decide +kernel
set_option maxHeartbeats 4000000 in
theorem c_Desk_isSafe {ad wad : Nat → Nat} (a0 : Int32) (h : HS)  (q : Int32 × HS) (hd : f_Desk_isSafe a0 h = some q) : Ctr SHc ad wad yX0_isSafe cX0_isSafe 2 (some .boolean) 2 [.ref (ad 20), .int a0] h (some (.int q.1), q.2) := by
  refine enter (own := RX0) (lv := [(0, .ref (ad 20)), (1, .int a0)]) (by decide +kernel) rfl (Nat.le_of_ble_eq_true rfl) rfl (fun Γ hG => ?_)
  unfold f_Desk_isSafe at hd
  refine a_aload_n (pc := 0) hG 0 rfl dX0_isSafe_0 rfl ?_
  refine a_getR (pc := 1) hG sc_20 cl_X0 ok_X0 0 (by decide) rfl t_266 dX0_isSafe_1 ?_
  refine a_aload_n (pc := 4) hG 0 rfl dX0_isSafe_4 rfl ?_
  refine a_iload_n (pc := 5) hG 1 rfl dX0_isSafe_5 rfl ?_
  refine a_iconst (pc := 6) hG dX0_isSafe_6 (v := (nI 0)) rfl ?_
  refine a_cvI (pc := 7) hG (As := [.int a0, .int (nI 0)]) (st := [.ref (ad 3)]) sc_20 cl_X0 mk_X0_ofCause t_806 (by omega) (fun z hz => c_Desk_ofCause a0 (nI 0) _  z hz) rfl (Nat.le_of_ble_eq_true rfl) hd dX0_isSafe_7 (fun r2 h1 hd => ?_)
  refine a_aload_n (pc := 10) hG 0 rfl dX0_isSafe_10 rfl ?_
  refine a_iload_n (pc := 11) hG 1 rfl dX0_isSafe_11 rfl ?_
  refine a_iconst (pc := 12) hG dX0_isSafe_12 (v := (nI 1)) rfl ?_
  refine a_cvI (pc := 13) hG (As := [.int a0, .int (nI 1)]) (st := [.int r2, .ref (ad 3)]) sc_20 cl_X0 mk_X0_ofCause t_806 (by omega) (fun z hz => c_Desk_ofCause a0 (nI 1) _  z hz) rfl (Nat.le_of_ble_eq_true rfl) hd dX0_isSafe_13 (fun r4 h3 hd => ?_)
  refine a_cvI (pc := 16) hG (As := [.int r2, .int r4]) (st := []) sc_3 cl_X5 mk_X5_isSafe t_832 (by omega) (fun z hz => c_Plan_isSafe_3 r2 r4 _  z hz) rfl (Nat.le_of_ble_eq_true rfl) hd dX0_isSafe_16 (fun r6 h5 hd => ?_)
  exact a_zret (pc := 19) hG hd dX0_isSafe_19
theorem dX0_weeksLeft_0 : decode cX0_weeksLeft 0 = .ok (.sipush 200, 3) := by decide +kernel
theorem dX0_weeksLeft_3 : decode cX0_weeksLeft 3 = .ok (.aload_n 0, 1) := by decide +kernel
theorem dX0_weeksLeft_4 : decode cX0_weeksLeft 4 = .ok (.iconst 0, 1) := by decide +kernel
theorem dX0_weeksLeft_5 : decode cX0_weeksLeft 5 = .ok (.invokevirtual 75, 3) := by decide +kernel
theorem dX0_weeksLeft_8 : decode cX0_weeksLeft 8 = .ok (.isub, 1) := by decide +kernel
theorem dX0_weeksLeft_9 : decode cX0_weeksLeft 9 = .ok (.ireturn, 1) := by decide +kernel
set_option maxHeartbeats 4000000 in
theorem c_Desk_weeksLeft {ad wad : Nat → Nat}  (h : HS)  (q : Int32 × HS) (hd : f_Desk_weeksLeft  h = some q) : Ctr SHc ad wad yX0_weeksLeft cX0_weeksLeft 1 (some .int) 2 [.ref (ad 20)] h (some (.int q.1), q.2) := by
  refine enter (own := RX0) (lv := [(0, .ref (ad 20))]) (by decide +kernel) rfl (Nat.le_of_ble_eq_true rfl) rfl (fun Γ hG => ?_)
  unfold f_Desk_weeksLeft at hd
  refine a_sipush (pc := 0) hG dX0_weeksLeft_0 (v := (nI 200)) rfl ?_
  refine a_aload_n (pc := 3) hG 0 rfl dX0_weeksLeft_3 rfl ?_
  refine a_iconst (pc := 4) hG dX0_weeksLeft_4 (v := (nI 0)) rfl ?_
  refine a_cvI (pc := 5) hG (As := [.int (nI 0)]) (st := [.int (nI 200)]) sc_20 cl_X0 mk_X0_ofNow t_840 (by omega) (fun z hz => c_Desk_ofNow (nI 0) _  z hz) rfl (Nat.le_of_ble_eq_true rfl) hd dX0_weeksLeft_5 (fun r2 h1 hd => ?_)
  refine a_isub (pc := 8) hG dX0_weeksLeft_8 ?_
  exact a_iret (pc := 9) hG hd dX0_weeksLeft_9
theorem dX0_whyNotTake_0 : decode cX0_whyNotTake 0 = .ok (.aload_n 0, 1) := by decide +kernel
theorem dX0_whyNotTake_1 : decode cX0_whyNotTake 1 = .ok (.iload_n 1, 1) := by decide +kernel
theorem dX0_whyNotTake_2 : decode cX0_whyNotTake 2 = .ok (.invokevirtual 94, 3) := by decide +kernel
theorem dX0_whyNotTake_5 : decode cX0_whyNotTake 5 = .ok (.ifCond .ne 5, 3) := by decide +kernel
theorem dX0_whyNotTake_8 : decode cX0_whyNotTake 8 = .ok (.iconst 1, 1) := by decide +kernel
theorem dX0_whyNotTake_9 : decode cX0_whyNotTake 9 = .ok (.ireturn, 1) := by decide +kernel
theorem dX0_whyNotTake_10 : decode cX0_whyNotTake 10 = .ok (.aload_n 0, 1) := by decide +kernel
theorem dX0_whyNotTake_11 : decode cX0_whyNotTake 11 = .ok (.iload_n 2, 1) := by decide +kernel
theorem dX0_whyNotTake_12 : decode cX0_whyNotTake 12 = .ok (.iconst 4, 1) := by decide +kernel
theorem dX0_whyNotTake_13 : decode cX0_whyNotTake 13 = .ok (.invokevirtual 81, 3) := by decide +kernel
theorem dX0_whyNotTake_16 : decode cX0_whyNotTake 16 = .ok (.ifCond .eq 5, 3) := by decide +kernel
theorem dX0_whyNotTake_19 : decode cX0_whyNotTake 19 = .ok (.iconst 2, 1) := by decide +kernel
theorem dX0_whyNotTake_20 : decode cX0_whyNotTake 20 = .ok (.ireturn, 1) := by decide +kernel
theorem dX0_whyNotTake_21 : decode cX0_whyNotTake 21 = .ok (.aload_n 0, 1) := by decide +kernel
theorem dX0_whyNotTake_22 : decode cX0_whyNotTake 22 = .ok (.iload_n 2, 1) := by decide +kernel
theorem dX0_whyNotTake_23 : decode cX0_whyNotTake 23 = .ok (.invokevirtual 86, 3) := by decide +kernel
theorem dX0_whyNotTake_26 : decode cX0_whyNotTake 26 = .ok (.ifCond .ne 5, 3) := by decide +kernel
theorem dX0_whyNotTake_29 : decode cX0_whyNotTake 29 = .ok (.iconst 3, 1) := by decide +kernel
theorem dX0_whyNotTake_30 : decode cX0_whyNotTake 30 = .ok (.ireturn, 1) := by decide +kernel
theorem dX0_whyNotTake_31 : decode cX0_whyNotTake 31 = .ok (.aload_n 0, 1) := by decide +kernel
theorem dX0_whyNotTake_32 : decode cX0_whyNotTake 32 = .ok (.invokevirtual 97, 3) := by decide +kernel
theorem dX0_whyNotTake_35 : decode cX0_whyNotTake 35 = .ok (.ifCond .ne 7, 3) := by decide +kernel
theorem dX0_whyNotTake_38 : decode cX0_whyNotTake 38 = .ok (.iconst 4, 1) := by decide +kernel
theorem dX0_whyNotTake_39 : decode cX0_whyNotTake 39 = .ok (.goto 4, 3) := by decide +kernel
theorem dX0_whyNotTake_42 : decode cX0_whyNotTake 42 = .ok (.iconst 0, 1) := by decide +kernel
theorem dX0_whyNotTake_43 : decode cX0_whyNotTake 43 = .ok (.ireturn, 1) := by decide +kernel
set_option maxHeartbeats 4000000 in
theorem c_Desk_whyNotTake {ad wad : Nat → Nat} (a0 : Int32) (a1 : Int32) (h : HS)  (q : Int32 × HS) (hd : f_Desk_whyNotTake a0 a1 h = some q) : Ctr SHc ad wad yX0_whyNotTake cX0_whyNotTake 3 (some .int) 3 [.ref (ad 20), .int a0, .int a1] h (some (.int q.1), q.2) := by
  refine enter (own := RX0) (lv := [(0, .ref (ad 20)), (1, .int a0), (2, .int a1)]) (by decide +kernel) rfl (Nat.le_of_ble_eq_true rfl) rfl (fun Γ hG => ?_)
  unfold f_Desk_whyNotTake at hd
  refine a_aload_n (pc := 0) hG 0 rfl dX0_whyNotTake_0 rfl ?_
  refine a_iload_n (pc := 1) hG 1 rfl dX0_whyNotTake_1 rfl ?_
  refine a_cvI (pc := 2) hG (As := [.int a0]) (st := []) sc_20 cl_X0 mk_X0_isFree t_823 (by omega) (fun z hz => c_Desk_isFree a0 _  z hz) rfl (Nat.le_of_ble_eq_true rfl) hd dX0_whyNotTake_2 (fun r2 h1 hd => ?_)
  refine a_if_ne (pc := 5) hG (tgt := 10) hd dX0_whyNotTake_5 (by decide) (fun hd => ?_) (fun hd => ?_)
  · refine a_aload_n (pc := 10) hG 0 rfl dX0_whyNotTake_10 rfl ?_
    refine a_iload_n (pc := 11) hG 2 rfl dX0_whyNotTake_11 rfl ?_
    refine a_iconst (pc := 12) hG dX0_whyNotTake_12 (v := (nI 4)) rfl ?_
    refine a_cvI (pc := 13) hG (As := [.int a1, .int (nI 4)]) (st := []) sc_20 cl_X0 mk_X0_ofCause t_806 (by omega) (fun z hz => c_Desk_ofCause a1 (nI 4) _  z hz) rfl (Nat.le_of_ble_eq_true rfl) hd dX0_whyNotTake_13 (fun r4 h3 hd => ?_)
    refine a_if_eq (pc := 16) hG (tgt := 21) hd dX0_whyNotTake_16 (by decide) (fun hd => ?_) (fun hd => ?_)
    · refine a_aload_n (pc := 21) hG 0 rfl dX0_whyNotTake_21 rfl ?_
      refine a_iload_n (pc := 22) hG 2 rfl dX0_whyNotTake_22 rfl ?_
      refine a_cvI (pc := 23) hG (As := [.int a1]) (st := []) sc_20 cl_X0 mk_X0_isSafe t_828 (by omega) (fun z hz => c_Desk_isSafe a1 _  z hz) rfl (Nat.le_of_ble_eq_true rfl) hd dX0_whyNotTake_23 (fun r6 h5 hd => ?_)
      refine a_if_ne (pc := 26) hG (tgt := 31) hd dX0_whyNotTake_26 (by decide) (fun hd => ?_) (fun hd => ?_)
      · refine a_aload_n (pc := 31) hG 0 rfl dX0_whyNotTake_31 rfl ?_
        refine a_cvI (pc := 32) hG (As := []) (st := []) sc_20 cl_X0 mk_X0_weeksLeft t_836 (by omega) (fun z hz => c_Desk_weeksLeft  _  z hz) rfl (Nat.le_of_ble_eq_true rfl) hd dX0_whyNotTake_32 (fun r8 h7 hd => ?_)
        refine a_if_ne (pc := 35) hG (tgt := 42) hd dX0_whyNotTake_35 (by decide) (fun hd => ?_) (fun hd => ?_)
        · refine a_iconst (pc := 42) hG dX0_whyNotTake_42 (v := (nI 0)) rfl ?_
          exact a_iret (pc := 43) hG hd dX0_whyNotTake_43
        refine a_iconst (pc := 38) hG dX0_whyNotTake_38 (v := (nI 4)) rfl ?_
        refine a_goto (pc := 39) hG (tgt := 43) dX0_whyNotTake_39 (by decide) ?_
        exact a_iret (pc := 43) hG hd dX0_whyNotTake_43
      refine a_iconst (pc := 29) hG dX0_whyNotTake_29 (v := (nI 3)) rfl ?_
      exact a_iret (pc := 30) hG hd dX0_whyNotTake_30
    refine a_iconst (pc := 19) hG dX0_whyNotTake_19 (v := (nI 2)) rfl ?_
    exact a_iret (pc := 20) hG hd dX0_whyNotTake_20
  refine a_iconst (pc := 8) hG dX0_whyNotTake_8 (v := (nI 1)) rfl ?_
  exact a_iret (pc := 9) hG hd dX0_whyNotTake_9
