theorem dX12_isSign_0 : decode cX12_isSign 0 = .ok (.aload_n 0, 1) := by decide +kernel
theorem dX12_isSign_1 : decode cX12_isSign 1 = .ok (.getfield 152, 3) := by decide +kernel
theorem dX12_isSign_4 : decode cX12_isSign 4 = .ok (.iconst 3, 1) := by decide +kernel
theorem dX12_isSign_5 : decode cX12_isSign 5 = .ok (.if_icmp .ne 15, 3) := by decide +kernel
theorem dX12_isSign_8 : decode cX12_isSign 8 = .ok (.aload_n 0, 1) := by decide +kernel
theorem dX12_isSign_9 : decode cX12_isSign 9 = .ok (.getfield 162, 3) := by decide +kernel
theorem dX12_isSign_12 : decode cX12_isSign 12 = .ok (.iload_n 1, 1) := by decide +kernel
theorem dX12_isSign_13 : decode cX12_isSign 13 = .ok (.if_icmp .ne 7, 3) := by decide +kernel
theorem dX12_isSign_16 : decode cX12_isSign 16 = .ok (.iconst 1, 1) := by decide +kernel
theorem dX12_isSign_17 : decode cX12_isSign 17 = .ok (.goto 4, 3) := by decide +kernel
theorem dX12_isSign_20 : decode cX12_isSign 20 = .ok (.iconst 0, 1) := by decide +kernel
theorem dX12_isSign_21 : decode cX12_isSign 21 = .ok (.ireturn, 1) := by decide +kernel
set_option maxHeartbeats 4000000 in
theorem c_M_isSign {ad wad : Nat → Nat} (a0 : Int32) (h : HS)  (q : Int32 × HS) (hd : f_M_isSign a0 h = some q) : Ctr SHm ad wad yX12_isSign cX12_isSign 2 (some .boolean) 1 [.ref (ad 0), .int a0] h (some (.int q.1), q.2) := by
  refine enter (own := RX12) (lv := [(0, .ref (ad 0)), (1, .int a0)]) (by decide +kernel) rfl (Nat.le_of_ble_eq_true rfl) rfl (fun Γ hG => ?_)
  unfold f_M_isSign at hd
  refine a_aload_n (pc := 0) hG 0 rfl dX12_isSign_0 rfl ?_
  refine a_getI (pc := 1) hG sm_0 cl_X12 ok_X12 11 (by decide) rfl t_1620 dX12_isSign_1 ?_
  refine a_iconst (pc := 4) hG dX12_isSign_4 (v := (nI 3)) rfl ?_
  refine a_ic_ne (pc := 5) hG (tgt := 20) hd dX12_isSign_5 (by decide) (fun hd => ?_) (fun hd => ?_)
  · refine a_iconst (pc := 20) hG dX12_isSign_20 (v := (nI 0)) rfl ?_
    exact a_zret (pc := 21) hG hd dX12_isSign_21
  refine a_aload_n (pc := 8) hG 0 rfl dX12_isSign_8 rfl ?_
  refine a_getI (pc := 9) hG sm_0 cl_X12 ok_X12 14 (by decide) rfl t_1623 dX12_isSign_9 ?_
  refine a_iload_n (pc := 12) hG 1 rfl dX12_isSign_12 rfl ?_
  refine a_ic_ne (pc := 13) hG (tgt := 20) hd dX12_isSign_13 (by decide) (fun hd => ?_) (fun hd => ?_)
  · refine a_iconst (pc := 20) hG dX12_isSign_20 (v := (nI 0)) rfl ?_
    exact a_zret (pc := 21) hG hd dX12_isSign_21
  refine a_iconst (pc := 16) hG dX12_isSign_16 (v := (nI 1)) rfl ?_
  refine a_goto (pc := 17) hG (tgt := 21) dX12_isSign_17 (by decide) ?_
  exact a_zret (pc := 21) hG hd dX12_isSign_21
theorem dX12_sign_0 : decode cX12_sign 0 = .ok (.aload_n 0, 1) := by decide +kernel
theorem dX12_sign_1 : decode cX12_sign 1 = .ok (.iload_n 1, 1) := by decide +kernel
theorem dX12_sign_2 : decode cX12_sign 2 = .ok (.invokevirtual 175, 3) := by decide +kernel
theorem dX12_sign_5 : decode cX12_sign 5 = .ok (.ifCond .ne 9, 3) := by decide +kernel
theorem dX12_sign_8 : decode cX12_sign 8 = .ok (.aload_n 0, 1) := by decide +kernel
theorem dX12_sign_9 : decode cX12_sign 9 = .ok (.iconst 1, 1) := by decide +kernel
theorem dX12_sign_10 : decode cX12_sign 10 = .ok (.invokevirtual 178, 3) := by decide +kernel
theorem dX12_sign_13 : decode cX12_sign 13 = .ok (.ireturn, 1) := by decide +kernel
theorem dX12_sign_14 : decode cX12_sign 14 = .ok (.aload_n 0, 1) := by decide +kernel
theorem dX12_sign_15 : decode cX12_sign 15 = .ok (.invokevirtual 181, 3) := by decide +kernel
theorem dX12_sign_18 : decode cX12_sign 18 = .ok (.iconst 1, 1) := by decide +kernel
theorem dX12_sign_19 : decode cX12_sign 19 = .ok (.ireturn, 1) := by decide +kernel
set_option maxHeartbeats 4000000 in
theorem c_M_sign {ad wad : Nat → Nat} (F : Nat) (a0 : Int32) (h : HS)  (q : Int32 × HS) (hd : f_M_sign F a0 h = some q) : Ctr SHm ad wad yX12_sign cX12_sign 2 (some .boolean) 3 [.ref (ad 0), .int a0] h (some (.int q.1), q.2) := by
  refine enter (own := RX12) (lv := [(0, .ref (ad 0)), (1, .int a0)]) (by decide +kernel) rfl (Nat.le_of_ble_eq_true rfl) rfl (fun Γ hG => ?_)
  unfold f_M_sign at hd
  refine a_aload_n (pc := 0) hG 0 rfl dX12_sign_0 rfl ?_
  refine a_iload_n (pc := 1) hG 1 rfl dX12_sign_1 rfl ?_
  refine a_cvI (pc := 2) hG (As := [.int a0]) (st := []) sm_0 cl_X12 mk_X12_isSign t_1818 (by omega) (fun z hz => c_M_isSign a0 _  z hz) rfl (Nat.le_of_ble_eq_true rfl) hd dX12_sign_2 (fun r2 h1 hd => ?_)
  refine a_if_ne (pc := 5) hG (tgt := 14) hd dX12_sign_5 (by decide) (fun hd => ?_) (fun hd => ?_)
  · refine a_aload_n (pc := 14) hG 0 rfl dX12_sign_14 rfl ?_
    refine a_cvN (pc := 15) hG (As := []) (st := []) sm_0 cl_X12 mk_X12_next t_1754 (by omega) (fun z hz => c_M_next F  _  z hz) rfl (Nat.le_of_ble_eq_true rfl) hd dX12_sign_15 (fun _ h3 hd => ?_)
    refine a_iconst (pc := 18) hG dX12_sign_18 (v := (nI 1)) rfl ?_
    exact a_zret (pc := 19) hG hd dX12_sign_19
  refine a_aload_n (pc := 8) hG 0 rfl dX12_sign_8 rfl ?_
  refine a_iconst (pc := 9) hG dX12_sign_9 (v := (nI 1)) rfl ?_
  refine a_cvI (pc := 10) hG (As := [.int (nI 1)]) (st := []) sm_0 cl_X12 mk_X12_bad t_1783 (by omega) (fun z hz => c_M_bad (nI 1) _  z hz) rfl (Nat.le_of_ble_eq_true rfl) hd dX12_sign_10 (fun r5 h4 hd => ?_)
  exact a_zret (pc := 13) hG hd dX12_sign_13
theorem dX12_begins_0 : decode cX12_begins 0 = .ok (.aload_n 0, 1) := by decide +kernel
theorem dX12_begins_1 : decode cX12_begins 1 = .ok (.getfield 33, 3) := by decide +kernel
theorem dX12_begins_4 : decode cX12_begins 4 = .ok (.bipush 73, 2) := by decide +kernel
theorem dX12_begins_6 : decode cX12_begins 6 = .ok (.aload_n 0, 1) := by decide +kernel
theorem dX12_begins_7 : decode cX12_begins 7 = .ok (.getfield 33, 3) := by decide +kernel
theorem dX12_begins_10 : decode cX12_begins 10 = .ok (.bipush 6, 2) := by decide +kernel
theorem dX12_begins_12 : decode cX12_begins 12 = .ok (.iaload, 1) := by decide +kernel
theorem dX12_begins_13 : decode cX12_begins 13 = .ok (.iastore, 1) := by decide +kernel
theorem dX12_begins_14 : decode cX12_begins 14 = .ok (.iconst 0, 1) := by decide +kernel
theorem dX12_begins_15 : decode cX12_begins 15 = .ok (.istore_n 1, 1) := by decide +kernel
theorem dX12_begins_16 : decode cX12_begins 16 = .ok (.iload_n 1, 1) := by decide +kernel
theorem dX12_begins_17 : decode cX12_begins 17 = .ok (.bipush 6, 2) := by decide +kernel
theorem dX12_begins_19 : decode cX12_begins 19 = .ok (.if_icmp .ge 73, 3) := by decide +kernel
theorem dX12_begins_22 : decode cX12_begins 22 = .ok (.aload_n 0, 1) := by decide +kernel
theorem dX12_begins_23 : decode cX12_begins 23 = .ok (.getfield 33, 3) := by decide +kernel
theorem dX12_begins_26 : decode cX12_begins 26 = .ok (.bipush 78, 2) := by decide +kernel
theorem dX12_begins_28 : decode cX12_begins 28 = .ok (.iload_n 1, 1) := by decide +kernel
theorem dX12_begins_29 : decode cX12_begins 29 = .ok (.iadd, 1) := by decide +kernel
theorem dX12_begins_30 : decode cX12_begins 30 = .ok (.aload_n 0, 1) := by decide +kernel
theorem dX12_begins_31 : decode cX12_begins 31 = .ok (.getfield 33, 3) := by decide +kernel
theorem dX12_begins_34 : decode cX12_begins 34 = .ok (.bipush 7, 2) := by decide +kernel
theorem dX12_begins_36 : decode cX12_begins 36 = .ok (.iload_n 1, 1) := by decide +kernel
theorem dX12_begins_37 : decode cX12_begins 37 = .ok (.iadd, 1) := by decide +kernel
theorem dX12_begins_38 : decode cX12_begins 38 = .ok (.iaload, 1) := by decide +kernel
theorem dX12_begins_39 : decode cX12_begins 39 = .ok (.iastore, 1) := by decide +kernel
theorem dX12_begins_40 : decode cX12_begins 40 = .ok (.aload_n 0, 1) := by decide +kernel
theorem dX12_begins_41 : decode cX12_begins 41 = .ok (.getfield 33, 3) := by decide +kernel
theorem dX12_begins_44 : decode cX12_begins 44 = .ok (.bipush 84, 2) := by decide +kernel
theorem dX12_begins_46 : decode cX12_begins 46 = .ok (.iload_n 1, 1) := by decide +kernel
theorem dX12_begins_47 : decode cX12_begins 47 = .ok (.iadd, 1) := by decide +kernel
theorem dX12_begins_48 : decode cX12_begins 48 = .ok (.aload_n 0, 1) := by decide +kernel
theorem dX12_begins_49 : decode cX12_begins 49 = .ok (.getfield 33, 3) := by decide +kernel
theorem dX12_begins_52 : decode cX12_begins 52 = .ok (.bipush 13, 2) := by decide +kernel
theorem dX12_begins_54 : decode cX12_begins 54 = .ok (.iload_n 1, 1) := by decide +kernel
theorem dX12_begins_55 : decode cX12_begins 55 = .ok (.iadd, 1) := by decide +kernel
theorem dX12_begins_56 : decode cX12_begins 56 = .ok (.iaload, 1) := by decide +kernel
theorem dX12_begins_57 : decode cX12_begins 57 = .ok (.iastore, 1) := by decide +kernel
theorem dX12_begins_58 : decode cX12_begins 58 = .ok (.aload_n 0, 1) := by decide +kernel
theorem dX12_begins_59 : decode cX12_begins 59 = .ok (.getfield 33, 3) := by decide +kernel
theorem dX12_begins_62 : decode cX12_begins 62 = .ok (.bipush 90, 2) := by decide +kernel
theorem dX12_begins_64 : decode cX12_begins 64 = .ok (.iload_n 1, 1) := by decide +kernel
theorem dX12_begins_65 : decode cX12_begins 65 = .ok (.iadd, 1) := by decide +kernel
theorem dX12_begins_66 : decode cX12_begins 66 = .ok (.aload_n 0, 1) := by decide +kernel
theorem dX12_begins_67 : decode cX12_begins 67 = .ok (.getfield 33, 3) := by decide +kernel
theorem dX12_begins_70 : decode cX12_begins 70 = .ok (.bipush 25, 2) := by decide +kernel
theorem dX12_begins_72 : decode cX12_begins 72 = .ok (.iload_n 1, 1) := by decide +kernel
theorem dX12_begins_73 : decode cX12_begins 73 = .ok (.iadd, 1) := by decide +kernel
theorem dX12_begins_74 : decode cX12_begins 74 = .ok (.iaload, 1) := by decide +kernel
theorem dX12_begins_75 : decode cX12_begins 75 = .ok (.iastore, 1) := by decide +kernel
theorem dX12_begins_76 : decode cX12_begins 76 = .ok (.aload_n 0, 1) := by decide +kernel
theorem dX12_begins_77 : decode cX12_begins 77 = .ok (.getfield 33, 3) := by decide +kernel
theorem dX12_begins_80 : decode cX12_begins 80 = .ok (.bipush 114, 2) := by decide +kernel
theorem dX12_begins_82 : decode cX12_begins 82 = .ok (.iload_n 1, 1) := by decide +kernel
theorem dX12_begins_83 : decode cX12_begins 83 = .ok (.iadd, 1) := by decide +kernel
theorem dX12_begins_84 : decode cX12_begins 84 = .ok (.iconst (-1), 1) := by decide +kernel
theorem dX12_begins_85 : decode cX12_begins 85 = .ok (.iastore, 1) := by decide +kernel
theorem dX12_begins_86 : decode cX12_begins 86 = .ok (.iinc 1 1, 3) := by decide +kernel
theorem dX12_begins_89 : decode cX12_begins 89 = .ok (.goto (-73), 3) := by decide +kernel
theorem dX12_begins_92 : decode cX12_begins 92 = .ok (.iconst 0, 1) := by decide +kernel
theorem dX12_begins_93 : decode cX12_begins 93 = .ok (.istore_n 1, 1) := by decide +kernel
theorem dX12_begins_94 : decode cX12_begins 94 = .ok (.iload_n 1, 1) := by decide +kernel
theorem dX12_begins_95 : decode cX12_begins 95 = .ok (.iconst 5, 1) := by decide +kernel
theorem dX12_begins_96 : decode cX12_begins 96 = .ok (.if_icmp .ge 27, 3) := by decide +kernel
theorem dX12_begins_99 : decode cX12_begins 99 = .ok (.aload_n 0, 1) := by decide +kernel
theorem dX12_begins_100 : decode cX12_begins 100 = .ok (.getfield 33, 3) := by decide +kernel
theorem dX12_begins_103 : decode cX12_begins 103 = .ok (.bipush 126, 2) := by decide +kernel
theorem dX12_begins_105 : decode cX12_begins 105 = .ok (.iload_n 1, 1) := by decide +kernel
theorem dX12_begins_106 : decode cX12_begins 106 = .ok (.iadd, 1) := by decide +kernel
theorem dX12_begins_107 : decode cX12_begins 107 = .ok (.aload_n 0, 1) := by decide +kernel
theorem dX12_begins_108 : decode cX12_begins 108 = .ok (.getfield 33, 3) := by decide +kernel
theorem dX12_begins_111 : decode cX12_begins 111 = .ok (.bipush 67, 2) := by decide +kernel
theorem dX12_begins_113 : decode cX12_begins 113 = .ok (.iload_n 1, 1) := by decide +kernel
theorem dX12_begins_114 : decode cX12_begins 114 = .ok (.iadd, 1) := by decide +kernel
theorem dX12_begins_115 : decode cX12_begins 115 = .ok (.iaload, 1) := by decide +kernel
theorem dX12_begins_116 : decode cX12_begins 116 = .ok (.iastore, 1) := by decide +kernel
theorem dX12_begins_117 : decode cX12_begins 117 = .ok (.iinc 1 1, 3) := by decide +kernel
theorem dX12_begins_120 : decode cX12_begins 120 = .ok (.goto (-26), 3) := by decide +kernel
theorem dX12_begins_123 : decode cX12_begins 123 = .ok (.return_, 1) := by decide +kernel
set_option maxHeartbeats 4000000 in
theorem w_l_M_begins_0 {ad wad : Nat → Nat} {Γ : Ctx} (F : Nat) {n : Nat} (hn : 1 ≤ n) (hG : Cx SHm ad wad cX12_begins 2 RX12 none (n) Γ) {q : Unit × HS} {K0 : HS → Option (Unit × HS)} {g : Nat} {x1 : Int32} {h : HS} (hd : l_M_begins_0 F K0 g x1 h = some q) (hK0 : ∀ (z : HS), K0 z = some q → AW SHm ad 2 (none, q.2) Γ 92 [(0, .ref (ad 0))] [] z) : AW SHm ad 2 (none, q.2) Γ 16 [(0, .ref (ad 0)), (1, .int x1)] [] h := by
  induction g generalizing x1 h with
  | zero => unfold l_M_begins_0 at hd; cases hd
  | succ g ih =>
    unfold l_M_begins_0 at hd
    refine a_iload_n (pc := 16) hG 1 rfl dX12_begins_16 rfl ?_
    refine a_bipush (pc := 17) hG dX12_begins_17 (v := (nI 6)) rfl ?_
    refine a_ic_ge (pc := 19) hG (tgt := 92) hd dX12_begins_19 (by decide) (fun hd => ?_) (fun hd => ?_)
    · exact AW.sub [0] rfl (hK0  _ hd)
    refine a_aload_n (pc := 22) hG 0 rfl dX12_begins_22 rfl ?_
    refine a_getR (pc := 23) hG sm_0 cl_X12 ok_X12 6 (by decide) rfl t_1615 dX12_begins_23 ?_
    refine a_bipush (pc := 26) hG dX12_begins_26 (v := (nI 78)) rfl ?_
    refine a_iload_n (pc := 28) hG 1 rfl dX12_begins_28 rfl ?_
    refine a_iadd (pc := 29) hG dX12_begins_29 ?_
    refine a_aload_n (pc := 30) hG 0 rfl dX12_begins_30 rfl ?_
    refine a_getR (pc := 31) hG sm_0 cl_X12 ok_X12 6 (by decide) rfl t_1615 dX12_begins_31 ?_
    refine a_bipush (pc := 34) hG dX12_begins_34 (v := (nI 7)) rfl ?_
    refine a_iload_n (pc := 36) hG 1 rfl dX12_begins_36 rfl ?_
    refine a_iadd (pc := 37) hG dX12_begins_37 ?_
    refine a_iald (pc := 38) hG sm_2 hd dX12_begins_38 (fun hd => ?_)
    refine a_iast (pc := 39) hG sm_2 hd dX12_begins_39 (fun h3 hd => ?_)
    refine a_aload_n (pc := 40) hG 0 rfl dX12_begins_40 rfl ?_
    refine a_getR (pc := 41) hG sm_0 cl_X12 ok_X12 6 (by decide) rfl t_1615 dX12_begins_41 ?_
    refine a_bipush (pc := 44) hG dX12_begins_44 (v := (nI 84)) rfl ?_
    refine a_iload_n (pc := 46) hG 1 rfl dX12_begins_46 rfl ?_
    refine a_iadd (pc := 47) hG dX12_begins_47 ?_
    refine a_aload_n (pc := 48) hG 0 rfl dX12_begins_48 rfl ?_
    refine a_getR (pc := 49) hG sm_0 cl_X12 ok_X12 6 (by decide) rfl t_1615 dX12_begins_49 ?_
    refine a_bipush (pc := 52) hG dX12_begins_52 (v := (nI 13)) rfl ?_
    refine a_iload_n (pc := 54) hG 1 rfl dX12_begins_54 rfl ?_
    refine a_iadd (pc := 55) hG dX12_begins_55 ?_
    refine a_iald (pc := 56) hG sm_2 hd dX12_begins_56 (fun hd => ?_)
    refine a_iast (pc := 57) hG sm_2 hd dX12_begins_57 (fun h4 hd => ?_)
    refine a_aload_n (pc := 58) hG 0 rfl dX12_begins_58 rfl ?_
    refine a_getR (pc := 59) hG sm_0 cl_X12 ok_X12 6 (by decide) rfl t_1615 dX12_begins_59 ?_
    refine a_bipush (pc := 62) hG dX12_begins_62 (v := (nI 90)) rfl ?_
    refine a_iload_n (pc := 64) hG 1 rfl dX12_begins_64 rfl ?_
    refine a_iadd (pc := 65) hG dX12_begins_65 ?_
    refine a_aload_n (pc := 66) hG 0 rfl dX12_begins_66 rfl ?_
    refine a_getR (pc := 67) hG sm_0 cl_X12 ok_X12 6 (by decide) rfl t_1615 dX12_begins_67 ?_
    refine a_bipush (pc := 70) hG dX12_begins_70 (v := (nI 25)) rfl ?_
    refine a_iload_n (pc := 72) hG 1 rfl dX12_begins_72 rfl ?_
    refine a_iadd (pc := 73) hG dX12_begins_73 ?_
    refine a_iald (pc := 74) hG sm_2 hd dX12_begins_74 (fun hd => ?_)
    refine a_iast (pc := 75) hG sm_2 hd dX12_begins_75 (fun h5 hd => ?_)
    refine a_aload_n (pc := 76) hG 0 rfl dX12_begins_76 rfl ?_
    refine a_getR (pc := 77) hG sm_0 cl_X12 ok_X12 6 (by decide) rfl t_1615 dX12_begins_77 ?_
    refine a_bipush (pc := 80) hG dX12_begins_80 (v := (nI 114)) rfl ?_
    refine a_iload_n (pc := 82) hG 1 rfl dX12_begins_82 rfl ?_
    refine a_iadd (pc := 83) hG dX12_begins_83 ?_
    refine a_iconst (pc := 84) hG dX12_begins_84 (v := (-1 : Int32)) rfl ?_
    refine a_iast (pc := 85) hG sm_2 hd dX12_begins_85 (fun h6 hd => ?_)
    refine a_iincN (pc := 86) hG (c0 := (nI 1)) 1 rfl hd dX12_begins_86 rfl (by decide) (lf := fun x => [(1, .int x), (0, .ref (ad 0))]) (fun _ => rfl) (fun v7 hd => ?_)
    refine a_goto (pc := 89) hG (tgt := 16) dX12_begins_89 (by decide) ?_
    exact AW.sub [1, 0] rfl (ih hd)
set_option maxHeartbeats 4000000 in
theorem w_l_M_begins_1 {ad wad : Nat → Nat} {Γ : Ctx} (F : Nat) {n : Nat} (hn : 1 ≤ n) (hG : Cx SHm ad wad cX12_begins 2 RX12 none (n) Γ) {q : Unit × HS} {g : Nat} {x1 : Int32} {h : HS} (hd : l_M_begins_1 F g x1 h = some q) : AW SHm ad 2 (none, q.2) Γ 94 [(0, .ref (ad 0)), (1, .int x1)] [] h := by
  induction g generalizing x1 h with
  | zero => unfold l_M_begins_1 at hd; cases hd
  | succ g ih =>
    unfold l_M_begins_1 at hd
    refine a_iload_n (pc := 94) hG 1 rfl dX12_begins_94 rfl ?_
    refine a_iconst (pc := 95) hG dX12_begins_95 (v := (nI 5)) rfl ?_
    refine a_ic_ge (pc := 96) hG (tgt := 123) hd dX12_begins_96 (by decide) (fun hd => ?_) (fun hd => ?_)
    · exact a_vret (pc := 123) hG hd dX12_begins_123
    refine a_aload_n (pc := 99) hG 0 rfl dX12_begins_99 rfl ?_
    refine a_getR (pc := 100) hG sm_0 cl_X12 ok_X12 6 (by decide) rfl t_1615 dX12_begins_100 ?_
    refine a_bipush (pc := 103) hG dX12_begins_103 (v := (nI 126)) rfl ?_
    refine a_iload_n (pc := 105) hG 1 rfl dX12_begins_105 rfl ?_
    refine a_iadd (pc := 106) hG dX12_begins_106 ?_
    refine a_aload_n (pc := 107) hG 0 rfl dX12_begins_107 rfl ?_
    refine a_getR (pc := 108) hG sm_0 cl_X12 ok_X12 6 (by decide) rfl t_1615 dX12_begins_108 ?_
    refine a_bipush (pc := 111) hG dX12_begins_111 (v := (nI 67)) rfl ?_
    refine a_iload_n (pc := 113) hG 1 rfl dX12_begins_113 rfl ?_
    refine a_iadd (pc := 114) hG dX12_begins_114 ?_
    refine a_iald (pc := 115) hG sm_2 hd dX12_begins_115 (fun hd => ?_)
    refine a_iast (pc := 116) hG sm_2 hd dX12_begins_116 (fun h10 hd => ?_)
    refine a_iincN (pc := 117) hG (c0 := (nI 1)) 1 rfl hd dX12_begins_117 rfl (by decide) (lf := fun x => [(1, .int x), (0, .ref (ad 0))]) (fun _ => rfl) (fun v11 hd => ?_)
    refine a_goto (pc := 120) hG (tgt := 94) dX12_begins_120 (by decide) ?_
    exact AW.sub [1, 0] rfl (ih hd)
set_option maxHeartbeats 4000000 in
theorem c_M_begins {ad wad : Nat → Nat} (F : Nat)  (h : HS)  (q : Unit × HS) (hd : f_M_begins F  h = some q) : Ctr SHm ad wad yX12_begins cX12_begins 2 none 1 [.ref (ad 0)] h (none, q.2) := by
  refine enter (own := RX12) (lv := [(0, .ref (ad 0))]) (by decide +kernel) rfl (Nat.le_of_ble_eq_true rfl) rfl (fun Γ hG => ?_)
  unfold f_M_begins at hd
  refine a_aload_n (pc := 0) hG 0 rfl dX12_begins_0 rfl ?_
  refine a_getR (pc := 1) hG sm_0 cl_X12 ok_X12 6 (by decide) rfl t_1615 dX12_begins_1 ?_
  refine a_bipush (pc := 4) hG dX12_begins_4 (v := (nI 73)) rfl ?_
  refine a_aload_n (pc := 6) hG 0 rfl dX12_begins_6 rfl ?_
  refine a_getR (pc := 7) hG sm_0 cl_X12 ok_X12 6 (by decide) rfl t_1615 dX12_begins_7 ?_
  refine a_bipush (pc := 10) hG dX12_begins_10 (v := (nI 6)) rfl ?_
  refine a_iald (pc := 12) hG sm_2 hd dX12_begins_12 (fun hd => ?_)
  refine a_iast (pc := 13) hG sm_2 hd dX12_begins_13 (fun h1 hd => ?_)
  refine a_iconst (pc := 14) hG dX12_begins_14 (v := (nI 0)) rfl ?_
  refine a_istore_nN (pc := 15) hG hd dX12_begins_15 rfl (by decide) (lf := fun x => [(1, .int x), (0, .ref (ad 0))]) (fun _ => rfl) (fun v2 hd => ?_)
  refine AW.sub [1, 0] rfl ?_
  refine w_l_M_begins_0 F (by omega) hG hd (fun h8 hd => ?_)
  refine a_iconst (pc := 92) hG dX12_begins_92 (v := (nI 0)) rfl ?_
  refine a_istore_nN (pc := 93) hG hd dX12_begins_93 rfl (by decide) (lf := fun x => [(1, .int x), (0, .ref (ad 0))]) (fun _ => rfl) (fun v9 hd => ?_)
  refine AW.sub [1, 0] rfl ?_
  exact w_l_M_begins_1 F (by omega) hG hd
theorem dX12_office_0 : decode cX12_office 0 = .ok (.aload_n 0, 1) := by decide +kernel
theorem dX12_office_1 : decode cX12_office 1 = .ok (.iconst 0, 1) := by decide +kernel
theorem dX12_office_2 : decode cX12_office 2 = .ok (.putfield 1, 3) := by decide +kernel
theorem dX12_office_5 : decode cX12_office 5 = .ok (.aload_n 0, 1) := by decide +kernel
theorem dX12_office_6 : decode cX12_office 6 = .ok (.sipush 900, 3) := by decide +kernel
theorem dX12_office_9 : decode cX12_office 9 = .ok (.invokevirtual 225, 3) := by decide +kernel
theorem dX12_office_12 : decode cX12_office 12 = .ok (.aload_n 0, 1) := by decide +kernel
theorem dX12_office_13 : decode cX12_office 13 = .ok (.iconst 0, 1) := by decide +kernel
theorem dX12_office_14 : decode cX12_office 14 = .ok (.putfield 169, 3) := by decide +kernel
theorem dX12_office_17 : decode cX12_office 17 = .ok (.aload_n 0, 1) := by decide +kernel
theorem dX12_office_18 : decode cX12_office 18 = .ok (.iconst 0, 1) := by decide +kernel
theorem dX12_office_19 : decode cX12_office 19 = .ok (.putfield 228, 3) := by decide +kernel
theorem dX12_office_22 : decode cX12_office 22 = .ok (.aload_n 0, 1) := by decide +kernel
theorem dX12_office_23 : decode cX12_office 23 = .ok (.iconst 0, 1) := by decide +kernel
theorem dX12_office_24 : decode cX12_office 24 = .ok (.putfield 203, 3) := by decide +kernel
theorem dX12_office_27 : decode cX12_office 27 = .ok (.aload_n 0, 1) := by decide +kernel
theorem dX12_office_28 : decode cX12_office 28 = .ok (.invokevirtual 136, 3) := by decide +kernel
theorem dX12_office_31 : decode cX12_office 31 = .ok (.aload_n 0, 1) := by decide +kernel
theorem dX12_office_32 : decode cX12_office 32 = .ok (.invokevirtual 181, 3) := by decide +kernel
theorem dX12_office_35 : decode cX12_office 35 = .ok (.aload_n 0, 1) := by decide +kernel
theorem dX12_office_36 : decode cX12_office 36 = .ok (.getfield 152, 3) := by decide +kernel
theorem dX12_office_39 : decode cX12_office 39 = .ok (.ifCond .eq 39, 3) := by decide +kernel
theorem dX12_office_42 : decode cX12_office 42 = .ok (.aload_n 0, 1) := by decide +kernel
theorem dX12_office_43 : decode cX12_office 43 = .ok (.invokevirtual 231, 3) := by decide +kernel
theorem dX12_office_46 : decode cX12_office 46 = .ok (.ifCond .eq 12, 3) := by decide +kernel
theorem dX12_office_49 : decode cX12_office 49 = .ok (.aload_n 0, 1) := by decide +kernel
theorem dX12_office_50 : decode cX12_office 50 = .ok (.bipush 59, 2) := by decide +kernel
theorem dX12_office_52 : decode cX12_office 52 = .ok (.invokevirtual 234, 3) := by decide +kernel
theorem dX12_office_55 : decode cX12_office 55 = .ok (.ifCond .ne 10, 3) := by decide +kernel
theorem dX12_office_58 : decode cX12_office 58 = .ok (.iconst (-1), 1) := by decide +kernel
theorem dX12_office_59 : decode cX12_office 59 = .ok (.aload_n 0, 1) := by decide +kernel
theorem dX12_office_60 : decode cX12_office 60 = .ok (.getfield 172, 3) := by decide +kernel
theorem dX12_office_63 : decode cX12_office 63 = .ok (.isub, 1) := by decide +kernel
theorem dX12_office_64 : decode cX12_office 64 = .ok (.ireturn, 1) := by decide +kernel
theorem dX12_office_65 : decode cX12_office 65 = .ok (.aload_n 0, 1) := by decide +kernel
theorem dX12_office_66 : decode cX12_office 66 = .ok (.dup, 1) := by decide +kernel
theorem dX12_office_67 : decode cX12_office 67 = .ok (.getfield 228, 3) := by decide +kernel
theorem dX12_office_70 : decode cX12_office 70 = .ok (.iconst 1, 1) := by decide +kernel
theorem dX12_office_71 : decode cX12_office 71 = .ok (.iadd, 1) := by decide +kernel
theorem dX12_office_72 : decode cX12_office 72 = .ok (.putfield 228, 3) := by decide +kernel
theorem dX12_office_75 : decode cX12_office 75 = .ok (.goto (-40), 3) := by decide +kernel
theorem dX12_office_78 : decode cX12_office 78 = .ok (.iconst 0, 1) := by decide +kernel
theorem dX12_office_79 : decode cX12_office 79 = .ok (.istore_n 1, 1) := by decide +kernel
theorem dX12_office_80 : decode cX12_office 80 = .ok (.iload_n 1, 1) := by decide +kernel
theorem dX12_office_81 : decode cX12_office 81 = .ok (.sipush 332, 3) := by decide +kernel
theorem dX12_office_84 : decode cX12_office 84 = .ok (.if_icmp .ge 31, 3) := by decide +kernel
theorem dX12_office_87 : decode cX12_office 87 = .ok (.aload_n 0, 1) := by decide +kernel
theorem dX12_office_88 : decode cX12_office 88 = .ok (.getfield 33, 3) := by decide +kernel
theorem dX12_office_91 : decode cX12_office 91 = .ok (.iload_n 1, 1) := by decide +kernel
theorem dX12_office_92 : decode cX12_office 92 = .ok (.iload_n 1, 1) := by decide +kernel
theorem dX12_office_93 : decode cX12_office 93 = .ok (.bipush 72, 2) := by decide +kernel
theorem dX12_office_95 : decode cX12_office 95 = .ok (.if_icmp .ge 12, 3) := by decide +kernel
theorem dX12_office_98 : decode cX12_office 98 = .ok (.aload_n 0, 1) := by decide +kernel
theorem dX12_office_99 : decode cX12_office 99 = .ok (.getfield 37, 3) := by decide +kernel
theorem dX12_office_102 : decode cX12_office 102 = .ok (.iload_n 1, 1) := by decide +kernel
theorem dX12_office_103 : decode cX12_office 103 = .ok (.iaload, 1) := by decide +kernel
theorem dX12_office_104 : decode cX12_office 104 = .ok (.goto 4, 3) := by decide +kernel
theorem dX12_office_107 : decode cX12_office 107 = .ok (.iconst 0, 1) := by decide +kernel
theorem dX12_office_108 : decode cX12_office 108 = .ok (.iastore, 1) := by decide +kernel
theorem dX12_office_109 : decode cX12_office 109 = .ok (.iinc 1 1, 3) := by decide +kernel
theorem dX12_office_112 : decode cX12_office 112 = .ok (.goto (-32), 3) := by decide +kernel
theorem dX12_office_115 : decode cX12_office 115 = .ok (.iconst 0, 1) := by decide +kernel
theorem dX12_office_116 : decode cX12_office 116 = .ok (.istore_n 1, 1) := by decide +kernel
theorem dX12_office_117 : decode cX12_office 117 = .ok (.iload_n 1, 1) := by decide +kernel
theorem dX12_office_118 : decode cX12_office 118 = .ok (.bipush 17, 2) := by decide +kernel
theorem dX12_office_120 : decode cX12_office 120 = .ok (.if_icmp .ge 24, 3) := by decide +kernel
theorem dX12_office_123 : decode cX12_office 123 = .ok (.aload_n 0, 1) := by decide +kernel
theorem dX12_office_124 : decode cX12_office 124 = .ok (.getfield 43, 3) := by decide +kernel
theorem dX12_office_127 : decode cX12_office 127 = .ok (.iload_n 1, 1) := by decide +kernel
theorem dX12_office_128 : decode cX12_office 128 = .ok (.aload_n 0, 1) := by decide +kernel
theorem dX12_office_129 : decode cX12_office 129 = .ok (.getfield 43, 3) := by decide +kernel
theorem dX12_office_132 : decode cX12_office 132 = .ok (.bipush 17, 2) := by decide +kernel
theorem dX12_office_134 : decode cX12_office 134 = .ok (.iload_n 1, 1) := by decide +kernel
theorem dX12_office_135 : decode cX12_office 135 = .ok (.iadd, 1) := by decide +kernel
theorem dX12_office_136 : decode cX12_office 136 = .ok (.laload, 1) := by decide +kernel
theorem dX12_office_137 : decode cX12_office 137 = .ok (.lastore, 1) := by decide +kernel
theorem dX12_office_138 : decode cX12_office 138 = .ok (.iinc 1 1, 3) := by decide +kernel
theorem dX12_office_141 : decode cX12_office 141 = .ok (.goto (-24), 3) := by decide +kernel
theorem dX12_office_144 : decode cX12_office 144 = .ok (.aload_n 0, 1) := by decide +kernel
theorem dX12_office_145 : decode cX12_office 145 = .ok (.invokevirtual 139, 3) := by decide +kernel
theorem dX12_office_148 : decode cX12_office 148 = .ok (.aload_n 0, 1) := by decide +kernel
theorem dX12_office_149 : decode cX12_office 149 = .ok (.iconst 0, 1) := by decide +kernel
theorem dX12_office_150 : decode cX12_office 150 = .ok (.putfield 237, 3) := by decide +kernel
theorem dX12_office_153 : decode cX12_office 153 = .ok (.aload_n 0, 1) := by decide +kernel
theorem dX12_office_154 : decode cX12_office 154 = .ok (.getfield 228, 3) := by decide +kernel
theorem dX12_office_157 : decode cX12_office 157 = .ok (.ireturn, 1) := by decide +kernel
set_option maxHeartbeats 4000000 in
theorem w_l_M_office_0 {ad wad : Nat → Nat} {Γ : Ctx} (F : Nat) {n : Nat} (hn : 6 ≤ n) (hG : Cx SHm ad wad cX12_office 2 RX12 (some .int) (n) Γ) {q : Int32 × HS} {K0 : HS → Option (Int32 × HS)} {g : Nat}  {h : HS} (hd : l_M_office_0 F K0 g  h = some q) (hK0 : ∀ (z : HS), K0 z = some q → AW SHm ad 2 (some (.int q.1), q.2) Γ 78 [(0, .ref (ad 0))] [] z) : AW SHm ad 2 (some (.int q.1), q.2) Γ 35 [(0, .ref (ad 0))] [] h := by
  induction g generalizing h with
  | zero => unfold l_M_office_0 at hd; cases hd
  | succ g ih =>
    unfold l_M_office_0 at hd
    refine a_aload_n (pc := 35) hG 0 rfl dX12_office_35 rfl ?_
    refine a_getI (pc := 36) hG sm_0 cl_X12 ok_X12 11 (by decide) rfl t_1620 dX12_office_36 ?_
    refine a_if_eq (pc := 39) hG (tgt := 78) hd dX12_office_39 (by decide) (fun hd => ?_) (fun hd => ?_)
    · exact AW.sub [0] rfl (hK0  _ hd)
    refine a_aload_n (pc := 42) hG 0 rfl dX12_office_42 rfl ?_
    refine a_cvI (pc := 43) hG (As := []) (st := []) sm_0 cl_X12 mk_X12_line t_1768 (by omega) (fun z hz => c_M_line F  _  z hz) rfl (Nat.le_of_ble_eq_true rfl) hd dX12_office_43 (fun r9 h8 hd => ?_)
    refine a_if_eq (pc := 46) hG (tgt := 58) hd dX12_office_46 (by decide) (fun hd => ?_) (fun hd => ?_)
    · refine a_iconst (pc := 58) hG dX12_office_58 (v := (-1 : Int32)) rfl ?_
      refine a_aload_n (pc := 59) hG 0 rfl dX12_office_59 rfl ?_
      refine a_getI (pc := 60) hG sm_0 cl_X12 ok_X12 16 (by decide) rfl t_1625 dX12_office_60 ?_
      refine a_isub (pc := 63) hG dX12_office_63 ?_
      exact a_iret (pc := 64) hG hd dX12_office_64
    refine a_aload_n (pc := 49) hG 0 rfl dX12_office_49 rfl ?_
    refine a_bipush (pc := 50) hG dX12_office_50 (v := (nI 59)) rfl ?_
    refine a_cvI (pc := 52) hG (As := [.int (nI 59)]) (st := []) sm_0 cl_X12 mk_X12_sign t_1814 (by omega) (fun z hz => c_M_sign F (nI 59) _  z hz) rfl (Nat.le_of_ble_eq_true rfl) hd dX12_office_52 (fun r11 h10 hd => ?_)
    refine a_if_ne (pc := 55) hG (tgt := 65) hd dX12_office_55 (by decide) (fun hd => ?_) (fun hd => ?_)
    · refine a_aload_n (pc := 65) hG 0 rfl dX12_office_65 rfl ?_
      refine a_dup (pc := 66) hG dX12_office_66 rfl ?_
      refine a_getI (pc := 67) hG sm_0 cl_X12 ok_X12 19 (by decide) rfl t_1628 dX12_office_67 ?_
      refine a_iconst (pc := 70) hG dX12_office_70 (v := (nI 1)) rfl ?_
      refine a_iadd (pc := 71) hG dX12_office_71 ?_
      refine a_putI (pc := 72) hG sm_0 cl_X12 ok_X12 19 (by decide) rfl t_1628 rfl (ty := .int) rfl rfl rfl hd dX12_office_72 (fun h12 hd => ?_)
      refine a_goto (pc := 75) hG (tgt := 35) dX12_office_75 (by decide) ?_
      exact AW.sub [0] rfl (ih hd)
    refine a_iconst (pc := 58) hG dX12_office_58 (v := (-1 : Int32)) rfl ?_
    refine a_aload_n (pc := 59) hG 0 rfl dX12_office_59 rfl ?_
    refine a_getI (pc := 60) hG sm_0 cl_X12 ok_X12 16 (by decide) rfl t_1625 dX12_office_60 ?_
    refine a_isub (pc := 63) hG dX12_office_63 ?_
    exact a_iret (pc := 64) hG hd dX12_office_64
set_option maxHeartbeats 4000000 in
theorem w_l_M_office_1 {ad wad : Nat → Nat} {Γ : Ctx} (F : Nat) {n : Nat} (hn : 6 ≤ n) (hG : Cx SHm ad wad cX12_office 2 RX12 (some .int) (n) Γ) {q : Int32 × HS} {K0 : HS → Option (Int32 × HS)} {g : Nat} {x1 : Int32} {h : HS} (hd : l_M_office_1 F K0 g x1 h = some q) (hK0 : ∀ (z : HS), K0 z = some q → AW SHm ad 2 (some (.int q.1), q.2) Γ 115 [(0, .ref (ad 0))] [] z) : AW SHm ad 2 (some (.int q.1), q.2) Γ 80 [(0, .ref (ad 0)), (1, .int x1)] [] h := by
  induction g generalizing x1 h with
  | zero => unfold l_M_office_1 at hd; cases hd
  | succ g ih =>
    unfold l_M_office_1 at hd
    refine a_iload_n (pc := 80) hG 1 rfl dX12_office_80 rfl ?_
    refine a_sipush (pc := 81) hG dX12_office_81 (v := (nI 332)) rfl ?_
    refine a_ic_ge (pc := 84) hG (tgt := 115) hd dX12_office_84 (by decide) (fun hd => ?_) (fun hd => ?_)
    · exact AW.sub [0] rfl (hK0  _ hd)
    refine a_aload_n (pc := 87) hG 0 rfl dX12_office_87 rfl ?_
    refine a_getR (pc := 88) hG sm_0 cl_X12 ok_X12 6 (by decide) rfl t_1615 dX12_office_88 ?_
    refine a_iload_n (pc := 91) hG 1 rfl dX12_office_91 rfl ?_
    refine a_iload_n (pc := 92) hG 1 rfl dX12_office_92 rfl ?_
    refine a_bipush (pc := 93) hG dX12_office_93 (v := (nI 72)) rfl ?_
    refine a_join hd (Q := fun J : Int32 → HS → Option (Int32 × HS) => ∀ (v16 : Int32) (h17 : HS), J v16 h17 = some q → AW SHm ad 2 (some (.int q.1), q.2) Γ 108 [(0, .ref (ad 0)), (1, .int x1)] [.int v16, .int x1, .ref (ad 2)] h17) (fun v16 h17 hd => ?_) (fun J15 hJ15 hd => ?_)
    · refine a_iast (pc := 108) hG sm_2 hd dX12_office_108 (fun h18 hd => ?_)
      refine a_iincN (pc := 109) hG (c0 := (nI 1)) 1 rfl hd dX12_office_109 rfl (by decide) (lf := fun x => [(1, .int x), (0, .ref (ad 0))]) (fun _ => rfl) (fun v19 hd => ?_)
      refine a_goto (pc := 112) hG (tgt := 80) dX12_office_112 (by decide) ?_
      exact AW.sub [1, 0] rfl (ih hd)
    refine a_ic_ge (pc := 95) hG (tgt := 107) hd dX12_office_95 (by decide) (fun hd => ?_) (fun hd => ?_)
    · refine a_iconst (pc := 107) hG dX12_office_107 (v := (nI 0)) rfl ?_
      exact AW.sub [0, 1] rfl (hJ15 _ _ hd)
    refine a_aload_n (pc := 98) hG 0 rfl dX12_office_98 rfl ?_
    refine a_getR (pc := 99) hG sm_0 cl_X12 ok_X12 7 (by decide) rfl t_1616 dX12_office_99 ?_
    refine a_iload_n (pc := 102) hG 1 rfl dX12_office_102 rfl ?_
    refine a_iald (pc := 103) hG sm_3 hd dX12_office_103 (fun hd => ?_)
    refine a_goto (pc := 104) hG (tgt := 108) dX12_office_104 (by decide) ?_
    exact AW.sub [0, 1] rfl (hJ15 _ _ hd)
set_option maxHeartbeats 4000000 in
theorem w_l_M_office_2 {ad wad : Nat → Nat} {Γ : Ctx} (F : Nat) {n : Nat} (hn : 6 ≤ n) (hG : Cx SHm ad wad cX12_office 2 RX12 (some .int) (n) Γ) {q : Int32 × HS} {K0 : HS → Option (Int32 × HS)} {g : Nat} {x1 : Int32} {h : HS} (hd : l_M_office_2 F K0 g x1 h = some q) (hK0 : ∀ (z : HS), K0 z = some q → AW SHm ad 2 (some (.int q.1), q.2) Γ 144 [(0, .ref (ad 0))] [] z) : AW SHm ad 2 (some (.int q.1), q.2) Γ 117 [(0, .ref (ad 0)), (1, .int x1)] [] h := by
  induction g generalizing x1 h with
  | zero => unfold l_M_office_2 at hd; cases hd
  | succ g ih =>
    unfold l_M_office_2 at hd
    refine a_iload_n (pc := 117) hG 1 rfl dX12_office_117 rfl ?_
    refine a_bipush (pc := 118) hG dX12_office_118 (v := (nI 17)) rfl ?_
    refine a_ic_ge (pc := 120) hG (tgt := 144) hd dX12_office_120 (by decide) (fun hd => ?_) (fun hd => ?_)
    · exact AW.sub [0] rfl (hK0  _ hd)
    refine a_aload_n (pc := 123) hG 0 rfl dX12_office_123 rfl ?_
    refine a_getR (pc := 124) hG sm_0 cl_X12 ok_X12 9 (by decide) rfl t_1618 dX12_office_124 ?_
    refine a_iload_n (pc := 127) hG 1 rfl dX12_office_127 rfl ?_
    refine a_aload_n (pc := 128) hG 0 rfl dX12_office_128 rfl ?_
    refine a_getR (pc := 129) hG sm_0 cl_X12 ok_X12 9 (by decide) rfl t_1618 dX12_office_129 ?_
    refine a_bipush (pc := 132) hG dX12_office_132 (v := (nI 17)) rfl ?_
    refine a_iload_n (pc := 134) hG 1 rfl dX12_office_134 rfl ?_
    refine a_iadd (pc := 135) hG dX12_office_135 ?_
    refine a_lald (pc := 136) hG sm_5 hd dX12_office_136 (fun hd => ?_)
    refine a_last (pc := 137) hG sm_5 hd dX12_office_137 (fun h22 hd => ?_)
    refine a_iincN (pc := 138) hG (c0 := (nI 1)) 1 rfl hd dX12_office_138 rfl (by decide) (lf := fun x => [(1, .int x), (0, .ref (ad 0))]) (fun _ => rfl) (fun v23 hd => ?_)
    refine a_goto (pc := 141) hG (tgt := 117) dX12_office_141 (by decide) ?_
    exact AW.sub [1, 0] rfl (ih hd)
set_option maxHeartbeats 4000000 in
theorem c_M_office {ad wad : Nat → Nat} (F : Nat)  (h : HS)  (q : Int32 × HS) (hd : f_M_office F  h = some q) : Ctr SHm ad wad yX12_office cX12_office 2 (some .int) 6 [.ref (ad 0)] h (some (.int q.1), q.2) := by
  refine enter (own := RX12) (lv := [(0, .ref (ad 0))]) (by decide +kernel) rfl (Nat.le_of_ble_eq_true rfl) rfl (fun Γ hG => ?_)
  unfold f_M_office at hd
  refine a_aload_n (pc := 0) hG 0 rfl dX12_office_0 rfl ?_
  refine a_iconst (pc := 1) hG dX12_office_1 (v := (nI 0)) rfl ?_
  refine a_putI (pc := 2) hG sm_0 cl_X12 ok_X12 0 (by decide) rfl t_1609 rfl (ty := .int) rfl rfl rfl hd dX12_office_2 (fun h1 hd => ?_)
  refine a_aload_n (pc := 5) hG 0 rfl dX12_office_5 rfl ?_
  refine a_sipush (pc := 6) hG dX12_office_6 (v := (nI 900)) rfl ?_
  refine a_cvN (pc := 9) hG (As := [.int (nI 900)]) (st := []) sm_0 cl_X12 mk_X12_taken t_1750 (by omega) (fun z hz => c_M_taken (nI 900) _  z hz) rfl (Nat.le_of_ble_eq_true rfl) hd dX12_office_9 (fun _ h2 hd => ?_)
  refine a_aload_n (pc := 12) hG 0 rfl dX12_office_12 rfl ?_
  refine a_iconst (pc := 13) hG dX12_office_13 (v := (nI 0)) rfl ?_
  refine a_putI (pc := 14) hG sm_0 cl_X12 ok_X12 15 (by decide) rfl t_1624 rfl (ty := .int) rfl rfl rfl hd dX12_office_14 (fun h3 hd => ?_)
  refine a_aload_n (pc := 17) hG 0 rfl dX12_office_17 rfl ?_
  refine a_iconst (pc := 18) hG dX12_office_18 (v := (nI 0)) rfl ?_
  refine a_putI (pc := 19) hG sm_0 cl_X12 ok_X12 19 (by decide) rfl t_1628 rfl (ty := .int) rfl rfl rfl hd dX12_office_19 (fun h4 hd => ?_)
  refine a_aload_n (pc := 22) hG 0 rfl dX12_office_22 rfl ?_
  refine a_iconst (pc := 23) hG dX12_office_23 (v := (nI 0)) rfl ?_
  refine a_putI (pc := 24) hG sm_0 cl_X12 ok_X12 20 (by decide) rfl t_1629 rfl (ty := .int) rfl rfl rfl hd dX12_office_24 (fun h5 hd => ?_)
  refine a_aload_n (pc := 27) hG 0 rfl dX12_office_27 rfl ?_
  refine a_cvN (pc := 28) hG (As := []) (st := []) sm_0 cl_X12 mk_X12_clears t_1601 (by omega) (fun z hz => c_M_clears F  _  z hz) rfl (Nat.le_of_ble_eq_true rfl) hd dX12_office_28 (fun _ h6 hd => ?_)
  refine a_aload_n (pc := 31) hG 0 rfl dX12_office_31 rfl ?_
  refine a_cvN (pc := 32) hG (As := []) (st := []) sm_0 cl_X12 mk_X12_next t_1754 (by omega) (fun z hz => c_M_next F  _  z hz) rfl (Nat.le_of_ble_eq_true rfl) hd dX12_office_32 (fun _ h7 hd => ?_)
  refine AW.sub [0] rfl ?_
  refine w_l_M_office_0 F (by omega) hG hd (fun h13 hd => ?_)
  refine a_iconst (pc := 78) hG dX12_office_78 (v := (nI 0)) rfl ?_
  refine a_istore_nN (pc := 79) hG hd dX12_office_79 rfl (by decide) (lf := fun x => [(1, .int x), (0, .ref (ad 0))]) (fun _ => rfl) (fun v14 hd => ?_)
  refine AW.sub [1, 0] rfl ?_
  refine w_l_M_office_1 F (by omega) hG hd (fun h20 hd => ?_)
  refine a_iconst (pc := 115) hG dX12_office_115 (v := (nI 0)) rfl ?_
  refine a_istore_nN (pc := 116) hG hd dX12_office_116 rfl (by decide) (lf := fun x => [(1, .int x), (0, .ref (ad 0))]) (fun _ => rfl) (fun v21 hd => ?_)
  refine AW.sub [1, 0] rfl ?_
  refine w_l_M_office_2 F (by omega) hG hd (fun h24 hd => ?_)
  refine a_aload_n (pc := 144) hG 0 rfl dX12_office_144 rfl ?_
  refine a_cvN (pc := 145) hG (As := []) (st := []) sm_0 cl_X12 mk_X12_begins t_1605 (by omega) (fun z hz => c_M_begins F  _  z hz) rfl (Nat.le_of_ble_eq_true rfl) hd dX12_office_145 (fun _ h25 hd => ?_)
  refine a_aload_n (pc := 148) hG 0 rfl dX12_office_148 rfl ?_
  refine a_iconst (pc := 149) hG dX12_office_149 (v := (nI 0)) rfl ?_
  refine a_putI (pc := 150) hG sm_0 cl_X12 ok_X12 23 (by decide) rfl t_1632 rfl (ty := .int) rfl rfl rfl hd dX12_office_150 (fun h26 hd => ?_)
  refine a_aload_n (pc := 153) hG 0 rfl dX12_office_153 rfl ?_
  refine a_getI (pc := 154) hG sm_0 cl_X12 ok_X12 19 (by decide) rfl t_1628 dX12_office_154 ?_
  exact a_iret (pc := 157) hG hd dX12_office_157
theorem dX12_fault_0 : decode cX12_fault 0 = .ok (.aload_n 0, 1) := by decide +kernel
theorem dX12_fault_1 : decode cX12_fault 1 = .ok (.iconst 0, 1) := by decide +kernel
theorem dX12_fault_2 : decode cX12_fault 2 = .ok (.putfield 1, 3) := by decide +kernel
theorem dX12_fault_5 : decode cX12_fault 5 = .ok (.aload_n 0, 1) := by decide +kernel
theorem dX12_fault_6 : decode cX12_fault 6 = .ok (.getfield 169, 3) := by decide +kernel
theorem dX12_fault_9 : decode cX12_fault 9 = .ok (.ireturn, 1) := by decide +kernel
set_option maxHeartbeats 4000000 in
theorem c_M_fault {ad wad : Nat → Nat}  (h : HS)  (q : Int32 × HS) (hd : f_M_fault  h = some q) : Ctr SHm ad wad yX12_fault cX12_fault 1 (some .int) 1 [.ref (ad 0)] h (some (.int q.1), q.2) := by
  refine enter (own := RX12) (lv := [(0, .ref (ad 0))]) (by decide +kernel) rfl (Nat.le_of_ble_eq_true rfl) rfl (fun Γ hG => ?_)
  unfold f_M_fault at hd
  refine a_aload_n (pc := 0) hG 0 rfl dX12_fault_0 rfl ?_
  refine a_iconst (pc := 1) hG dX12_fault_1 (v := (nI 0)) rfl ?_
  refine a_putI (pc := 2) hG sm_0 cl_X12 ok_X12 0 (by decide) rfl t_1609 rfl (ty := .int) rfl rfl rfl hd dX12_fault_2 (fun h1 hd => ?_)
  refine a_aload_n (pc := 5) hG 0 rfl dX12_fault_5 rfl ?_
  refine a_getI (pc := 6) hG sm_0 cl_X12 ok_X12 15 (by decide) rfl t_1624 dX12_fault_6 ?_
  exact a_iret (pc := 9) hG hd dX12_fault_9
theorem dX12_isCause_0 : decode cX12_isCause 0 = .ok (.iload_n 1, 1) := by decide +kernel
theorem dX12_isCause_1 : decode cX12_isCause 1 = .ok (.iconst 0, 1) := by decide +kernel
theorem dX12_isCause_2 : decode cX12_isCause 2 = .ok (.aload_n 0, 1) := by decide +kernel
theorem dX12_isCause_3 : decode cX12_isCause 3 = .ok (.getfield 33, 3) := by decide +kernel
theorem dX12_isCause_6 : decode cX12_isCause 6 = .ok (.iconst 0, 1) := by decide +kernel
theorem dX12_isCause_7 : decode cX12_isCause 7 = .ok (.iaload, 1) := by decide +kernel
theorem dX12_isCause_8 : decode cX12_isCause 8 = .ok (.iconst 1, 1) := by decide +kernel
theorem dX12_isCause_9 : decode cX12_isCause 9 = .ok (.isub, 1) := by decide +kernel
theorem dX12_isCause_10 : decode cX12_isCause 10 = .ok (.invokestatic 184, 3) := by decide +kernel
theorem dX12_isCause_13 : decode cX12_isCause 13 = .ok (.ireturn, 1) := by decide +kernel
set_option maxHeartbeats 4000000 in
theorem c_M_isCause {ad wad : Nat → Nat} (a0 : Int32) (h : HS)  (q : Int32 × HS) (hd : f_M_isCause a0 h = some q) : Ctr SHm ad wad yX12_isCause cX12_isCause 2 (some .boolean) 2 [.ref (ad 0), .int a0] h (some (.int q.1), q.2) := by
  refine enter (own := RX12) (lv := [(0, .ref (ad 0)), (1, .int a0)]) (by decide +kernel) rfl (Nat.le_of_ble_eq_true rfl) rfl (fun Γ hG => ?_)
  unfold f_M_isCause at hd
  refine a_iload_n (pc := 0) hG 1 rfl dX12_isCause_0 rfl ?_
  refine a_iconst (pc := 1) hG dX12_isCause_1 (v := (nI 0)) rfl ?_
  refine a_aload_n (pc := 2) hG 0 rfl dX12_isCause_2 rfl ?_
  refine a_getR (pc := 3) hG sm_0 cl_X12 ok_X12 6 (by decide) rfl t_1615 dX12_isCause_3 ?_
  refine a_iconst (pc := 6) hG dX12_isCause_6 (v := (nI 0)) rfl ?_
  refine a_iald (pc := 7) hG sm_2 hd dX12_isCause_7 (fun hd => ?_)
  refine a_iconst (pc := 8) hG dX12_isCause_8 (v := (nI 1)) rfl ?_
  refine a_isub (pc := 9) hG dX12_isCause_9 ?_
  refine a_csI (pc := 10) hG (As := [.int a0, .int (nI 0), .int ((h.1 2 (nI 0).toNatClampNeg) - (nI 1))]) (st := []) mk_X12_isIn t_1795 (by omega) (fun z hz => c_M_isIn a0 (nI 0) ((h.1 2 (nI 0).toNatClampNeg) - (nI 1)) _  z hz) rfl (Nat.le_of_ble_eq_true rfl) hd dX12_isCause_10 (fun r2 h1 hd => ?_)
  exact a_zret (pc := 13) hG hd dX12_isCause_13
theorem dX12_throwsIf_0 : decode cX12_throwsIf 0 = .ok (.aload_n 0, 1) := by decide +kernel
theorem dX12_throwsIf_1 : decode cX12_throwsIf 1 = .ok (.iload_n 1, 1) := by decide +kernel
theorem dX12_throwsIf_2 : decode cX12_throwsIf 2 = .ok (.ifCond .eq 7, 3) := by decide +kernel
theorem dX12_throwsIf_5 : decode cX12_throwsIf 5 = .ok (.iconst 1, 1) := by decide +kernel
theorem dX12_throwsIf_6 : decode cX12_throwsIf 6 = .ok (.goto 4, 3) := by decide +kernel
theorem dX12_throwsIf_9 : decode cX12_throwsIf 9 = .ok (.iconst 0, 1) := by decide +kernel
theorem dX12_throwsIf_10 : decode cX12_throwsIf 10 = .ok (.putfield 1, 3) := by decide +kernel
theorem dX12_throwsIf_13 : decode cX12_throwsIf 13 = .ok (.iload_n 1, 1) := by decide +kernel
theorem dX12_throwsIf_14 : decode cX12_throwsIf 14 = .ok (.ireturn, 1) := by decide +kernel
set_option maxHeartbeats 4000000 in
theorem c_M_throwsIf {ad wad : Nat → Nat} (a0 : Int32) (h : HS)  (q : Int32 × HS) (hd : f_M_throwsIf a0 h = some q) : Ctr SHm ad wad yX12_throwsIf cX12_throwsIf 2 (some .boolean) 1 [.ref (ad 0), .int a0] h (some (.int q.1), q.2) := by
  refine enter (own := RX12) (lv := [(0, .ref (ad 0)), (1, .int a0)]) (by decide +kernel) rfl (Nat.le_of_ble_eq_true rfl) rfl (fun Γ hG => ?_)
  unfold f_M_throwsIf at hd
  refine a_aload_n (pc := 0) hG 0 rfl dX12_throwsIf_0 rfl ?_
  refine a_iload_n (pc := 1) hG 1 rfl dX12_throwsIf_1 rfl ?_
  refine a_join hd (Q := fun J : Int32 → HS → Option (Int32 × HS) => ∀ (v2 : Int32) (h3 : HS), J v2 h3 = some q → AW SHm ad 2 (some (.int q.1), q.2) Γ 10 [(1, .int a0)] [.int v2, .ref (ad 0)] h3) (fun v2 h3 hd => ?_) (fun J1 hJ1 hd => ?_)
  · refine a_putI (pc := 10) hG sm_0 cl_X12 ok_X12 0 (by decide) rfl t_1609 rfl (ty := .int) rfl rfl rfl hd dX12_throwsIf_10 (fun h4 hd => ?_)
    refine a_iload_n (pc := 13) hG 0 rfl dX12_throwsIf_13 rfl ?_
    exact a_zret (pc := 14) hG hd dX12_throwsIf_14
  refine a_if_eq (pc := 2) hG (tgt := 9) hd dX12_throwsIf_2 (by decide) (fun hd => ?_) (fun hd => ?_)
  · refine a_iconst (pc := 9) hG dX12_throwsIf_9 (v := (nI 0)) rfl ?_
    exact AW.sub [1] rfl (hJ1 _ _ hd)
  refine a_iconst (pc := 5) hG dX12_throwsIf_5 (v := (nI 1)) rfl ?_
  refine a_goto (pc := 6) hG (tgt := 10) dX12_throwsIf_6 (by decide) ?_
  exact AW.sub [1] rfl (hJ1 _ _ hd)
theorem dX12_sum_0 : decode cX12_sum 0 = .ok (.iconst 0, 1) := by decide +kernel
theorem dX12_sum_1 : decode cX12_sum 1 = .ok (.istore_n 3, 1) := by decide +kernel
theorem dX12_sum_2 : decode cX12_sum 2 = .ok (.iconst 0, 1) := by decide +kernel
theorem dX12_sum_3 : decode cX12_sum 3 = .ok (.istore 4, 2) := by decide +kernel
theorem dX12_sum_5 : decode cX12_sum 5 = .ok (.iload 4, 2) := by decide +kernel
theorem dX12_sum_7 : decode cX12_sum 7 = .ok (.bipush 6, 2) := by decide +kernel
theorem dX12_sum_9 : decode cX12_sum 9 = .ok (.if_icmp .ge 34, 3) := by decide +kernel
theorem dX12_sum_12 : decode cX12_sum 12 = .ok (.iload_n 3, 1) := by decide +kernel
theorem dX12_sum_13 : decode cX12_sum 13 = .ok (.iload_n 2, 1) := by decide +kernel
theorem dX12_sum_14 : decode cX12_sum 14 = .ok (.iload 4, 2) := by decide +kernel
theorem dX12_sum_16 : decode cX12_sum 16 = .ok (.invokestatic 206, 3) := by decide +kernel
theorem dX12_sum_19 : decode cX12_sum 19 = .ok (.ifCond .eq 15, 3) := by decide +kernel
theorem dX12_sum_22 : decode cX12_sum 22 = .ok (.aload_n 0, 1) := by decide +kernel
theorem dX12_sum_23 : decode cX12_sum 23 = .ok (.getfield 33, 3) := by decide +kernel
theorem dX12_sum_26 : decode cX12_sum 26 = .ok (.iload_n 1, 1) := by decide +kernel
theorem dX12_sum_27 : decode cX12_sum 27 = .ok (.iload 4, 2) := by decide +kernel
theorem dX12_sum_29 : decode cX12_sum 29 = .ok (.iadd, 1) := by decide +kernel
theorem dX12_sum_30 : decode cX12_sum 30 = .ok (.iaload, 1) := by decide +kernel
theorem dX12_sum_31 : decode cX12_sum 31 = .ok (.goto 4, 3) := by decide +kernel
theorem dX12_sum_34 : decode cX12_sum 34 = .ok (.iconst 0, 1) := by decide +kernel
theorem dX12_sum_35 : decode cX12_sum 35 = .ok (.iadd, 1) := by decide +kernel
theorem dX12_sum_36 : decode cX12_sum 36 = .ok (.istore_n 3, 1) := by decide +kernel
theorem dX12_sum_37 : decode cX12_sum 37 = .ok (.iinc 4 1, 3) := by decide +kernel
theorem dX12_sum_40 : decode cX12_sum 40 = .ok (.goto (-35), 3) := by decide +kernel
theorem dX12_sum_43 : decode cX12_sum 43 = .ok (.iload_n 3, 1) := by decide +kernel
theorem dX12_sum_44 : decode cX12_sum 44 = .ok (.ireturn, 1) := by decide +kernel
set_option maxHeartbeats 4000000 in
theorem w_l_M_sum_0 {ad wad : Nat → Nat} {Γ : Ctx} (F : Nat) {n : Nat} (hn : 2 ≤ n) (hG : Cx SHm ad wad cX12_sum 5 RX12 (some .int) (n) Γ) {q : Int32 × HS} {x1 : Int32} {x2 : Int32} {g : Nat} {x3 : Int32} {x4 : Int32} {h : HS} (hd : l_M_sum_0 F x1 x2 g x3 x4 h = some q) : AW SHm ad 5 (some (.int q.1), q.2) Γ 5 [(0, .ref (ad 0)), (1, .int x1), (2, .int x2), (3, .int x3), (4, .int x4)] [] h := by
  induction g generalizing x3 x4 h with
  | zero => unfold l_M_sum_0 at hd; cases hd
  | succ g ih =>
    unfold l_M_sum_0 at hd
    refine a_iload (pc := 5) hG 4 rfl dX12_sum_5 ?_
    refine a_bipush (pc := 7) hG dX12_sum_7 (v := (nI 6)) rfl ?_
    refine a_ic_ge (pc := 9) hG (tgt := 43) hd dX12_sum_9 (by decide) (fun hd => ?_) (fun hd => ?_)
    · refine a_iload_n (pc := 43) hG 3 rfl dX12_sum_43 rfl ?_
      exact a_iret (pc := 44) hG hd dX12_sum_44
    refine a_iload_n (pc := 12) hG 3 rfl dX12_sum_12 rfl ?_
    refine a_iload_n (pc := 13) hG 2 rfl dX12_sum_13 rfl ?_
    refine a_iload (pc := 14) hG 4 rfl dX12_sum_14 ?_
    refine a_csI (pc := 16) hG (As := [.int x2, .int x4]) (st := [.int x3]) mk_X12_bitOf t_1780 (by omega) (fun z hz => c_M_bitOf x2 x4 _  z hz) rfl (Nat.le_of_ble_eq_true rfl) hd dX12_sum_16 (fun r4 h3 hd => ?_)
    refine a_join hd (Q := fun J : Int32 → HS → Option (Int32 × HS) => ∀ (v6 : Int32) (h7 : HS), J v6 h7 = some q → AW SHm ad 5 (some (.int q.1), q.2) Γ 35 [(0, .ref (ad 0)), (1, .int x1), (2, .int x2), (4, .int x4)] [.int v6, .int x3] h7) (fun v6 h7 hd => ?_) (fun J5 hJ5 hd => ?_)
    · refine a_iadd (pc := 35) hG dX12_sum_35 ?_
      refine a_istore_nN (pc := 36) hG hd dX12_sum_36 rfl (by decide) (lf := fun x => [(3, .int x), (0, .ref (ad 0)), (1, .int x1), (2, .int x2), (4, .int x4)]) (fun _ => rfl) (fun v8 hd => ?_)
      refine a_iincN (pc := 37) hG (c0 := (nI 1)) 4 rfl hd dX12_sum_37 rfl (by decide) (lf := fun x => [(4, .int x), (3, .int v8), (0, .ref (ad 0)), (1, .int x1), (2, .int x2)]) (fun _ => rfl) (fun v9 hd => ?_)
      refine a_goto (pc := 40) hG (tgt := 5) dX12_sum_40 (by decide) ?_
      exact AW.sub [2, 3, 4, 1, 0] rfl (ih hd)
    refine a_if_eq (pc := 19) hG (tgt := 34) hd dX12_sum_19 (by decide) (fun hd => ?_) (fun hd => ?_)
    · refine a_iconst (pc := 34) hG dX12_sum_34 (v := (nI 0)) rfl ?_
      exact AW.sub [0, 1, 2, 4] rfl (hJ5 _ _ hd)
    refine a_aload_n (pc := 22) hG 0 rfl dX12_sum_22 rfl ?_
    refine a_getR (pc := 23) hG sm_0 cl_X12 ok_X12 6 (by decide) rfl t_1615 dX12_sum_23 ?_
    refine a_iload_n (pc := 26) hG 1 rfl dX12_sum_26 rfl ?_
    refine a_iload (pc := 27) hG 4 rfl dX12_sum_27 ?_
    refine a_iadd (pc := 29) hG dX12_sum_29 ?_
    refine a_iald (pc := 30) hG sm_2 hd dX12_sum_30 (fun hd => ?_)
    refine a_goto (pc := 31) hG (tgt := 35) dX12_sum_31 (by decide) ?_
    exact AW.sub [0, 1, 2, 4] rfl (hJ5 _ _ hd)
set_option maxHeartbeats 4000000 in
theorem c_M_sum {ad wad : Nat → Nat} (F : Nat) (a0 : Int32) (a1 : Int32) (h : HS)  (q : Int32 × HS) (hd : f_M_sum F a0 a1 h = some q) : Ctr SHm ad wad yX12_sum cX12_sum 5 (some .int) 2 [.ref (ad 0), .int a0, .int a1] h (some (.int q.1), q.2) := by
  refine enter (own := RX12) (lv := [(0, .ref (ad 0)), (1, .int a0), (2, .int a1)]) (by decide +kernel) rfl (Nat.le_of_ble_eq_true rfl) rfl (fun Γ hG => ?_)
  unfold f_M_sum at hd
  refine a_iconst (pc := 0) hG dX12_sum_0 (v := (nI 0)) rfl ?_
  refine a_istore_nN (pc := 1) hG hd dX12_sum_1 rfl (by decide) (lf := fun x => [(3, .int x), (0, .ref (ad 0)), (1, .int a0), (2, .int a1)]) (fun _ => rfl) (fun v1 hd => ?_)
  refine a_iconst (pc := 2) hG dX12_sum_2 (v := (nI 0)) rfl ?_
  refine a_istoreN (pc := 3) hG hd dX12_sum_3 (by decide) (lf := fun x => [(4, .int x), (3, .int v1), (0, .ref (ad 0)), (1, .int a0), (2, .int a1)]) (fun _ => rfl) (fun v2 hd => ?_)
  refine AW.sub [2, 3, 4, 1, 0] rfl ?_
  exact w_l_M_sum_0 F (by omega) hG hd
theorem dX12_forOf_0 : decode cX12_forOf 0 = .ok (.aload_n 0, 1) := by decide +kernel
theorem dX12_forOf_1 : decode cX12_forOf 1 = .ok (.getfield 33, 3) := by decide +kernel
theorem dX12_forOf_4 : decode cX12_forOf 4 = .ok (.bipush 78, 2) := by decide +kernel
theorem dX12_forOf_6 : decode cX12_forOf 6 = .ok (.iload_n 1, 1) := by decide +kernel
theorem dX12_forOf_7 : decode cX12_forOf 7 = .ok (.iadd, 1) := by decide +kernel
theorem dX12_forOf_8 : decode cX12_forOf 8 = .ok (.iaload, 1) := by decide +kernel
theorem dX12_forOf_9 : decode cX12_forOf 9 = .ok (.aload_n 0, 1) := by decide +kernel
theorem dX12_forOf_10 : decode cX12_forOf 10 = .ok (.bipush 49, 2) := by decide +kernel
theorem dX12_forOf_12 : decode cX12_forOf 12 = .ok (.iload_n 2, 1) := by decide +kernel
theorem dX12_forOf_13 : decode cX12_forOf 13 = .ok (.invokevirtual 240, 3) := by decide +kernel
theorem dX12_forOf_16 : decode cX12_forOf 16 = .ok (.iadd, 1) := by decide +kernel
theorem dX12_forOf_17 : decode cX12_forOf 17 = .ok (.ireturn, 1) := by decide +kernel
set_option maxHeartbeats 4000000 in
theorem c_M_forOf {ad wad : Nat → Nat} (F : Nat) (a0 : Int32) (a1 : Int32) (h : HS)  (q : Int32 × HS) (hd : f_M_forOf F a0 a1 h = some q) : Ctr SHm ad wad yX12_forOf cX12_forOf 3 (some .int) 3 [.ref (ad 0), .int a0, .int a1] h (some (.int q.1), q.2) := by
  refine enter (own := RX12) (lv := [(0, .ref (ad 0)), (1, .int a0), (2, .int a1)]) (by decide +kernel) rfl (Nat.le_of_ble_eq_true rfl) rfl (fun Γ hG => ?_)
  unfold f_M_forOf at hd
  refine a_aload_n (pc := 0) hG 0 rfl dX12_forOf_0 rfl ?_
  refine a_getR (pc := 1) hG sm_0 cl_X12 ok_X12 6 (by decide) rfl t_1615 dX12_forOf_1 ?_
  refine a_bipush (pc := 4) hG dX12_forOf_4 (v := (nI 78)) rfl ?_
  refine a_iload_n (pc := 6) hG 1 rfl dX12_forOf_6 rfl ?_
  refine a_iadd (pc := 7) hG dX12_forOf_7 ?_
  refine a_iald (pc := 8) hG sm_2 hd dX12_forOf_8 (fun hd => ?_)
  refine a_aload_n (pc := 9) hG 0 rfl dX12_forOf_9 rfl ?_
  refine a_bipush (pc := 10) hG dX12_forOf_10 (v := (nI 49)) rfl ?_
  refine a_iload_n (pc := 12) hG 2 rfl dX12_forOf_12 rfl ?_
  refine a_cvI (pc := 13) hG (As := [.int (nI 49), .int a1]) (st := [.int (h.1 2 ((nI 78) + a0).toNatClampNeg)]) sm_0 cl_X12 mk_X12_sum t_1846 (by omega) (fun z hz => c_M_sum F (nI 49) a1 _  z hz) rfl (Nat.le_of_ble_eq_true rfl) hd dX12_forOf_13 (fun r2 h1 hd => ?_)
  refine a_iadd (pc := 16) hG dX12_forOf_16 ?_
  exact a_iret (pc := 17) hG hd dX12_forOf_17
theorem dX12_allOf_0 : decode cX12_allOf 0 = .ok (.aload_n 0, 1) := by decide +kernel
theorem dX12_allOf_1 : decode cX12_allOf 1 = .ok (.iload_n 1, 1) := by decide +kernel
theorem dX12_allOf_2 : decode cX12_allOf 2 = .ok (.iload_n 2, 1) := by decide +kernel
theorem dX12_allOf_3 : decode cX12_allOf 3 = .ok (.invokevirtual 243, 3) := by decide +kernel
theorem dX12_allOf_6 : decode cX12_allOf 6 = .ok (.aload_n 0, 1) := by decide +kernel
theorem dX12_allOf_7 : decode cX12_allOf 7 = .ok (.getfield 33, 3) := by decide +kernel
theorem dX12_allOf_10 : decode cX12_allOf 10 = .ok (.bipush 84, 2) := by decide +kernel
theorem dX12_allOf_12 : decode cX12_allOf 12 = .ok (.iload_n 1, 1) := by decide +kernel
theorem dX12_allOf_13 : decode cX12_allOf 13 = .ok (.iadd, 1) := by decide +kernel
theorem dX12_allOf_14 : decode cX12_allOf 14 = .ok (.iaload, 1) := by decide +kernel
theorem dX12_allOf_15 : decode cX12_allOf 15 = .ok (.iadd, 1) := by decide +kernel
theorem dX12_allOf_16 : decode cX12_allOf 16 = .ok (.aload_n 0, 1) := by decide +kernel
theorem dX12_allOf_17 : decode cX12_allOf 17 = .ok (.bipush 55, 2) := by decide +kernel
theorem dX12_allOf_19 : decode cX12_allOf 19 = .ok (.iload_n 2, 1) := by decide +kernel
theorem dX12_allOf_20 : decode cX12_allOf 20 = .ok (.invokevirtual 240, 3) := by decide +kernel
theorem dX12_allOf_23 : decode cX12_allOf 23 = .ok (.iadd, 1) := by decide +kernel
theorem dX12_allOf_24 : decode cX12_allOf 24 = .ok (.ireturn, 1) := by decide +kernel
set_option maxHeartbeats 4000000 in
theorem c_M_allOf {ad wad : Nat → Nat} (F : Nat) (a0 : Int32) (a1 : Int32) (h : HS)  (q : Int32 × HS) (hd : f_M_allOf F a0 a1 h = some q) : Ctr SHm ad wad yX12_allOf cX12_allOf 3 (some .int) 4 [.ref (ad 0), .int a0, .int a1] h (some (.int q.1), q.2) := by
  refine enter (own := RX12) (lv := [(0, .ref (ad 0)), (1, .int a0), (2, .int a1)]) (by decide +kernel) rfl (Nat.le_of_ble_eq_true rfl) rfl (fun Γ hG => ?_)
  unfold f_M_allOf at hd
  refine a_aload_n (pc := 0) hG 0 rfl dX12_allOf_0 rfl ?_
  refine a_iload_n (pc := 1) hG 1 rfl dX12_allOf_1 rfl ?_
  refine a_iload_n (pc := 2) hG 2 rfl dX12_allOf_2 rfl ?_
  refine a_cvI (pc := 3) hG (As := [.int a0, .int a1]) (st := []) sm_0 cl_X12 mk_X12_forOf t_1842 (by omega) (fun z hz => c_M_forOf F a0 a1 _  z hz) rfl (Nat.le_of_ble_eq_true rfl) hd dX12_allOf_3 (fun r2 h1 hd => ?_)
  refine a_aload_n (pc := 6) hG 0 rfl dX12_allOf_6 rfl ?_
  refine a_getR (pc := 7) hG sm_0 cl_X12 ok_X12 6 (by decide) rfl t_1615 dX12_allOf_7 ?_
  refine a_bipush (pc := 10) hG dX12_allOf_10 (v := (nI 84)) rfl ?_
  refine a_iload_n (pc := 12) hG 1 rfl dX12_allOf_12 rfl ?_
  refine a_iadd (pc := 13) hG dX12_allOf_13 ?_
  refine a_iald (pc := 14) hG sm_2 hd dX12_allOf_14 (fun hd => ?_)
  refine a_iadd (pc := 15) hG dX12_allOf_15 ?_
  refine a_aload_n (pc := 16) hG 0 rfl dX12_allOf_16 rfl ?_
  refine a_bipush (pc := 17) hG dX12_allOf_17 (v := (nI 55)) rfl ?_
  refine a_iload_n (pc := 19) hG 2 rfl dX12_allOf_19 rfl ?_
  refine a_cvI (pc := 20) hG (As := [.int (nI 55), .int a1]) (st := [.int (r2 + (h1.1 2 ((nI 84) + a0).toNatClampNeg))]) sm_0 cl_X12 mk_X12_sum t_1846 (by omega) (fun z hz => c_M_sum F (nI 55) a1 _  z hz) rfl (Nat.le_of_ble_eq_true rfl) hd dX12_allOf_20 (fun r4 h3 hd => ?_)
  refine a_iadd (pc := 23) hG dX12_allOf_23 ?_
  exact a_iret (pc := 24) hG hd dX12_allOf_24
theorem dX12_nearOf_0 : decode cX12_nearOf 0 = .ok (.sipush 1000, 3) := by decide +kernel
theorem dX12_nearOf_3 : decode cX12_nearOf 3 = .ok (.aload_n 0, 1) := by decide +kernel
theorem dX12_nearOf_4 : decode cX12_nearOf 4 = .ok (.iload_n 1, 1) := by decide +kernel
theorem dX12_nearOf_5 : decode cX12_nearOf 5 = .ok (.iload_n 2, 1) := by decide +kernel
theorem dX12_nearOf_6 : decode cX12_nearOf 6 = .ok (.invokevirtual 243, 3) := by decide +kernel
theorem dX12_nearOf_9 : decode cX12_nearOf 9 = .ok (.imul, 1) := by decide +kernel
theorem dX12_nearOf_10 : decode cX12_nearOf 10 = .ok (.aload_n 0, 1) := by decide +kernel
theorem dX12_nearOf_11 : decode cX12_nearOf 11 = .ok (.getfield 33, 3) := by decide +kernel
theorem dX12_nearOf_14 : decode cX12_nearOf 14 = .ok (.iconst 5, 1) := by decide +kernel
theorem dX12_nearOf_15 : decode cX12_nearOf 15 = .ok (.iaload, 1) := by decide +kernel
theorem dX12_nearOf_16 : decode cX12_nearOf 16 = .ok (.imul, 1) := by decide +kernel
theorem dX12_nearOf_17 : decode cX12_nearOf 17 = .ok (.aload_n 0, 1) := by decide +kernel
theorem dX12_nearOf_18 : decode cX12_nearOf 18 = .ok (.iload_n 1, 1) := by decide +kernel
theorem dX12_nearOf_19 : decode cX12_nearOf 19 = .ok (.iload_n 2, 1) := by decide +kernel
theorem dX12_nearOf_20 : decode cX12_nearOf 20 = .ok (.invokevirtual 246, 3) := by decide +kernel
theorem dX12_nearOf_23 : decode cX12_nearOf 23 = .ok (.aload_n 0, 1) := by decide +kernel
theorem dX12_nearOf_24 : decode cX12_nearOf 24 = .ok (.getfield 33, 3) := by decide +kernel
theorem dX12_nearOf_27 : decode cX12_nearOf 27 = .ok (.iconst 4, 1) := by decide +kernel
theorem dX12_nearOf_28 : decode cX12_nearOf 28 = .ok (.iaload, 1) := by decide +kernel
theorem dX12_nearOf_29 : decode cX12_nearOf 29 = .ok (.imul, 1) := by decide +kernel
theorem dX12_nearOf_30 : decode cX12_nearOf 30 = .ok (.idiv, 1) := by decide +kernel
theorem dX12_nearOf_31 : decode cX12_nearOf 31 = .ok (.ireturn, 1) := by decide +kernel
set_option maxHeartbeats 4000000 in
theorem c_M_nearOf {ad wad : Nat → Nat} (F : Nat) (a0 : Int32) (a1 : Int32) (h : HS)  (q : Int32 × HS) (hd : f_M_nearOf F a0 a1 h = some q) : Ctr SHm ad wad yX12_nearOf cX12_nearOf 3 (some .int) 5 [.ref (ad 0), .int a0, .int a1] h (some (.int q.1), q.2) := by
  refine enter (own := RX12) (lv := [(0, .ref (ad 0)), (1, .int a0), (2, .int a1)]) (by decide +kernel) rfl (Nat.le_of_ble_eq_true rfl) rfl (fun Γ hG => ?_)
  unfold f_M_nearOf at hd
  refine a_sipush (pc := 0) hG dX12_nearOf_0 (v := (nI 1000)) rfl ?_
  refine a_aload_n (pc := 3) hG 0 rfl dX12_nearOf_3 rfl ?_
  refine a_iload_n (pc := 4) hG 1 rfl dX12_nearOf_4 rfl ?_
  refine a_iload_n (pc := 5) hG 2 rfl dX12_nearOf_5 rfl ?_
  refine a_cvI (pc := 6) hG (As := [.int a0, .int a1]) (st := [.int (nI 1000)]) sm_0 cl_X12 mk_X12_forOf t_1842 (by omega) (fun z hz => c_M_forOf F a0 a1 _  z hz) rfl (Nat.le_of_ble_eq_true rfl) hd dX12_nearOf_6 (fun r2 h1 hd => ?_)
  refine a_imul (pc := 9) hG dX12_nearOf_9 ?_
  refine a_aload_n (pc := 10) hG 0 rfl dX12_nearOf_10 rfl ?_
  refine a_getR (pc := 11) hG sm_0 cl_X12 ok_X12 6 (by decide) rfl t_1615 dX12_nearOf_11 ?_
  refine a_iconst (pc := 14) hG dX12_nearOf_14 (v := (nI 5)) rfl ?_
  refine a_iald (pc := 15) hG sm_2 hd dX12_nearOf_15 (fun hd => ?_)
  refine a_imul (pc := 16) hG dX12_nearOf_16 ?_
  refine a_aload_n (pc := 17) hG 0 rfl dX12_nearOf_17 rfl ?_
  refine a_iload_n (pc := 18) hG 1 rfl dX12_nearOf_18 rfl ?_
  refine a_iload_n (pc := 19) hG 2 rfl dX12_nearOf_19 rfl ?_
  refine a_cvI (pc := 20) hG (As := [.int a0, .int a1]) (st := [.int (((nI 1000) * r2) * (h1.1 2 (nI 5).toNatClampNeg))]) sm_0 cl_X12 mk_X12_allOf t_1850 (by omega) (fun z hz => c_M_allOf F a0 a1 _  z hz) rfl (Nat.le_of_ble_eq_true rfl) hd dX12_nearOf_20 (fun r4 h3 hd => ?_)
  refine a_aload_n (pc := 23) hG 0 rfl dX12_nearOf_23 rfl ?_
  refine a_getR (pc := 24) hG sm_0 cl_X12 ok_X12 6 (by decide) rfl t_1615 dX12_nearOf_24 ?_
  refine a_iconst (pc := 27) hG dX12_nearOf_27 (v := (nI 4)) rfl ?_
  refine a_iald (pc := 28) hG sm_2 hd dX12_nearOf_28 (fun hd => ?_)
  refine a_imul (pc := 29) hG dX12_nearOf_29 ?_
  refine a_idiv (pc := 30) hG hd dX12_nearOf_30 (fun hd => ?_)
  exact a_iret (pc := 31) hG hd dX12_nearOf_31
theorem dX12_cause_0 : decode cX12_cause 0 = .ok (.aload_n 0, 1) := by decide +kernel
theorem dX12_cause_1 : decode cX12_cause 1 = .ok (.aload_n 0, 1) := by decide +kernel
theorem dX12_cause_2 : decode cX12_cause 2 = .ok (.iload_n 1, 1) := by decide +kernel
theorem dX12_cause_3 : decode cX12_cause 3 = .ok (.invokevirtual 255, 3) := by decide +kernel
theorem dX12_cause_6 : decode cX12_cause 6 = .ok (.ifCond .eq 13, 3) := by decide +kernel
theorem dX12_cause_9 : decode cX12_cause 9 = .ok (.iload_n 2, 1) := by decide +kernel
theorem dX12_cause_10 : decode cX12_cause 10 = .ok (.iconst 0, 1) := by decide +kernel
theorem dX12_cause_11 : decode cX12_cause 11 = .ok (.bipush 8, 2) := by decide +kernel
theorem dX12_cause_13 : decode cX12_cause 13 = .ok (.invokestatic 184, 3) := by decide +kernel
theorem dX12_cause_16 : decode cX12_cause 16 = .ok (.ifCond .ne 7, 3) := by decide +kernel
theorem dX12_cause_19 : decode cX12_cause 19 = .ok (.iconst 1, 1) := by decide +kernel
theorem dX12_cause_20 : decode cX12_cause 20 = .ok (.goto 4, 3) := by decide +kernel
theorem dX12_cause_23 : decode cX12_cause 23 = .ok (.iconst 0, 1) := by decide +kernel
theorem dX12_cause_24 : decode cX12_cause 24 = .ok (.invokevirtual 258, 3) := by decide +kernel
theorem dX12_cause_27 : decode cX12_cause 27 = .ok (.ifCond .eq 5, 3) := by decide +kernel
theorem dX12_cause_30 : decode cX12_cause 30 = .ok (.iconst 0, 1) := by decide +kernel
theorem dX12_cause_31 : decode cX12_cause 31 = .ok (.ireturn, 1) := by decide +kernel
theorem dX12_cause_32 : decode cX12_cause 32 = .ok (.iload_n 2, 1) := by decide +kernel
theorem dX12_cause_33 : decode cX12_cause 33 = .ok (.tableswitch 129 0 7 #[47, 57, 67, 77, 87, 97, 109, 119], 47) := by decide +kernel
theorem dX12_cause_80 : decode cX12_cause 80 = .ok (.aload_n 0, 1) := by decide +kernel
theorem dX12_cause_81 : decode cX12_cause 81 = .ok (.getfield 33, 3) := by decide +kernel
theorem dX12_cause_84 : decode cX12_cause 84 = .ok (.bipush 78, 2) := by decide +kernel
theorem dX12_cause_86 : decode cX12_cause 86 = .ok (.iload_n 1, 1) := by decide +kernel
theorem dX12_cause_87 : decode cX12_cause 87 = .ok (.iadd, 1) := by decide +kernel
theorem dX12_cause_88 : decode cX12_cause 88 = .ok (.iaload, 1) := by decide +kernel
theorem dX12_cause_89 : decode cX12_cause 89 = .ok (.ireturn, 1) := by decide +kernel
theorem dX12_cause_90 : decode cX12_cause 90 = .ok (.aload_n 0, 1) := by decide +kernel
theorem dX12_cause_91 : decode cX12_cause 91 = .ok (.getfield 33, 3) := by decide +kernel
theorem dX12_cause_94 : decode cX12_cause 94 = .ok (.bipush 84, 2) := by decide +kernel
theorem dX12_cause_96 : decode cX12_cause 96 = .ok (.iload_n 1, 1) := by decide +kernel
theorem dX12_cause_97 : decode cX12_cause 97 = .ok (.iadd, 1) := by decide +kernel
theorem dX12_cause_98 : decode cX12_cause 98 = .ok (.iaload, 1) := by decide +kernel
theorem dX12_cause_99 : decode cX12_cause 99 = .ok (.ireturn, 1) := by decide +kernel
theorem dX12_cause_100 : decode cX12_cause 100 = .ok (.aload_n 0, 1) := by decide +kernel
theorem dX12_cause_101 : decode cX12_cause 101 = .ok (.getfield 33, 3) := by decide +kernel
theorem dX12_cause_104 : decode cX12_cause 104 = .ok (.bipush 19, 2) := by decide +kernel
theorem dX12_cause_106 : decode cX12_cause 106 = .ok (.iload_n 1, 1) := by decide +kernel
theorem dX12_cause_107 : decode cX12_cause 107 = .ok (.iadd, 1) := by decide +kernel
theorem dX12_cause_108 : decode cX12_cause 108 = .ok (.iaload, 1) := by decide +kernel
theorem dX12_cause_109 : decode cX12_cause 109 = .ok (.ireturn, 1) := by decide +kernel
theorem dX12_cause_110 : decode cX12_cause 110 = .ok (.aload_n 0, 1) := by decide +kernel
theorem dX12_cause_111 : decode cX12_cause 111 = .ok (.getfield 33, 3) := by decide +kernel
theorem dX12_cause_114 : decode cX12_cause 114 = .ok (.bipush 90, 2) := by decide +kernel
theorem dX12_cause_116 : decode cX12_cause 116 = .ok (.iload_n 1, 1) := by decide +kernel
theorem dX12_cause_117 : decode cX12_cause 117 = .ok (.iadd, 1) := by decide +kernel
theorem dX12_cause_118 : decode cX12_cause 118 = .ok (.iaload, 1) := by decide +kernel
theorem dX12_cause_119 : decode cX12_cause 119 = .ok (.ireturn, 1) := by decide +kernel
theorem dX12_cause_120 : decode cX12_cause 120 = .ok (.aload_n 0, 1) := by decide +kernel
theorem dX12_cause_121 : decode cX12_cause 121 = .ok (.getfield 33, 3) := by decide +kernel
theorem dX12_cause_124 : decode cX12_cause 124 = .ok (.bipush 96, 2) := by decide +kernel
theorem dX12_cause_126 : decode cX12_cause 126 = .ok (.iload_n 1, 1) := by decide +kernel
theorem dX12_cause_127 : decode cX12_cause 127 = .ok (.iadd, 1) := by decide +kernel
theorem dX12_cause_128 : decode cX12_cause 128 = .ok (.iaload, 1) := by decide +kernel
theorem dX12_cause_129 : decode cX12_cause 129 = .ok (.ireturn, 1) := by decide +kernel
theorem dX12_cause_130 : decode cX12_cause 130 = .ok (.aload_n 0, 1) := by decide +kernel
theorem dX12_cause_131 : decode cX12_cause 131 = .ok (.getfield 33, 3) := by decide +kernel
theorem dX12_cause_134 : decode cX12_cause 134 = .ok (.bipush 102, 2) := by decide +kernel
theorem dX12_cause_136 : decode cX12_cause 136 = .ok (.iload_n 1, 1) := by decide +kernel
theorem dX12_cause_137 : decode cX12_cause 137 = .ok (.iadd, 1) := by decide +kernel
theorem dX12_cause_138 : decode cX12_cause 138 = .ok (.iaload, 1) := by decide +kernel
theorem dX12_cause_139 : decode cX12_cause 139 = .ok (.iconst 1, 1) := by decide +kernel
theorem dX12_cause_140 : decode cX12_cause 140 = .ok (.isub, 1) := by decide +kernel
theorem dX12_cause_141 : decode cX12_cause 141 = .ok (.ireturn, 1) := by decide +kernel
theorem dX12_cause_142 : decode cX12_cause 142 = .ok (.aload_n 0, 1) := by decide +kernel
theorem dX12_cause_143 : decode cX12_cause 143 = .ok (.getfield 33, 3) := by decide +kernel
theorem dX12_cause_146 : decode cX12_cause 146 = .ok (.bipush 108, 2) := by decide +kernel
theorem dX12_cause_148 : decode cX12_cause 148 = .ok (.iload_n 1, 1) := by decide +kernel
theorem dX12_cause_149 : decode cX12_cause 149 = .ok (.iadd, 1) := by decide +kernel
theorem dX12_cause_150 : decode cX12_cause 150 = .ok (.iaload, 1) := by decide +kernel
theorem dX12_cause_151 : decode cX12_cause 151 = .ok (.ireturn, 1) := by decide +kernel
theorem dX12_cause_152 : decode cX12_cause 152 = .ok (.aload_n 0, 1) := by decide +kernel
theorem dX12_cause_153 : decode cX12_cause 153 = .ok (.getfield 33, 3) := by decide +kernel
theorem dX12_cause_156 : decode cX12_cause 156 = .ok (.bipush 114, 2) := by decide +kernel
theorem dX12_cause_158 : decode cX12_cause 158 = .ok (.iload_n 1, 1) := by decide +kernel
theorem dX12_cause_159 : decode cX12_cause 159 = .ok (.iadd, 1) := by decide +kernel
theorem dX12_cause_160 : decode cX12_cause 160 = .ok (.iaload, 1) := by decide +kernel
theorem dX12_cause_161 : decode cX12_cause 161 = .ok (.ireturn, 1) := by decide +kernel
theorem dX12_cause_162 : decode cX12_cause 162 = .ok (.aload_n 0, 1) := by decide +kernel
theorem dX12_cause_163 : decode cX12_cause 163 = .ok (.iload_n 1, 1) := by decide +kernel
theorem dX12_cause_164 : decode cX12_cause 164 = .ok (.iconst 0, 1) := by decide +kernel
theorem dX12_cause_165 : decode cX12_cause 165 = .ok (.invokevirtual 252, 3) := by decide +kernel
theorem dX12_cause_168 : decode cX12_cause 168 = .ok (.ireturn, 1) := by decide +kernel
set_option maxHeartbeats 4000000 in
theorem c_M_cause {ad wad : Nat → Nat} (F : Nat) (a0 : Int32) (a1 : Int32) (h : HS)  (q : Int32 × HS) (hd : f_M_cause F a0 a1 h = some q) : Ctr SHm ad wad yX12_cause cX12_cause 3 (some .int) 6 [.ref (ad 0), .int a0, .int a1] h (some (.int q.1), q.2) := by
  refine enter (own := RX12) (lv := [(0, .ref (ad 0)), (1, .int a0), (2, .int a1)]) (by decide +kernel) rfl (Nat.le_of_ble_eq_true rfl) rfl (fun Γ hG => ?_)
  unfold f_M_cause at hd
  refine a_aload_n (pc := 0) hG 0 rfl dX12_cause_0 rfl ?_
  refine a_aload_n (pc := 1) hG 0 rfl dX12_cause_1 rfl ?_
  refine a_iload_n (pc := 2) hG 1 rfl dX12_cause_2 rfl ?_
  refine a_cvI (pc := 3) hG (As := [.int a0]) (st := [.ref (ad 0)]) sm_0 cl_X12 mk_X12_isCause t_1830 (by omega) (fun z hz => c_M_isCause a0 _  z hz) rfl (Nat.le_of_ble_eq_true rfl) hd dX12_cause_3 (fun r2 h1 hd => ?_)
  refine a_join hd (Q := fun J : Int32 → HS → Option (Int32 × HS) => ∀ (v4 : Int32) (h5 : HS), J v4 h5 = some q → AW SHm ad 3 (some (.int q.1), q.2) Γ 24 [(0, .ref (ad 0)), (1, .int a0), (2, .int a1)] [.int v4, .ref (ad 0)] h5) (fun v4 h5 hd => ?_) (fun J3 hJ3 hd => ?_)
  · refine a_cvI (pc := 24) hG (As := [.int v4]) (st := []) sm_0 cl_X12 mk_X12_throwsIf t_1834 (by omega) (fun z hz => c_M_throwsIf v4 _  z hz) rfl (Nat.le_of_ble_eq_true rfl) hd dX12_cause_24 (fun r7 h6 hd => ?_)
    refine a_if_eq (pc := 27) hG (tgt := 32) hd dX12_cause_27 (by decide) (fun hd => ?_) (fun hd => ?_)
    · refine a_iload_n (pc := 32) hG 2 rfl dX12_cause_32 rfl ?_
      refine a_tcase (pc := 33) hG ((nI 0)) (tgt := 80) hd dX12_cause_33 (by decide) (by decide) rfl (by decide) (fun hd => ?_) (fun n0 hd => ?_)
      · refine a_aload_n (pc := 80) hG 0 rfl dX12_cause_80 rfl ?_
        refine a_getR (pc := 81) hG sm_0 cl_X12 ok_X12 6 (by decide) rfl t_1615 dX12_cause_81 ?_
        refine a_bipush (pc := 84) hG dX12_cause_84 (v := (nI 78)) rfl ?_
        refine a_iload_n (pc := 86) hG 1 rfl dX12_cause_86 rfl ?_
        refine a_iadd (pc := 87) hG dX12_cause_87 ?_
        refine a_iald (pc := 88) hG sm_2 hd dX12_cause_88 (fun hd => ?_)
        exact a_iret (pc := 89) hG hd dX12_cause_89
      refine a_tcase (pc := 33) hG ((nI 1)) (tgt := 90) hd dX12_cause_33 (by decide) (by decide) rfl (by decide) (fun hd => ?_) (fun n1 hd => ?_)
      · refine a_aload_n (pc := 90) hG 0 rfl dX12_cause_90 rfl ?_
        refine a_getR (pc := 91) hG sm_0 cl_X12 ok_X12 6 (by decide) rfl t_1615 dX12_cause_91 ?_
        refine a_bipush (pc := 94) hG dX12_cause_94 (v := (nI 84)) rfl ?_
        refine a_iload_n (pc := 96) hG 1 rfl dX12_cause_96 rfl ?_
        refine a_iadd (pc := 97) hG dX12_cause_97 ?_
        refine a_iald (pc := 98) hG sm_2 hd dX12_cause_98 (fun hd => ?_)
        exact a_iret (pc := 99) hG hd dX12_cause_99
      refine a_tcase (pc := 33) hG ((nI 2)) (tgt := 100) hd dX12_cause_33 (by decide) (by decide) rfl (by decide) (fun hd => ?_) (fun n2 hd => ?_)
      · refine a_aload_n (pc := 100) hG 0 rfl dX12_cause_100 rfl ?_
        refine a_getR (pc := 101) hG sm_0 cl_X12 ok_X12 6 (by decide) rfl t_1615 dX12_cause_101 ?_
        refine a_bipush (pc := 104) hG dX12_cause_104 (v := (nI 19)) rfl ?_
        refine a_iload_n (pc := 106) hG 1 rfl dX12_cause_106 rfl ?_
        refine a_iadd (pc := 107) hG dX12_cause_107 ?_
        refine a_iald (pc := 108) hG sm_2 hd dX12_cause_108 (fun hd => ?_)
        exact a_iret (pc := 109) hG hd dX12_cause_109
      refine a_tcase (pc := 33) hG ((nI 3)) (tgt := 110) hd dX12_cause_33 (by decide) (by decide) rfl (by decide) (fun hd => ?_) (fun n3 hd => ?_)
      · refine a_aload_n (pc := 110) hG 0 rfl dX12_cause_110 rfl ?_
        refine a_getR (pc := 111) hG sm_0 cl_X12 ok_X12 6 (by decide) rfl t_1615 dX12_cause_111 ?_
        refine a_bipush (pc := 114) hG dX12_cause_114 (v := (nI 90)) rfl ?_
        refine a_iload_n (pc := 116) hG 1 rfl dX12_cause_116 rfl ?_
        refine a_iadd (pc := 117) hG dX12_cause_117 ?_
        refine a_iald (pc := 118) hG sm_2 hd dX12_cause_118 (fun hd => ?_)
        exact a_iret (pc := 119) hG hd dX12_cause_119
      refine a_tcase (pc := 33) hG ((nI 4)) (tgt := 120) hd dX12_cause_33 (by decide) (by decide) rfl (by decide) (fun hd => ?_) (fun n4 hd => ?_)
      · refine a_aload_n (pc := 120) hG 0 rfl dX12_cause_120 rfl ?_
        refine a_getR (pc := 121) hG sm_0 cl_X12 ok_X12 6 (by decide) rfl t_1615 dX12_cause_121 ?_
        refine a_bipush (pc := 124) hG dX12_cause_124 (v := (nI 96)) rfl ?_
        refine a_iload_n (pc := 126) hG 1 rfl dX12_cause_126 rfl ?_
        refine a_iadd (pc := 127) hG dX12_cause_127 ?_
        refine a_iald (pc := 128) hG sm_2 hd dX12_cause_128 (fun hd => ?_)
        exact a_iret (pc := 129) hG hd dX12_cause_129
      refine a_tcase (pc := 33) hG ((nI 5)) (tgt := 130) hd dX12_cause_33 (by decide) (by decide) rfl (by decide) (fun hd => ?_) (fun n5 hd => ?_)
      · refine a_aload_n (pc := 130) hG 0 rfl dX12_cause_130 rfl ?_
        refine a_getR (pc := 131) hG sm_0 cl_X12 ok_X12 6 (by decide) rfl t_1615 dX12_cause_131 ?_
        refine a_bipush (pc := 134) hG dX12_cause_134 (v := (nI 102)) rfl ?_
        refine a_iload_n (pc := 136) hG 1 rfl dX12_cause_136 rfl ?_
        refine a_iadd (pc := 137) hG dX12_cause_137 ?_
        refine a_iald (pc := 138) hG sm_2 hd dX12_cause_138 (fun hd => ?_)
        refine a_iconst (pc := 139) hG dX12_cause_139 (v := (nI 1)) rfl ?_
        refine a_isub (pc := 140) hG dX12_cause_140 ?_
        exact a_iret (pc := 141) hG hd dX12_cause_141
      refine a_tcase (pc := 33) hG ((nI 6)) (tgt := 142) hd dX12_cause_33 (by decide) (by decide) rfl (by decide) (fun hd => ?_) (fun n6 hd => ?_)
      · refine a_aload_n (pc := 142) hG 0 rfl dX12_cause_142 rfl ?_
        refine a_getR (pc := 143) hG sm_0 cl_X12 ok_X12 6 (by decide) rfl t_1615 dX12_cause_143 ?_
        refine a_bipush (pc := 146) hG dX12_cause_146 (v := (nI 108)) rfl ?_
        refine a_iload_n (pc := 148) hG 1 rfl dX12_cause_148 rfl ?_
        refine a_iadd (pc := 149) hG dX12_cause_149 ?_
        refine a_iald (pc := 150) hG sm_2 hd dX12_cause_150 (fun hd => ?_)
        exact a_iret (pc := 151) hG hd dX12_cause_151
      refine a_tcase (pc := 33) hG ((nI 7)) (tgt := 152) hd dX12_cause_33 (by decide) (by decide) rfl (by decide) (fun hd => ?_) (fun n7 hd => ?_)
      · refine a_aload_n (pc := 152) hG 0 rfl dX12_cause_152 rfl ?_
        refine a_getR (pc := 153) hG sm_0 cl_X12 ok_X12 6 (by decide) rfl t_1615 dX12_cause_153 ?_
        refine a_bipush (pc := 156) hG dX12_cause_156 (v := (nI 114)) rfl ?_
        refine a_iload_n (pc := 158) hG 1 rfl dX12_cause_158 rfl ?_
        refine a_iadd (pc := 159) hG dX12_cause_159 ?_
        refine a_iald (pc := 160) hG sm_2 hd dX12_cause_160 (fun hd => ?_)
        exact a_iret (pc := 161) hG hd dX12_cause_161
      refine a_tdef (pc := 33) hG (tgt := 162) dX12_cause_33 (by have en0 := sw_ne (z := 0) rfl n0; have en1 := sw_ne (z := 1) rfl n1; have en2 := sw_ne (z := 2) rfl n2; have en3 := sw_ne (z := 3) rfl n3; have en4 := sw_ne (z := 4) rfl n4; have en5 := sw_ne (z := 5) rfl n5; have en6 := sw_ne (z := 6) rfl n6; have en7 := sw_ne (z := 7) rfl n7; omega) (by decide) ?_
      refine a_aload_n (pc := 162) hG 0 rfl dX12_cause_162 rfl ?_
      refine a_iload_n (pc := 163) hG 1 rfl dX12_cause_163 rfl ?_
      refine a_iconst (pc := 164) hG dX12_cause_164 (v := (nI 0)) rfl ?_
      refine a_cvI (pc := 165) hG (As := [.int a0, .int (nI 0)]) (st := []) sm_0 cl_X12 mk_X12_nearOf t_1838 (by omega) (fun z hz => c_M_nearOf F a0 (nI 0) _  z hz) rfl (Nat.le_of_ble_eq_true rfl) hd dX12_cause_165 (fun r9 h8 hd => ?_)
      exact a_iret (pc := 168) hG hd dX12_cause_168
    refine a_iconst (pc := 30) hG dX12_cause_30 (v := (nI 0)) rfl ?_
    exact a_iret (pc := 31) hG hd dX12_cause_31
  refine a_join hd (Q := fun J : HS → Option (Int32 × HS) => ∀  (h11 : HS), J  h11 = some q → AW SHm ad 3 (some (.int q.1), q.2) Γ 19 [(0, .ref (ad 0)), (1, .int a0), (2, .int a1)] [.ref (ad 0)] h11) (fun  h11 hd => ?_) (fun J10 hJ10 hd => ?_)
  · refine a_iconst (pc := 19) hG dX12_cause_19 (v := (nI 1)) rfl ?_
    refine a_goto (pc := 20) hG (tgt := 24) dX12_cause_20 (by decide) ?_
    exact AW.sub [0, 1, 2] rfl (hJ3 _ _ hd)
  refine a_if_eq (pc := 6) hG (tgt := 19) hd dX12_cause_6 (by decide) (fun hd => ?_) (fun hd => ?_)
  · exact AW.sub [0, 1, 2] rfl (hJ10  _ hd)
  refine a_iload_n (pc := 9) hG 2 rfl dX12_cause_9 rfl ?_
  refine a_iconst (pc := 10) hG dX12_cause_10 (v := (nI 0)) rfl ?_
  refine a_bipush (pc := 11) hG dX12_cause_11 (v := (nI 8)) rfl ?_
  refine a_csI (pc := 13) hG (As := [.int a1, .int (nI 0), .int (nI 8)]) (st := [.ref (ad 0)]) mk_X12_isIn t_1795 (by omega) (fun z hz => c_M_isIn a1 (nI 0) (nI 8) _  z hz) rfl (Nat.le_of_ble_eq_true rfl) hd dX12_cause_13 (fun r13 h12 hd => ?_)
  refine a_if_ne (pc := 16) hG (tgt := 23) hd dX12_cause_16 (by decide) (fun hd => ?_) (fun hd => ?_)
  · refine a_iconst (pc := 23) hG dX12_cause_23 (v := (nI 0)) rfl ?_
    exact AW.sub [0, 1, 2] rfl (hJ3 _ _ hd)
  exact AW.sub [0, 1, 2] rfl (hJ10  _ hd)
theorem dX12_part_0 : decode cX12_part 0 = .ok (.iload_n 0, 1) := by decide +kernel
theorem dX12_part_1 : decode cX12_part 1 = .ok (.istore_n 3, 1) := by decide +kernel
theorem dX12_part_2 : decode cX12_part 2 = .ok (.iload_n 1, 1) := by decide +kernel
theorem dX12_part_3 : decode cX12_part 3 = .ok (.istore 4, 2) := by decide +kernel
theorem dX12_part_5 : decode cX12_part 5 = .ok (.iload 4, 2) := by decide +kernel
theorem dX12_part_7 : decode cX12_part 7 = .ok (.ifCond .eq 19, 3) := by decide +kernel
theorem dX12_part_10 : decode cX12_part 10 = .ok (.iload_n 3, 1) := by decide +kernel
theorem dX12_part_11 : decode cX12_part 11 = .ok (.iload 4, 2) := by decide +kernel
theorem dX12_part_13 : decode cX12_part 13 = .ok (.irem, 1) := by decide +kernel
theorem dX12_part_14 : decode cX12_part 14 = .ok (.istore 5, 2) := by decide +kernel
theorem dX12_part_16 : decode cX12_part 16 = .ok (.iload 4, 2) := by decide +kernel
theorem dX12_part_18 : decode cX12_part 18 = .ok (.istore_n 3, 1) := by decide +kernel
theorem dX12_part_19 : decode cX12_part 19 = .ok (.iload 5, 2) := by decide +kernel
theorem dX12_part_21 : decode cX12_part 21 = .ok (.istore 4, 2) := by decide +kernel
theorem dX12_part_23 : decode cX12_part 23 = .ok (.goto (-18), 3) := by decide +kernel
theorem dX12_part_26 : decode cX12_part 26 = .ok (.iload_n 2, 1) := by decide +kernel
theorem dX12_part_27 : decode cX12_part 27 = .ok (.ifCond .ne 7, 3) := by decide +kernel
theorem dX12_part_30 : decode cX12_part 30 = .ok (.iload_n 0, 1) := by decide +kernel
theorem dX12_part_31 : decode cX12_part 31 = .ok (.goto 4, 3) := by decide +kernel
theorem dX12_part_34 : decode cX12_part 34 = .ok (.iload_n 1, 1) := by decide +kernel
theorem dX12_part_35 : decode cX12_part 35 = .ok (.iload_n 3, 1) := by decide +kernel
theorem dX12_part_36 : decode cX12_part 36 = .ok (.idiv, 1) := by decide +kernel
theorem dX12_part_37 : decode cX12_part 37 = .ok (.ireturn, 1) := by decide +kernel
set_option maxHeartbeats 4000000 in
theorem w_l_M_part_0 {ad wad : Nat → Nat} {Γ : Ctx} (F : Nat) {n : Nat} (hn : 1 ≤ n) (hG : Cx SHm ad wad cX12_part 6 RX12 (some .int) (n) Γ) {q : Int32 × HS} {x0 : Int32} {x1 : Int32} {x2 : Int32} {K0 : Int32 → HS → Option (Int32 × HS)} {g : Nat} {x3 : Int32} {x4 : Int32} {h : HS} (hd : l_M_part_0 F x0 x1 x2 K0 g x3 x4 h = some q) (hK0 : ∀ (y3 : Int32) (z : HS), K0 y3 z = some q → AW SHm ad 6 (some (.int q.1), q.2) Γ 26 [(0, .int x0), (1, .int x1), (2, .int x2), (3, .int y3)] [] z) : AW SHm ad 6 (some (.int q.1), q.2) Γ 5 [(0, .int x0), (1, .int x1), (2, .int x2), (3, .int x3), (4, .int x4)] [] h := by
  induction g generalizing x3 x4 h with
  | zero => unfold l_M_part_0 at hd; cases hd
  | succ g ih =>
    unfold l_M_part_0 at hd
    refine a_iload (pc := 5) hG 4 rfl dX12_part_5 ?_
    refine a_if_eq (pc := 7) hG (tgt := 26) hd dX12_part_7 (by decide) (fun hd => ?_) (fun hd => ?_)
    · exact AW.sub [0, 1, 2, 3] rfl (hK0 _ _ hd)
    refine a_iload_n (pc := 10) hG 3 rfl dX12_part_10 rfl ?_
    refine a_iload (pc := 11) hG 4 rfl dX12_part_11 ?_
    refine a_irem (pc := 13) hG hd dX12_part_13 (fun hd => ?_)
    refine a_istoreN (pc := 14) hG hd dX12_part_14 (by decide) (lf := fun x => [(5, .int x), (0, .int x0), (1, .int x1), (2, .int x2), (3, .int x3), (4, .int x4)]) (fun _ => rfl) (fun v3 hd => ?_)
    refine a_iload (pc := 16) hG 5 rfl dX12_part_16 ?_
    refine a_istore_nN (pc := 18) hG hd dX12_part_18 rfl (by decide) (lf := fun x => [(3, .int x), (5, .int v3), (0, .int x0), (1, .int x1), (2, .int x2), (4, .int x4)]) (fun _ => rfl) (fun v4 hd => ?_)
    refine a_iload (pc := 19) hG 1 rfl dX12_part_19 ?_
    refine a_istoreN (pc := 21) hG hd dX12_part_21 (by decide) (lf := fun x => [(4, .int x), (3, .int v4), (5, .int v3), (0, .int x0), (1, .int x1), (2, .int x2)]) (fun _ => rfl) (fun v5 hd => ?_)
    refine a_goto (pc := 23) hG (tgt := 5) dX12_part_23 (by decide) ?_
    exact AW.sub [3, 4, 5, 1, 0] rfl (ih hd)
set_option maxHeartbeats 4000000 in
theorem c_M_part {ad wad : Nat → Nat} (F : Nat) (a0 : Int32) (a1 : Int32) (a2 : Int32) (h : HS)  (q : Int32 × HS) (hd : f_M_part F a0 a1 a2 h = some q) : Ctr SHm ad wad yX12_part cX12_part 6 (some .int) 1 [.int a0, .int a1, .int a2] h (some (.int q.1), q.2) := by
  refine enter (own := RX12) (lv := [(0, .int a0), (1, .int a1), (2, .int a2)]) (by decide +kernel) rfl (Nat.le_of_ble_eq_true rfl) rfl (fun Γ hG => ?_)
  unfold f_M_part at hd
  refine a_iload_n (pc := 0) hG 0 rfl dX12_part_0 rfl ?_
  refine a_istore_nN (pc := 1) hG hd dX12_part_1 rfl (by decide) (lf := fun x => [(3, .int x), (0, .int a0), (1, .int a1), (2, .int a2)]) (fun _ => rfl) (fun v1 hd => ?_)
  refine a_iload_n (pc := 2) hG 2 rfl dX12_part_2 rfl ?_
  refine a_istoreN (pc := 3) hG hd dX12_part_3 (by decide) (lf := fun x => [(4, .int x), (3, .int v1), (0, .int a0), (1, .int a1), (2, .int a2)]) (fun _ => rfl) (fun v2 hd => ?_)
  refine AW.sub [2, 3, 4, 1, 0] rfl ?_
  refine w_l_M_part_0 F (by omega) hG hd (fun v6 h7 hd => ?_)
  refine a_iload_n (pc := 26) hG 2 rfl dX12_part_26 rfl ?_
  refine a_if_ne (pc := 27) hG (tgt := 34) hd dX12_part_27 (by decide) (fun hd => ?_) (fun hd => ?_)
  · refine a_iload_n (pc := 34) hG 1 rfl dX12_part_34 rfl ?_
    refine a_iload_n (pc := 35) hG 3 rfl dX12_part_35 rfl ?_
    refine a_idiv (pc := 36) hG hd dX12_part_36 (fun hd => ?_)
    exact a_iret (pc := 37) hG hd dX12_part_37
  refine a_iload_n (pc := 30) hG 0 rfl dX12_part_30 rfl ?_
  refine a_goto (pc := 31) hG (tgt := 35) dX12_part_31 (by decide) ?_
  refine a_iload_n (pc := 35) hG 3 rfl dX12_part_35 rfl ?_
  refine a_idiv (pc := 36) hG hd dX12_part_36 (fun hd => ?_)
  exact a_iret (pc := 37) hG hd dX12_part_37
theorem dX12_odds_0 : decode cX12_odds 0 = .ok (.aload_n 0, 1) := by decide +kernel
theorem dX12_odds_1 : decode cX12_odds 1 = .ok (.aload_n 0, 1) := by decide +kernel
theorem dX12_odds_2 : decode cX12_odds 2 = .ok (.iload_n 1, 1) := by decide +kernel
theorem dX12_odds_3 : decode cX12_odds 3 = .ok (.invokevirtual 255, 3) := by decide +kernel
theorem dX12_odds_6 : decode cX12_odds 6 = .ok (.ifCond .eq 12, 3) := by decide +kernel
theorem dX12_odds_9 : decode cX12_odds 9 = .ok (.iload_n 2, 1) := by decide +kernel
theorem dX12_odds_10 : decode cX12_odds 10 = .ok (.iconst 0, 1) := by decide +kernel
theorem dX12_odds_11 : decode cX12_odds 11 = .ok (.iconst 1, 1) := by decide +kernel
theorem dX12_odds_12 : decode cX12_odds 12 = .ok (.invokestatic 184, 3) := by decide +kernel
theorem dX12_odds_15 : decode cX12_odds 15 = .ok (.ifCond .ne 7, 3) := by decide +kernel
theorem dX12_odds_18 : decode cX12_odds 18 = .ok (.iconst 1, 1) := by decide +kernel
theorem dX12_odds_19 : decode cX12_odds 19 = .ok (.goto 4, 3) := by decide +kernel
theorem dX12_odds_22 : decode cX12_odds 22 = .ok (.iconst 0, 1) := by decide +kernel
theorem dX12_odds_23 : decode cX12_odds 23 = .ok (.invokevirtual 258, 3) := by decide +kernel
theorem dX12_odds_26 : decode cX12_odds 26 = .ok (.ifCond .eq 7, 3) := by decide +kernel
theorem dX12_odds_29 : decode cX12_odds 29 = .ok (.iconst 0, 1) := by decide +kernel
theorem dX12_odds_30 : decode cX12_odds 30 = .ok (.goto 19, 3) := by decide +kernel
theorem dX12_odds_33 : decode cX12_odds 33 = .ok (.aload_n 0, 1) := by decide +kernel
theorem dX12_odds_34 : decode cX12_odds 34 = .ok (.iload_n 1, 1) := by decide +kernel
theorem dX12_odds_35 : decode cX12_odds 35 = .ok (.iconst 0, 1) := by decide +kernel
theorem dX12_odds_36 : decode cX12_odds 36 = .ok (.invokevirtual 243, 3) := by decide +kernel
theorem dX12_odds_39 : decode cX12_odds 39 = .ok (.aload_n 0, 1) := by decide +kernel
theorem dX12_odds_40 : decode cX12_odds 40 = .ok (.iload_n 1, 1) := by decide +kernel
theorem dX12_odds_41 : decode cX12_odds 41 = .ok (.iconst 0, 1) := by decide +kernel
theorem dX12_odds_42 : decode cX12_odds 42 = .ok (.invokevirtual 246, 3) := by decide +kernel
theorem dX12_odds_45 : decode cX12_odds 45 = .ok (.iload_n 2, 1) := by decide +kernel
theorem dX12_odds_46 : decode cX12_odds 46 = .ok (.invokestatic 262, 3) := by decide +kernel
theorem dX12_odds_49 : decode cX12_odds 49 = .ok (.ireturn, 1) := by decide +kernel
set_option maxHeartbeats 4000000 in
theorem c_M_odds {ad wad : Nat → Nat} (F : Nat) (a0 : Int32) (a1 : Int32) (h : HS)  (q : Int32 × HS) (hd : f_M_odds F a0 a1 h = some q) : Ctr SHm ad wad yX12_odds cX12_odds 3 (some .int) 5 [.ref (ad 0), .int a0, .int a1] h (some (.int q.1), q.2) := by
  refine enter (own := RX12) (lv := [(0, .ref (ad 0)), (1, .int a0), (2, .int a1)]) (by decide +kernel) rfl (Nat.le_of_ble_eq_true rfl) rfl (fun Γ hG => ?_)
  unfold f_M_odds at hd
  refine a_aload_n (pc := 0) hG 0 rfl dX12_odds_0 rfl ?_
  refine a_aload_n (pc := 1) hG 0 rfl dX12_odds_1 rfl ?_
  refine a_iload_n (pc := 2) hG 1 rfl dX12_odds_2 rfl ?_
  refine a_cvI (pc := 3) hG (As := [.int a0]) (st := [.ref (ad 0)]) sm_0 cl_X12 mk_X12_isCause t_1830 (by omega) (fun z hz => c_M_isCause a0 _  z hz) rfl (Nat.le_of_ble_eq_true rfl) hd dX12_odds_3 (fun r2 h1 hd => ?_)
  refine a_join hd (Q := fun J : Int32 → HS → Option (Int32 × HS) => ∀ (v4 : Int32) (h5 : HS), J v4 h5 = some q → AW SHm ad 3 (some (.int q.1), q.2) Γ 23 [(0, .ref (ad 0)), (1, .int a0), (2, .int a1)] [.int v4, .ref (ad 0)] h5) (fun v4 h5 hd => ?_) (fun J3 hJ3 hd => ?_)
  · refine a_cvI (pc := 23) hG (As := [.int v4]) (st := []) sm_0 cl_X12 mk_X12_throwsIf t_1834 (by omega) (fun z hz => c_M_throwsIf v4 _  z hz) rfl (Nat.le_of_ble_eq_true rfl) hd dX12_odds_23 (fun r7 h6 hd => ?_)
    refine a_if_eq (pc := 26) hG (tgt := 33) hd dX12_odds_26 (by decide) (fun hd => ?_) (fun hd => ?_)
    · refine a_aload_n (pc := 33) hG 0 rfl dX12_odds_33 rfl ?_
      refine a_iload_n (pc := 34) hG 1 rfl dX12_odds_34 rfl ?_
      refine a_iconst (pc := 35) hG dX12_odds_35 (v := (nI 0)) rfl ?_
      refine a_cvI (pc := 36) hG (As := [.int a0, .int (nI 0)]) (st := []) sm_0 cl_X12 mk_X12_forOf t_1842 (by omega) (fun z hz => c_M_forOf F a0 (nI 0) _  z hz) rfl (Nat.le_of_ble_eq_true rfl) hd dX12_odds_36 (fun r9 h8 hd => ?_)
      refine a_aload_n (pc := 39) hG 0 rfl dX12_odds_39 rfl ?_
      refine a_iload_n (pc := 40) hG 1 rfl dX12_odds_40 rfl ?_
      refine a_iconst (pc := 41) hG dX12_odds_41 (v := (nI 0)) rfl ?_
      refine a_cvI (pc := 42) hG (As := [.int a0, .int (nI 0)]) (st := [.int r9]) sm_0 cl_X12 mk_X12_allOf t_1850 (by omega) (fun z hz => c_M_allOf F a0 (nI 0) _  z hz) rfl (Nat.le_of_ble_eq_true rfl) hd dX12_odds_42 (fun r11 h10 hd => ?_)
      refine a_iload_n (pc := 45) hG 2 rfl dX12_odds_45 rfl ?_
      refine a_csI (pc := 46) hG (As := [.int r9, .int r11, .int a1]) (st := []) mk_X12_part t_1858 (by omega) (fun z hz => c_M_part F r9 r11 a1 _  z hz) rfl (Nat.le_of_ble_eq_true rfl) hd dX12_odds_46 (fun r13 h12 hd => ?_)
      exact a_iret (pc := 49) hG hd dX12_odds_49
    refine a_iconst (pc := 29) hG dX12_odds_29 (v := (nI 0)) rfl ?_
    refine a_goto (pc := 30) hG (tgt := 49) dX12_odds_30 (by decide) ?_
    exact a_iret (pc := 49) hG hd dX12_odds_49
  refine a_join hd (Q := fun J : HS → Option (Int32 × HS) => ∀  (h15 : HS), J  h15 = some q → AW SHm ad 3 (some (.int q.1), q.2) Γ 18 [(0, .ref (ad 0)), (1, .int a0), (2, .int a1)] [.ref (ad 0)] h15) (fun  h15 hd => ?_) (fun J14 hJ14 hd => ?_)
  · refine a_iconst (pc := 18) hG dX12_odds_18 (v := (nI 1)) rfl ?_
    refine a_goto (pc := 19) hG (tgt := 23) dX12_odds_19 (by decide) ?_
    exact AW.sub [0, 1, 2] rfl (hJ3 _ _ hd)
  refine a_if_eq (pc := 6) hG (tgt := 18) hd dX12_odds_6 (by decide) (fun hd => ?_) (fun hd => ?_)
  · exact AW.sub [0, 1, 2] rfl (hJ14  _ hd)
  refine a_iload_n (pc := 9) hG 2 rfl dX12_odds_9 rfl ?_
  refine a_iconst (pc := 10) hG dX12_odds_10 (v := (nI 0)) rfl ?_
  refine a_iconst (pc := 11) hG dX12_odds_11 (v := (nI 1)) rfl ?_
  refine a_csI (pc := 12) hG (As := [.int a1, .int (nI 0), .int (nI 1)]) (st := [.ref (ad 0)]) mk_X12_isIn t_1795 (by omega) (fun z hz => c_M_isIn a1 (nI 0) (nI 1) _  z hz) rfl (Nat.le_of_ble_eq_true rfl) hd dX12_odds_12 (fun r17 h16 hd => ?_)
  refine a_if_ne (pc := 15) hG (tgt := 22) hd dX12_odds_15 (by decide) (fun hd => ?_) (fun hd => ?_)
  · refine a_iconst (pc := 22) hG dX12_odds_22 (v := (nI 0)) rfl ?_
    exact AW.sub [0, 1, 2] rfl (hJ3 _ _ hd)
  exact AW.sub [0, 1, 2] rfl (hJ14  _ hd)
theorem dX12_isDeed_0 : decode cX12_isDeed 0 = .ok (.iload_n 1, 1) := by decide +kernel
theorem dX12_isDeed_1 : decode cX12_isDeed 1 = .ok (.iconst 0, 1) := by decide +kernel
theorem dX12_isDeed_2 : decode cX12_isDeed 2 = .ok (.aload_n 0, 1) := by decide +kernel
theorem dX12_isDeed_3 : decode cX12_isDeed 3 = .ok (.getfield 33, 3) := by decide +kernel
theorem dX12_isDeed_6 : decode cX12_isDeed 6 = .ok (.iconst 1, 1) := by decide +kernel
theorem dX12_isDeed_7 : decode cX12_isDeed 7 = .ok (.iaload, 1) := by decide +kernel
theorem dX12_isDeed_8 : decode cX12_isDeed 8 = .ok (.iconst 1, 1) := by decide +kernel
theorem dX12_isDeed_9 : decode cX12_isDeed 9 = .ok (.isub, 1) := by decide +kernel
theorem dX12_isDeed_10 : decode cX12_isDeed 10 = .ok (.invokestatic 184, 3) := by decide +kernel
theorem dX12_isDeed_13 : decode cX12_isDeed 13 = .ok (.ireturn, 1) := by decide +kernel
set_option maxHeartbeats 4000000 in
theorem c_M_isDeed {ad wad : Nat → Nat} (a0 : Int32) (h : HS)  (q : Int32 × HS) (hd : f_M_isDeed a0 h = some q) : Ctr SHm ad wad yX12_isDeed cX12_isDeed 2 (some .boolean) 2 [.ref (ad 0), .int a0] h (some (.int q.1), q.2) := by
  refine enter (own := RX12) (lv := [(0, .ref (ad 0)), (1, .int a0)]) (by decide +kernel) rfl (Nat.le_of_ble_eq_true rfl) rfl (fun Γ hG => ?_)
  unfold f_M_isDeed at hd
  refine a_iload_n (pc := 0) hG 1 rfl dX12_isDeed_0 rfl ?_
  refine a_iconst (pc := 1) hG dX12_isDeed_1 (v := (nI 0)) rfl ?_
  refine a_aload_n (pc := 2) hG 0 rfl dX12_isDeed_2 rfl ?_
  refine a_getR (pc := 3) hG sm_0 cl_X12 ok_X12 6 (by decide) rfl t_1615 dX12_isDeed_3 ?_
  refine a_iconst (pc := 6) hG dX12_isDeed_6 (v := (nI 1)) rfl ?_
  refine a_iald (pc := 7) hG sm_2 hd dX12_isDeed_7 (fun hd => ?_)
  refine a_iconst (pc := 8) hG dX12_isDeed_8 (v := (nI 1)) rfl ?_
  refine a_isub (pc := 9) hG dX12_isDeed_9 ?_
  refine a_csI (pc := 10) hG (As := [.int a0, .int (nI 0), .int ((h.1 2 (nI 1).toNatClampNeg) - (nI 1))]) (st := []) mk_X12_isIn t_1795 (by omega) (fun z hz => c_M_isIn a0 (nI 0) ((h.1 2 (nI 1).toNatClampNeg) - (nI 1)) _  z hz) rfl (Nat.le_of_ble_eq_true rfl) hd dX12_isDeed_10 (fun r2 h1 hd => ?_)
  exact a_zret (pc := 13) hG hd dX12_isDeed_13
theorem dX12_deed_0 : decode cX12_deed 0 = .ok (.aload_n 0, 1) := by decide +kernel
theorem dX12_deed_1 : decode cX12_deed 1 = .ok (.iconst 0, 1) := by decide +kernel
theorem dX12_deed_2 : decode cX12_deed 2 = .ok (.putfield 1, 3) := by decide +kernel
theorem dX12_deed_5 : decode cX12_deed 5 = .ok (.aload_n 0, 1) := by decide +kernel
theorem dX12_deed_6 : decode cX12_deed 6 = .ok (.iload_n 1, 1) := by decide +kernel
theorem dX12_deed_7 : decode cX12_deed 7 = .ok (.invokevirtual 266, 3) := by decide +kernel
theorem dX12_deed_10 : decode cX12_deed 10 = .ok (.ifCond .ne 5, 3) := by decide +kernel
theorem dX12_deed_13 : decode cX12_deed 13 = .ok (.iconst (-1), 1) := by decide +kernel
theorem dX12_deed_14 : decode cX12_deed 14 = .ok (.ireturn, 1) := by decide +kernel
theorem dX12_deed_15 : decode cX12_deed 15 = .ok (.iload_n 2, 1) := by decide +kernel
theorem dX12_deed_16 : decode cX12_deed 16 = .ok (.ifCond .ne 15, 3) := by decide +kernel
theorem dX12_deed_19 : decode cX12_deed 19 = .ok (.aload_n 0, 1) := by decide +kernel
theorem dX12_deed_20 : decode cX12_deed 20 = .ok (.getfield 33, 3) := by decide +kernel
theorem dX12_deed_23 : decode cX12_deed 23 = .ok (.bipush 49, 2) := by decide +kernel
theorem dX12_deed_25 : decode cX12_deed 25 = .ok (.iload_n 1, 1) := by decide +kernel
theorem dX12_deed_26 : decode cX12_deed 26 = .ok (.iadd, 1) := by decide +kernel
theorem dX12_deed_27 : decode cX12_deed 27 = .ok (.iaload, 1) := by decide +kernel
theorem dX12_deed_28 : decode cX12_deed 28 = .ok (.goto 38, 3) := by decide +kernel
theorem dX12_deed_31 : decode cX12_deed 31 = .ok (.iload_n 2, 1) := by decide +kernel
theorem dX12_deed_32 : decode cX12_deed 32 = .ok (.iconst 1, 1) := by decide +kernel
theorem dX12_deed_33 : decode cX12_deed 33 = .ok (.if_icmp .ne 15, 3) := by decide +kernel
theorem dX12_deed_36 : decode cX12_deed 36 = .ok (.aload_n 0, 1) := by decide +kernel
theorem dX12_deed_37 : decode cX12_deed 37 = .ok (.getfield 33, 3) := by decide +kernel
theorem dX12_deed_40 : decode cX12_deed 40 = .ok (.bipush 55, 2) := by decide +kernel
theorem dX12_deed_42 : decode cX12_deed 42 = .ok (.iload_n 1, 1) := by decide +kernel
theorem dX12_deed_43 : decode cX12_deed 43 = .ok (.iadd, 1) := by decide +kernel
theorem dX12_deed_44 : decode cX12_deed 44 = .ok (.iaload, 1) := by decide +kernel
theorem dX12_deed_45 : decode cX12_deed 45 = .ok (.goto 21, 3) := by decide +kernel
theorem dX12_deed_48 : decode cX12_deed 48 = .ok (.iload_n 2, 1) := by decide +kernel
theorem dX12_deed_49 : decode cX12_deed 49 = .ok (.iconst 2, 1) := by decide +kernel
theorem dX12_deed_50 : decode cX12_deed 50 = .ok (.if_icmp .ne 15, 3) := by decide +kernel
theorem dX12_deed_53 : decode cX12_deed 53 = .ok (.aload_n 0, 1) := by decide +kernel
theorem dX12_deed_54 : decode cX12_deed 54 = .ok (.getfield 33, 3) := by decide +kernel
theorem dX12_deed_57 : decode cX12_deed 57 = .ok (.bipush 61, 2) := by decide +kernel
theorem dX12_deed_59 : decode cX12_deed 59 = .ok (.iload_n 1, 1) := by decide +kernel
theorem dX12_deed_60 : decode cX12_deed 60 = .ok (.iadd, 1) := by decide +kernel
theorem dX12_deed_61 : decode cX12_deed 61 = .ok (.iaload, 1) := by decide +kernel
theorem dX12_deed_62 : decode cX12_deed 62 = .ok (.goto 4, 3) := by decide +kernel
theorem dX12_deed_65 : decode cX12_deed 65 = .ok (.iconst (-1), 1) := by decide +kernel
theorem dX12_deed_66 : decode cX12_deed 66 = .ok (.ireturn, 1) := by decide +kernel
set_option maxHeartbeats 4000000 in
theorem c_M_deed {ad wad : Nat → Nat} (a0 : Int32) (a1 : Int32) (h : HS)  (q : Int32 × HS) (hd : f_M_deed a0 a1 h = some q) : Ctr SHm ad wad yX12_deed cX12_deed 3 (some .int) 3 [.ref (ad 0), .int a0, .int a1] h (some (.int q.1), q.2) := by
  refine enter (own := RX12) (lv := [(0, .ref (ad 0)), (1, .int a0), (2, .int a1)]) (by decide +kernel) rfl (Nat.le_of_ble_eq_true rfl) rfl (fun Γ hG => ?_)
  unfold f_M_deed at hd
  refine a_aload_n (pc := 0) hG 0 rfl dX12_deed_0 rfl ?_
  refine a_iconst (pc := 1) hG dX12_deed_1 (v := (nI 0)) rfl ?_
  refine a_putI (pc := 2) hG sm_0 cl_X12 ok_X12 0 (by decide) rfl t_1609 rfl (ty := .int) rfl rfl rfl hd dX12_deed_2 (fun h1 hd => ?_)
  refine a_aload_n (pc := 5) hG 0 rfl dX12_deed_5 rfl ?_
  refine a_iload_n (pc := 6) hG 1 rfl dX12_deed_6 rfl ?_
  refine a_cvI (pc := 7) hG (As := [.int a0]) (st := []) sm_0 cl_X12 mk_X12_isDeed t_1865 (by omega) (fun z hz => c_M_isDeed a0 _  z hz) rfl (Nat.le_of_ble_eq_true rfl) hd dX12_deed_7 (fun r3 h2 hd => ?_)
  refine a_if_ne (pc := 10) hG (tgt := 15) hd dX12_deed_10 (by decide) (fun hd => ?_) (fun hd => ?_)
  · refine a_iload_n (pc := 15) hG 2 rfl dX12_deed_15 rfl ?_
    refine a_if_ne (pc := 16) hG (tgt := 31) hd dX12_deed_16 (by decide) (fun hd => ?_) (fun hd => ?_)
    · refine a_iload_n (pc := 31) hG 2 rfl dX12_deed_31 rfl ?_
      refine a_iconst (pc := 32) hG dX12_deed_32 (v := (nI 1)) rfl ?_
      refine a_ic_ne (pc := 33) hG (tgt := 48) hd dX12_deed_33 (by decide) (fun hd => ?_) (fun hd => ?_)
      · refine a_iload_n (pc := 48) hG 2 rfl dX12_deed_48 rfl ?_
        refine a_iconst (pc := 49) hG dX12_deed_49 (v := (nI 2)) rfl ?_
        refine a_ic_ne (pc := 50) hG (tgt := 65) hd dX12_deed_50 (by decide) (fun hd => ?_) (fun hd => ?_)
        · refine a_iconst (pc := 65) hG dX12_deed_65 (v := (-1 : Int32)) rfl ?_
          exact a_iret (pc := 66) hG hd dX12_deed_66
        refine a_aload_n (pc := 53) hG 0 rfl dX12_deed_53 rfl ?_
        refine a_getR (pc := 54) hG sm_0 cl_X12 ok_X12 6 (by decide) rfl t_1615 dX12_deed_54 ?_
        refine a_bipush (pc := 57) hG dX12_deed_57 (v := (nI 61)) rfl ?_
        refine a_iload_n (pc := 59) hG 1 rfl dX12_deed_59 rfl ?_
        refine a_iadd (pc := 60) hG dX12_deed_60 ?_
        refine a_iald (pc := 61) hG sm_2 hd dX12_deed_61 (fun hd => ?_)
        refine a_goto (pc := 62) hG (tgt := 66) dX12_deed_62 (by decide) ?_
        exact a_iret (pc := 66) hG hd dX12_deed_66
      refine a_aload_n (pc := 36) hG 0 rfl dX12_deed_36 rfl ?_
      refine a_getR (pc := 37) hG sm_0 cl_X12 ok_X12 6 (by decide) rfl t_1615 dX12_deed_37 ?_
      refine a_bipush (pc := 40) hG dX12_deed_40 (v := (nI 55)) rfl ?_
      refine a_iload_n (pc := 42) hG 1 rfl dX12_deed_42 rfl ?_
      refine a_iadd (pc := 43) hG dX12_deed_43 ?_
      refine a_iald (pc := 44) hG sm_2 hd dX12_deed_44 (fun hd => ?_)
      refine a_goto (pc := 45) hG (tgt := 66) dX12_deed_45 (by decide) ?_
      exact a_iret (pc := 66) hG hd dX12_deed_66
    refine a_aload_n (pc := 19) hG 0 rfl dX12_deed_19 rfl ?_
    refine a_getR (pc := 20) hG sm_0 cl_X12 ok_X12 6 (by decide) rfl t_1615 dX12_deed_20 ?_
    refine a_bipush (pc := 23) hG dX12_deed_23 (v := (nI 49)) rfl ?_
    refine a_iload_n (pc := 25) hG 1 rfl dX12_deed_25 rfl ?_
    refine a_iadd (pc := 26) hG dX12_deed_26 ?_
    refine a_iald (pc := 27) hG sm_2 hd dX12_deed_27 (fun hd => ?_)
    refine a_goto (pc := 28) hG (tgt := 66) dX12_deed_28 (by decide) ?_
    exact a_iret (pc := 66) hG hd dX12_deed_66
  refine a_iconst (pc := 13) hG dX12_deed_13 (v := (-1 : Int32)) rfl ?_
  exact a_iret (pc := 14) hG hd dX12_deed_14
theorem dX12_isClerk_0 : decode cX12_isClerk 0 = .ok (.iload_n 1, 1) := by decide +kernel
theorem dX12_isClerk_1 : decode cX12_isClerk 1 = .ok (.iconst 0, 1) := by decide +kernel
theorem dX12_isClerk_2 : decode cX12_isClerk 2 = .ok (.aload_n 0, 1) := by decide +kernel
theorem dX12_isClerk_3 : decode cX12_isClerk 3 = .ok (.getfield 33, 3) := by decide +kernel
theorem dX12_isClerk_6 : decode cX12_isClerk 6 = .ok (.iconst 2, 1) := by decide +kernel
theorem dX12_isClerk_7 : decode cX12_isClerk 7 = .ok (.iaload, 1) := by decide +kernel
theorem dX12_isClerk_8 : decode cX12_isClerk 8 = .ok (.iconst 1, 1) := by decide +kernel
theorem dX12_isClerk_9 : decode cX12_isClerk 9 = .ok (.isub, 1) := by decide +kernel
theorem dX12_isClerk_10 : decode cX12_isClerk 10 = .ok (.invokestatic 184, 3) := by decide +kernel
theorem dX12_isClerk_13 : decode cX12_isClerk 13 = .ok (.ireturn, 1) := by decide +kernel
set_option maxHeartbeats 4000000 in
theorem c_M_isClerk {ad wad : Nat → Nat} (a0 : Int32) (h : HS)  (q : Int32 × HS) (hd : f_M_isClerk a0 h = some q) : Ctr SHm ad wad yX12_isClerk cX12_isClerk 2 (some .boolean) 2 [.ref (ad 0), .int a0] h (some (.int q.1), q.2) := by
  refine enter (own := RX12) (lv := [(0, .ref (ad 0)), (1, .int a0)]) (by decide +kernel) rfl (Nat.le_of_ble_eq_true rfl) rfl (fun Γ hG => ?_)
  unfold f_M_isClerk at hd
  refine a_iload_n (pc := 0) hG 1 rfl dX12_isClerk_0 rfl ?_
  refine a_iconst (pc := 1) hG dX12_isClerk_1 (v := (nI 0)) rfl ?_
  refine a_aload_n (pc := 2) hG 0 rfl dX12_isClerk_2 rfl ?_
  refine a_getR (pc := 3) hG sm_0 cl_X12 ok_X12 6 (by decide) rfl t_1615 dX12_isClerk_3 ?_
  refine a_iconst (pc := 6) hG dX12_isClerk_6 (v := (nI 2)) rfl ?_
  refine a_iald (pc := 7) hG sm_2 hd dX12_isClerk_7 (fun hd => ?_)
  refine a_iconst (pc := 8) hG dX12_isClerk_8 (v := (nI 1)) rfl ?_
  refine a_isub (pc := 9) hG dX12_isClerk_9 ?_
  refine a_csI (pc := 10) hG (As := [.int a0, .int (nI 0), .int ((h.1 2 (nI 2).toNatClampNeg) - (nI 1))]) (st := []) mk_X12_isIn t_1795 (by omega) (fun z hz => c_M_isIn a0 (nI 0) ((h.1 2 (nI 2).toNatClampNeg) - (nI 1)) _  z hz) rfl (Nat.le_of_ble_eq_true rfl) hd dX12_isClerk_10 (fun r2 h1 hd => ?_)
  exact a_zret (pc := 13) hG hd dX12_isClerk_13
theorem dX12_clerk_0 : decode cX12_clerk 0 = .ok (.aload_n 0, 1) := by decide +kernel
theorem dX12_clerk_1 : decode cX12_clerk 1 = .ok (.iconst 0, 1) := by decide +kernel
theorem dX12_clerk_2 : decode cX12_clerk 2 = .ok (.putfield 1, 3) := by decide +kernel
theorem dX12_clerk_5 : decode cX12_clerk 5 = .ok (.aload_n 0, 1) := by decide +kernel
theorem dX12_clerk_6 : decode cX12_clerk 6 = .ok (.iload_n 1, 1) := by decide +kernel
theorem dX12_clerk_7 : decode cX12_clerk 7 = .ok (.invokevirtual 269, 3) := by decide +kernel
theorem dX12_clerk_10 : decode cX12_clerk 10 = .ok (.ifCond .ne 5, 3) := by decide +kernel
theorem dX12_clerk_13 : decode cX12_clerk 13 = .ok (.iconst (-1), 1) := by decide +kernel
theorem dX12_clerk_14 : decode cX12_clerk 14 = .ok (.ireturn, 1) := by decide +kernel
theorem dX12_clerk_15 : decode cX12_clerk 15 = .ok (.iload_n 2, 1) := by decide +kernel
theorem dX12_clerk_16 : decode cX12_clerk 16 = .ok (.tableswitch 106 0 5 #[40, 50, 60, 73, 84, 95], 40) := by decide +kernel
theorem dX12_clerk_56 : decode cX12_clerk 56 = .ok (.aload_n 0, 1) := by decide +kernel
theorem dX12_clerk_57 : decode cX12_clerk 57 = .ok (.getfield 33, 3) := by decide +kernel
theorem dX12_clerk_60 : decode cX12_clerk 60 = .ok (.bipush 126, 2) := by decide +kernel
theorem dX12_clerk_62 : decode cX12_clerk 62 = .ok (.iload_n 1, 1) := by decide +kernel
theorem dX12_clerk_63 : decode cX12_clerk 63 = .ok (.iadd, 1) := by decide +kernel
theorem dX12_clerk_64 : decode cX12_clerk 64 = .ok (.iaload, 1) := by decide +kernel
theorem dX12_clerk_65 : decode cX12_clerk 65 = .ok (.ireturn, 1) := by decide +kernel
theorem dX12_clerk_66 : decode cX12_clerk 66 = .ok (.aload_n 0, 1) := by decide +kernel
theorem dX12_clerk_67 : decode cX12_clerk 67 = .ok (.getfield 33, 3) := by decide +kernel
theorem dX12_clerk_70 : decode cX12_clerk 70 = .ok (.bipush 67, 2) := by decide +kernel
theorem dX12_clerk_72 : decode cX12_clerk 72 = .ok (.iload_n 1, 1) := by decide +kernel
theorem dX12_clerk_73 : decode cX12_clerk 73 = .ok (.iadd, 1) := by decide +kernel
theorem dX12_clerk_74 : decode cX12_clerk 74 = .ok (.iaload, 1) := by decide +kernel
theorem dX12_clerk_75 : decode cX12_clerk 75 = .ok (.ireturn, 1) := by decide +kernel
theorem dX12_clerk_76 : decode cX12_clerk 76 = .ok (.aload_n 0, 1) := by decide +kernel
theorem dX12_clerk_77 : decode cX12_clerk 77 = .ok (.getfield 33, 3) := by decide +kernel
theorem dX12_clerk_80 : decode cX12_clerk 80 = .ok (.sipush 131, 3) := by decide +kernel
theorem dX12_clerk_83 : decode cX12_clerk 83 = .ok (.iload_n 1, 1) := by decide +kernel
theorem dX12_clerk_84 : decode cX12_clerk 84 = .ok (.iadd, 1) := by decide +kernel
theorem dX12_clerk_85 : decode cX12_clerk 85 = .ok (.iaload, 1) := by decide +kernel
theorem dX12_clerk_86 : decode cX12_clerk 86 = .ok (.iconst 1, 1) := by decide +kernel
theorem dX12_clerk_87 : decode cX12_clerk 87 = .ok (.isub, 1) := by decide +kernel
theorem dX12_clerk_88 : decode cX12_clerk 88 = .ok (.ireturn, 1) := by decide +kernel
theorem dX12_clerk_89 : decode cX12_clerk 89 = .ok (.aload_n 0, 1) := by decide +kernel
theorem dX12_clerk_90 : decode cX12_clerk 90 = .ok (.getfield 33, 3) := by decide +kernel
theorem dX12_clerk_93 : decode cX12_clerk 93 = .ok (.sipush 136, 3) := by decide +kernel
theorem dX12_clerk_96 : decode cX12_clerk 96 = .ok (.iload_n 1, 1) := by decide +kernel
theorem dX12_clerk_97 : decode cX12_clerk 97 = .ok (.iadd, 1) := by decide +kernel
theorem dX12_clerk_98 : decode cX12_clerk 98 = .ok (.iaload, 1) := by decide +kernel
theorem dX12_clerk_99 : decode cX12_clerk 99 = .ok (.ireturn, 1) := by decide +kernel
theorem dX12_clerk_100 : decode cX12_clerk 100 = .ok (.aload_n 0, 1) := by decide +kernel
theorem dX12_clerk_101 : decode cX12_clerk 101 = .ok (.getfield 33, 3) := by decide +kernel
theorem dX12_clerk_104 : decode cX12_clerk 104 = .ok (.sipush 141, 3) := by decide +kernel
theorem dX12_clerk_107 : decode cX12_clerk 107 = .ok (.iload_n 1, 1) := by decide +kernel
theorem dX12_clerk_108 : decode cX12_clerk 108 = .ok (.iadd, 1) := by decide +kernel
theorem dX12_clerk_109 : decode cX12_clerk 109 = .ok (.iaload, 1) := by decide +kernel
theorem dX12_clerk_110 : decode cX12_clerk 110 = .ok (.ireturn, 1) := by decide +kernel
theorem dX12_clerk_111 : decode cX12_clerk 111 = .ok (.aload_n 0, 1) := by decide +kernel
theorem dX12_clerk_112 : decode cX12_clerk 112 = .ok (.getfield 33, 3) := by decide +kernel
theorem dX12_clerk_115 : decode cX12_clerk 115 = .ok (.sipush 146, 3) := by decide +kernel
theorem dX12_clerk_118 : decode cX12_clerk 118 = .ok (.iload_n 1, 1) := by decide +kernel
theorem dX12_clerk_119 : decode cX12_clerk 119 = .ok (.iadd, 1) := by decide +kernel
theorem dX12_clerk_120 : decode cX12_clerk 120 = .ok (.iaload, 1) := by decide +kernel
theorem dX12_clerk_121 : decode cX12_clerk 121 = .ok (.ireturn, 1) := by decide +kernel
theorem dX12_clerk_122 : decode cX12_clerk 122 = .ok (.iconst (-1), 1) := by decide +kernel
theorem dX12_clerk_123 : decode cX12_clerk 123 = .ok (.ireturn, 1) := by decide +kernel
set_option maxHeartbeats 4000000 in
theorem c_M_clerk {ad wad : Nat → Nat} (a0 : Int32) (a1 : Int32) (h : HS)  (q : Int32 × HS) (hd : f_M_clerk a0 a1 h = some q) : Ctr SHm ad wad yX12_clerk cX12_clerk 3 (some .int) 3 [.ref (ad 0), .int a0, .int a1] h (some (.int q.1), q.2) := by
  refine enter (own := RX12) (lv := [(0, .ref (ad 0)), (1, .int a0), (2, .int a1)]) (by decide +kernel) rfl (Nat.le_of_ble_eq_true rfl) rfl (fun Γ hG => ?_)
  unfold f_M_clerk at hd
  refine a_aload_n (pc := 0) hG 0 rfl dX12_clerk_0 rfl ?_
  refine a_iconst (pc := 1) hG dX12_clerk_1 (v := (nI 0)) rfl ?_
  refine a_putI (pc := 2) hG sm_0 cl_X12 ok_X12 0 (by decide) rfl t_1609 rfl (ty := .int) rfl rfl rfl hd dX12_clerk_2 (fun h1 hd => ?_)
  refine a_aload_n (pc := 5) hG 0 rfl dX12_clerk_5 rfl ?_
  refine a_iload_n (pc := 6) hG 1 rfl dX12_clerk_6 rfl ?_
  refine a_cvI (pc := 7) hG (As := [.int a0]) (st := []) sm_0 cl_X12 mk_X12_isClerk t_1873 (by omega) (fun z hz => c_M_isClerk a0 _  z hz) rfl (Nat.le_of_ble_eq_true rfl) hd dX12_clerk_7 (fun r3 h2 hd => ?_)
  refine a_if_ne (pc := 10) hG (tgt := 15) hd dX12_clerk_10 (by decide) (fun hd => ?_) (fun hd => ?_)
  · refine a_iload_n (pc := 15) hG 2 rfl dX12_clerk_15 rfl ?_
    refine a_tcase (pc := 16) hG ((nI 0)) (tgt := 56) hd dX12_clerk_16 (by decide) (by decide) rfl (by decide) (fun hd => ?_) (fun n0 hd => ?_)
    · refine a_aload_n (pc := 56) hG 0 rfl dX12_clerk_56 rfl ?_
      refine a_getR (pc := 57) hG sm_0 cl_X12 ok_X12 6 (by decide) rfl t_1615 dX12_clerk_57 ?_
      refine a_bipush (pc := 60) hG dX12_clerk_60 (v := (nI 126)) rfl ?_
      refine a_iload_n (pc := 62) hG 1 rfl dX12_clerk_62 rfl ?_
      refine a_iadd (pc := 63) hG dX12_clerk_63 ?_
      refine a_iald (pc := 64) hG sm_2 hd dX12_clerk_64 (fun hd => ?_)
      exact a_iret (pc := 65) hG hd dX12_clerk_65
    refine a_tcase (pc := 16) hG ((nI 1)) (tgt := 66) hd dX12_clerk_16 (by decide) (by decide) rfl (by decide) (fun hd => ?_) (fun n1 hd => ?_)
    · refine a_aload_n (pc := 66) hG 0 rfl dX12_clerk_66 rfl ?_
      refine a_getR (pc := 67) hG sm_0 cl_X12 ok_X12 6 (by decide) rfl t_1615 dX12_clerk_67 ?_
      refine a_bipush (pc := 70) hG dX12_clerk_70 (v := (nI 67)) rfl ?_
      refine a_iload_n (pc := 72) hG 1 rfl dX12_clerk_72 rfl ?_
      refine a_iadd (pc := 73) hG dX12_clerk_73 ?_
      refine a_iald (pc := 74) hG sm_2 hd dX12_clerk_74 (fun hd => ?_)
      exact a_iret (pc := 75) hG hd dX12_clerk_75
    refine a_tcase (pc := 16) hG ((nI 2)) (tgt := 76) hd dX12_clerk_16 (by decide) (by decide) rfl (by decide) (fun hd => ?_) (fun n2 hd => ?_)
    · refine a_aload_n (pc := 76) hG 0 rfl dX12_clerk_76 rfl ?_
      refine a_getR (pc := 77) hG sm_0 cl_X12 ok_X12 6 (by decide) rfl t_1615 dX12_clerk_77 ?_
      refine a_sipush (pc := 80) hG dX12_clerk_80 (v := (nI 131)) rfl ?_
      refine a_iload_n (pc := 83) hG 1 rfl dX12_clerk_83 rfl ?_
      refine a_iadd (pc := 84) hG dX12_clerk_84 ?_
      refine a_iald (pc := 85) hG sm_2 hd dX12_clerk_85 (fun hd => ?_)
      refine a_iconst (pc := 86) hG dX12_clerk_86 (v := (nI 1)) rfl ?_
      refine a_isub (pc := 87) hG dX12_clerk_87 ?_
      exact a_iret (pc := 88) hG hd dX12_clerk_88
    refine a_tcase (pc := 16) hG ((nI 3)) (tgt := 89) hd dX12_clerk_16 (by decide) (by decide) rfl (by decide) (fun hd => ?_) (fun n3 hd => ?_)
    · refine a_aload_n (pc := 89) hG 0 rfl dX12_clerk_89 rfl ?_
      refine a_getR (pc := 90) hG sm_0 cl_X12 ok_X12 6 (by decide) rfl t_1615 dX12_clerk_90 ?_
      refine a_sipush (pc := 93) hG dX12_clerk_93 (v := (nI 136)) rfl ?_
      refine a_iload_n (pc := 96) hG 1 rfl dX12_clerk_96 rfl ?_
      refine a_iadd (pc := 97) hG dX12_clerk_97 ?_
      refine a_iald (pc := 98) hG sm_2 hd dX12_clerk_98 (fun hd => ?_)
      exact a_iret (pc := 99) hG hd dX12_clerk_99
    refine a_tcase (pc := 16) hG ((nI 4)) (tgt := 100) hd dX12_clerk_16 (by decide) (by decide) rfl (by decide) (fun hd => ?_) (fun n4 hd => ?_)
    · refine a_aload_n (pc := 100) hG 0 rfl dX12_clerk_100 rfl ?_
      refine a_getR (pc := 101) hG sm_0 cl_X12 ok_X12 6 (by decide) rfl t_1615 dX12_clerk_101 ?_
      refine a_sipush (pc := 104) hG dX12_clerk_104 (v := (nI 141)) rfl ?_
      refine a_iload_n (pc := 107) hG 1 rfl dX12_clerk_107 rfl ?_
      refine a_iadd (pc := 108) hG dX12_clerk_108 ?_
      refine a_iald (pc := 109) hG sm_2 hd dX12_clerk_109 (fun hd => ?_)
      exact a_iret (pc := 110) hG hd dX12_clerk_110
    refine a_tcase (pc := 16) hG ((nI 5)) (tgt := 111) hd dX12_clerk_16 (by decide) (by decide) rfl (by decide) (fun hd => ?_) (fun n5 hd => ?_)
    · refine a_aload_n (pc := 111) hG 0 rfl dX12_clerk_111 rfl ?_
      refine a_getR (pc := 112) hG sm_0 cl_X12 ok_X12 6 (by decide) rfl t_1615 dX12_clerk_112 ?_
      refine a_sipush (pc := 115) hG dX12_clerk_115 (v := (nI 146)) rfl ?_
      refine a_iload_n (pc := 118) hG 1 rfl dX12_clerk_118 rfl ?_
      refine a_iadd (pc := 119) hG dX12_clerk_119 ?_
      refine a_iald (pc := 120) hG sm_2 hd dX12_clerk_120 (fun hd => ?_)
      exact a_iret (pc := 121) hG hd dX12_clerk_121
    refine a_tdef (pc := 16) hG (tgt := 122) dX12_clerk_16 (by have en0 := sw_ne (z := 0) rfl n0; have en1 := sw_ne (z := 1) rfl n1; have en2 := sw_ne (z := 2) rfl n2; have en3 := sw_ne (z := 3) rfl n3; have en4 := sw_ne (z := 4) rfl n4; have en5 := sw_ne (z := 5) rfl n5; omega) (by decide) ?_
    refine a_iconst (pc := 122) hG dX12_clerk_122 (v := (-1 : Int32)) rfl ?_
    exact a_iret (pc := 123) hG hd dX12_clerk_123
  refine a_iconst (pc := 13) hG dX12_clerk_13 (v := (-1 : Int32)) rfl ?_
  exact a_iret (pc := 14) hG hd dX12_clerk_14
theorem dX12_now_0 : decode cX12_now 0 = .ok (.aload_n 0, 1) := by decide +kernel
theorem dX12_now_1 : decode cX12_now 1 = .ok (.iconst 0, 1) := by decide +kernel
theorem dX12_now_2 : decode cX12_now 2 = .ok (.putfield 1, 3) := by decide +kernel
theorem dX12_now_5 : decode cX12_now 5 = .ok (.iconst 0, 1) := by decide +kernel
theorem dX12_now_6 : decode cX12_now 6 = .ok (.istore_n 2, 1) := by decide +kernel
theorem dX12_now_7 : decode cX12_now 7 = .ok (.iconst 0, 1) := by decide +kernel
theorem dX12_now_8 : decode cX12_now 8 = .ok (.istore_n 3, 1) := by decide +kernel
theorem dX12_now_9 : decode cX12_now 9 = .ok (.iload_n 3, 1) := by decide +kernel
theorem dX12_now_10 : decode cX12_now 10 = .ok (.aload_n 0, 1) := by decide +kernel
theorem dX12_now_11 : decode cX12_now 11 = .ok (.getfield 33, 3) := by decide +kernel
theorem dX12_now_14 : decode cX12_now 14 = .ok (.iconst 0, 1) := by decide +kernel
theorem dX12_now_15 : decode cX12_now 15 = .ok (.iaload, 1) := by decide +kernel
theorem dX12_now_16 : decode cX12_now 16 = .ok (.if_icmp .ge 32, 3) := by decide +kernel
theorem dX12_now_19 : decode cX12_now 19 = .ok (.iload_n 2, 1) := by decide +kernel
theorem dX12_now_20 : decode cX12_now 20 = .ok (.aload_n 0, 1) := by decide +kernel
theorem dX12_now_21 : decode cX12_now 21 = .ok (.getfield 33, 3) := by decide +kernel
theorem dX12_now_24 : decode cX12_now 24 = .ok (.bipush 96, 2) := by decide +kernel
theorem dX12_now_26 : decode cX12_now 26 = .ok (.iload_n 3, 1) := by decide +kernel
theorem dX12_now_27 : decode cX12_now 27 = .ok (.iadd, 1) := by decide +kernel
theorem dX12_now_28 : decode cX12_now 28 = .ok (.iaload, 1) := by decide +kernel
theorem dX12_now_29 : decode cX12_now 29 = .ok (.iconst 4, 1) := by decide +kernel
theorem dX12_now_30 : decode cX12_now 30 = .ok (.if_icmp .ne 9, 3) := by decide +kernel
theorem dX12_now_33 : decode cX12_now 33 = .ok (.iconst 1, 1) := by decide +kernel
theorem dX12_now_34 : decode cX12_now 34 = .ok (.iload_n 3, 1) := by decide +kernel
theorem dX12_now_35 : decode cX12_now 35 = .ok (.ishl, 1) := by decide +kernel
theorem dX12_now_36 : decode cX12_now 36 = .ok (.goto 4, 3) := by decide +kernel
theorem dX12_now_39 : decode cX12_now 39 = .ok (.iconst 0, 1) := by decide +kernel
theorem dX12_now_40 : decode cX12_now 40 = .ok (.ior, 1) := by decide +kernel
theorem dX12_now_41 : decode cX12_now 41 = .ok (.istore_n 2, 1) := by decide +kernel
theorem dX12_now_42 : decode cX12_now 42 = .ok (.iinc 3 1, 3) := by decide +kernel
theorem dX12_now_45 : decode cX12_now 45 = .ok (.goto (-36), 3) := by decide +kernel
theorem dX12_now_48 : decode cX12_now 48 = .ok (.iload_n 1, 1) := by decide +kernel
theorem dX12_now_49 : decode cX12_now 49 = .ok (.tableswitch 95 0 6 #[43, 51, 59, 67, 69, 77, 87], 43) := by decide +kernel
theorem dX12_now_92 : decode cX12_now 92 = .ok (.aload_n 0, 1) := by decide +kernel
theorem dX12_now_93 : decode cX12_now 93 = .ok (.getfield 33, 3) := by decide +kernel
theorem dX12_now_96 : decode cX12_now 96 = .ok (.bipush 72, 2) := by decide +kernel
theorem dX12_now_98 : decode cX12_now 98 = .ok (.iaload, 1) := by decide +kernel
theorem dX12_now_99 : decode cX12_now 99 = .ok (.ireturn, 1) := by decide +kernel
theorem dX12_now_100 : decode cX12_now 100 = .ok (.aload_n 0, 1) := by decide +kernel
theorem dX12_now_101 : decode cX12_now 101 = .ok (.getfield 33, 3) := by decide +kernel
theorem dX12_now_104 : decode cX12_now 104 = .ok (.bipush 73, 2) := by decide +kernel
theorem dX12_now_106 : decode cX12_now 106 = .ok (.iaload, 1) := by decide +kernel
theorem dX12_now_107 : decode cX12_now 107 = .ok (.ireturn, 1) := by decide +kernel
theorem dX12_now_108 : decode cX12_now 108 = .ok (.aload_n 0, 1) := by decide +kernel
theorem dX12_now_109 : decode cX12_now 109 = .ok (.getfield 33, 3) := by decide +kernel
theorem dX12_now_112 : decode cX12_now 112 = .ok (.bipush 74, 2) := by decide +kernel
theorem dX12_now_114 : decode cX12_now 114 = .ok (.iaload, 1) := by decide +kernel
theorem dX12_now_115 : decode cX12_now 115 = .ok (.ireturn, 1) := by decide +kernel
theorem dX12_now_116 : decode cX12_now 116 = .ok (.iload_n 2, 1) := by decide +kernel
theorem dX12_now_117 : decode cX12_now 117 = .ok (.ireturn, 1) := by decide +kernel
theorem dX12_now_118 : decode cX12_now 118 = .ok (.aload_n 0, 1) := by decide +kernel
theorem dX12_now_119 : decode cX12_now 119 = .ok (.getfield 33, 3) := by decide +kernel
theorem dX12_now_122 : decode cX12_now 122 = .ok (.bipush 77, 2) := by decide +kernel
theorem dX12_now_124 : decode cX12_now 124 = .ok (.iaload, 1) := by decide +kernel
theorem dX12_now_125 : decode cX12_now 125 = .ok (.ireturn, 1) := by decide +kernel
theorem dX12_now_126 : decode cX12_now 126 = .ok (.aload_n 0, 1) := by decide +kernel
theorem dX12_now_127 : decode cX12_now 127 = .ok (.getfield 33, 3) := by decide +kernel
theorem dX12_now_130 : decode cX12_now 130 = .ok (.bipush 75, 2) := by decide +kernel
theorem dX12_now_132 : decode cX12_now 132 = .ok (.iaload, 1) := by decide +kernel
theorem dX12_now_133 : decode cX12_now 133 = .ok (.iconst 1, 1) := by decide +kernel
theorem dX12_now_134 : decode cX12_now 134 = .ok (.isub, 1) := by decide +kernel
theorem dX12_now_135 : decode cX12_now 135 = .ok (.ireturn, 1) := by decide +kernel
theorem dX12_now_136 : decode cX12_now 136 = .ok (.aload_n 0, 1) := by decide +kernel
theorem dX12_now_137 : decode cX12_now 137 = .ok (.getfield 33, 3) := by decide +kernel
theorem dX12_now_140 : decode cX12_now 140 = .ok (.bipush 76, 2) := by decide +kernel
theorem dX12_now_142 : decode cX12_now 142 = .ok (.iaload, 1) := by decide +kernel
theorem dX12_now_143 : decode cX12_now 143 = .ok (.ireturn, 1) := by decide +kernel
theorem dX12_now_144 : decode cX12_now 144 = .ok (.iconst (-1), 1) := by decide +kernel
theorem dX12_now_145 : decode cX12_now 145 = .ok (.ireturn, 1) := by decide +kernel
set_option maxHeartbeats 4000000 in
theorem w_l_M_now_0 {ad wad : Nat → Nat} {Γ : Ctx} (F : Nat) {n : Nat} (hn : 1 ≤ n) (hG : Cx SHm ad wad cX12_now 4 RX12 (some .int) (n) Γ) {q : Int32 × HS} {x1 : Int32} {K0 : Int32 → HS → Option (Int32 × HS)} {g : Nat} {x2 : Int32} {x3 : Int32} {h : HS} (hd : l_M_now_0 F x1 K0 g x2 x3 h = some q) (hK0 : ∀ (y2 : Int32) (z : HS), K0 y2 z = some q → AW SHm ad 4 (some (.int q.1), q.2) Γ 48 [(0, .ref (ad 0)), (1, .int x1), (2, .int y2)] [] z) : AW SHm ad 4 (some (.int q.1), q.2) Γ 9 [(0, .ref (ad 0)), (1, .int x1), (2, .int x2), (3, .int x3)] [] h := by
  induction g generalizing x2 x3 h with
  | zero => unfold l_M_now_0 at hd; cases hd
  | succ g ih =>
    unfold l_M_now_0 at hd
    refine a_iload_n (pc := 9) hG 3 rfl dX12_now_9 rfl ?_
    refine a_aload_n (pc := 10) hG 0 rfl dX12_now_10 rfl ?_
    refine a_getR (pc := 11) hG sm_0 cl_X12 ok_X12 6 (by decide) rfl t_1615 dX12_now_11 ?_
    refine a_iconst (pc := 14) hG dX12_now_14 (v := (nI 0)) rfl ?_
    refine a_iald (pc := 15) hG sm_2 hd dX12_now_15 (fun hd => ?_)
    refine a_ic_ge (pc := 16) hG (tgt := 48) hd dX12_now_16 (by decide) (fun hd => ?_) (fun hd => ?_)
    · exact AW.sub [0, 1, 2] rfl (hK0 _ _ hd)
    refine a_iload_n (pc := 19) hG 2 rfl dX12_now_19 rfl ?_
    refine a_aload_n (pc := 20) hG 0 rfl dX12_now_20 rfl ?_
    refine a_getR (pc := 21) hG sm_0 cl_X12 ok_X12 6 (by decide) rfl t_1615 dX12_now_21 ?_
    refine a_bipush (pc := 24) hG dX12_now_24 (v := (nI 96)) rfl ?_
    refine a_iload_n (pc := 26) hG 3 rfl dX12_now_26 rfl ?_
    refine a_iadd (pc := 27) hG dX12_now_27 ?_
    refine a_iald (pc := 28) hG sm_2 hd dX12_now_28 (fun hd => ?_)
    refine a_iconst (pc := 29) hG dX12_now_29 (v := (nI 4)) rfl ?_
    refine a_join hd (Q := fun J : Int32 → HS → Option (Int32 × HS) => ∀ (v5 : Int32) (h6 : HS), J v5 h6 = some q → AW SHm ad 4 (some (.int q.1), q.2) Γ 40 [(0, .ref (ad 0)), (1, .int x1), (3, .int x3)] [.int v5, .int x2] h6) (fun v5 h6 hd => ?_) (fun J4 hJ4 hd => ?_)
    · refine a_ior (pc := 40) hG dX12_now_40 ?_
      refine a_istore_nN (pc := 41) hG hd dX12_now_41 rfl (by decide) (lf := fun x => [(2, .int x), (0, .ref (ad 0)), (1, .int x1), (3, .int x3)]) (fun _ => rfl) (fun v7 hd => ?_)
      refine a_iincN (pc := 42) hG (c0 := (nI 1)) 3 rfl hd dX12_now_42 rfl (by decide) (lf := fun x => [(3, .int x), (2, .int v7), (0, .ref (ad 0)), (1, .int x1)]) (fun _ => rfl) (fun v8 hd => ?_)
      refine a_goto (pc := 45) hG (tgt := 9) dX12_now_45 (by decide) ?_
      exact AW.sub [2, 3, 1, 0] rfl (ih hd)
    refine a_ic_ne (pc := 30) hG (tgt := 39) hd dX12_now_30 (by decide) (fun hd => ?_) (fun hd => ?_)
    · refine a_iconst (pc := 39) hG dX12_now_39 (v := (nI 0)) rfl ?_
      exact AW.sub [0, 1, 3] rfl (hJ4 _ _ hd)
    refine a_iconst (pc := 33) hG dX12_now_33 (v := (nI 1)) rfl ?_
    refine a_iload_n (pc := 34) hG 3 rfl dX12_now_34 rfl ?_
    refine a_ishl (pc := 35) hG dX12_now_35 ?_
    refine a_goto (pc := 36) hG (tgt := 40) dX12_now_36 (by decide) ?_
    exact AW.sub [0, 1, 3] rfl (hJ4 _ _ hd)
set_option maxHeartbeats 4000000 in
theorem c_M_now {ad wad : Nat → Nat} (F : Nat) (a0 : Int32) (h : HS)  (q : Int32 × HS) (hd : f_M_now F a0 h = some q) : Ctr SHm ad wad yX12_now cX12_now 4 (some .int) 1 [.ref (ad 0), .int a0] h (some (.int q.1), q.2) := by
  refine enter (own := RX12) (lv := [(0, .ref (ad 0)), (1, .int a0)]) (by decide +kernel) rfl (Nat.le_of_ble_eq_true rfl) rfl (fun Γ hG => ?_)
  unfold f_M_now at hd
  refine a_aload_n (pc := 0) hG 0 rfl dX12_now_0 rfl ?_
  refine a_iconst (pc := 1) hG dX12_now_1 (v := (nI 0)) rfl ?_
  refine a_putI (pc := 2) hG sm_0 cl_X12 ok_X12 0 (by decide) rfl t_1609 rfl (ty := .int) rfl rfl rfl hd dX12_now_2 (fun h1 hd => ?_)
  refine a_iconst (pc := 5) hG dX12_now_5 (v := (nI 0)) rfl ?_
  refine a_istore_nN (pc := 6) hG hd dX12_now_6 rfl (by decide) (lf := fun x => [(2, .int x), (0, .ref (ad 0)), (1, .int a0)]) (fun _ => rfl) (fun v2 hd => ?_)
  refine a_iconst (pc := 7) hG dX12_now_7 (v := (nI 0)) rfl ?_
  refine a_istore_nN (pc := 8) hG hd dX12_now_8 rfl (by decide) (lf := fun x => [(3, .int x), (2, .int v2), (0, .ref (ad 0)), (1, .int a0)]) (fun _ => rfl) (fun v3 hd => ?_)
  refine AW.sub [2, 3, 1, 0] rfl ?_
  refine w_l_M_now_0 F (by omega) hG hd (fun v9 h10 hd => ?_)
  refine a_iload_n (pc := 48) hG 1 rfl dX12_now_48 rfl ?_
  refine a_tcase (pc := 49) hG ((nI 0)) (tgt := 92) hd dX12_now_49 (by decide) (by decide) rfl (by decide) (fun hd => ?_) (fun n0 hd => ?_)
  · refine a_aload_n (pc := 92) hG 0 rfl dX12_now_92 rfl ?_
    refine a_getR (pc := 93) hG sm_0 cl_X12 ok_X12 6 (by decide) rfl t_1615 dX12_now_93 ?_
    refine a_bipush (pc := 96) hG dX12_now_96 (v := (nI 72)) rfl ?_
    refine a_iald (pc := 98) hG sm_2 hd dX12_now_98 (fun hd => ?_)
    exact a_iret (pc := 99) hG hd dX12_now_99
  refine a_tcase (pc := 49) hG ((nI 1)) (tgt := 100) hd dX12_now_49 (by decide) (by decide) rfl (by decide) (fun hd => ?_) (fun n1 hd => ?_)
  · refine a_aload_n (pc := 100) hG 0 rfl dX12_now_100 rfl ?_
    refine a_getR (pc := 101) hG sm_0 cl_X12 ok_X12 6 (by decide) rfl t_1615 dX12_now_101 ?_
    refine a_bipush (pc := 104) hG dX12_now_104 (v := (nI 73)) rfl ?_
    refine a_iald (pc := 106) hG sm_2 hd dX12_now_106 (fun hd => ?_)
    exact a_iret (pc := 107) hG hd dX12_now_107
  refine a_tcase (pc := 49) hG ((nI 2)) (tgt := 108) hd dX12_now_49 (by decide) (by decide) rfl (by decide) (fun hd => ?_) (fun n2 hd => ?_)
  · refine a_aload_n (pc := 108) hG 0 rfl dX12_now_108 rfl ?_
    refine a_getR (pc := 109) hG sm_0 cl_X12 ok_X12 6 (by decide) rfl t_1615 dX12_now_109 ?_
    refine a_bipush (pc := 112) hG dX12_now_112 (v := (nI 74)) rfl ?_
    refine a_iald (pc := 114) hG sm_2 hd dX12_now_114 (fun hd => ?_)
    exact a_iret (pc := 115) hG hd dX12_now_115
  refine a_tcase (pc := 49) hG ((nI 3)) (tgt := 116) hd dX12_now_49 (by decide) (by decide) rfl (by decide) (fun hd => ?_) (fun n3 hd => ?_)
  · refine a_iload_n (pc := 116) hG 2 rfl dX12_now_116 rfl ?_
    exact a_iret (pc := 117) hG hd dX12_now_117
  refine a_tcase (pc := 49) hG ((nI 4)) (tgt := 118) hd dX12_now_49 (by decide) (by decide) rfl (by decide) (fun hd => ?_) (fun n4 hd => ?_)
  · refine a_aload_n (pc := 118) hG 0 rfl dX12_now_118 rfl ?_
    refine a_getR (pc := 119) hG sm_0 cl_X12 ok_X12 6 (by decide) rfl t_1615 dX12_now_119 ?_
    refine a_bipush (pc := 122) hG dX12_now_122 (v := (nI 77)) rfl ?_
    refine a_iald (pc := 124) hG sm_2 hd dX12_now_124 (fun hd => ?_)
    exact a_iret (pc := 125) hG hd dX12_now_125
  refine a_tcase (pc := 49) hG ((nI 5)) (tgt := 126) hd dX12_now_49 (by decide) (by decide) rfl (by decide) (fun hd => ?_) (fun n5 hd => ?_)
  · refine a_aload_n (pc := 126) hG 0 rfl dX12_now_126 rfl ?_
    refine a_getR (pc := 127) hG sm_0 cl_X12 ok_X12 6 (by decide) rfl t_1615 dX12_now_127 ?_
    refine a_bipush (pc := 130) hG dX12_now_130 (v := (nI 75)) rfl ?_
    refine a_iald (pc := 132) hG sm_2 hd dX12_now_132 (fun hd => ?_)
    refine a_iconst (pc := 133) hG dX12_now_133 (v := (nI 1)) rfl ?_
    refine a_isub (pc := 134) hG dX12_now_134 ?_
    exact a_iret (pc := 135) hG hd dX12_now_135
  refine a_tcase (pc := 49) hG ((nI 6)) (tgt := 136) hd dX12_now_49 (by decide) (by decide) rfl (by decide) (fun hd => ?_) (fun n6 hd => ?_)
  · refine a_aload_n (pc := 136) hG 0 rfl dX12_now_136 rfl ?_
    refine a_getR (pc := 137) hG sm_0 cl_X12 ok_X12 6 (by decide) rfl t_1615 dX12_now_137 ?_
    refine a_bipush (pc := 140) hG dX12_now_140 (v := (nI 76)) rfl ?_
    refine a_iald (pc := 142) hG sm_2 hd dX12_now_142 (fun hd => ?_)
    exact a_iret (pc := 143) hG hd dX12_now_143
  refine a_tdef (pc := 49) hG (tgt := 144) dX12_now_49 (by have en0 := sw_ne (z := 0) rfl n0; have en1 := sw_ne (z := 1) rfl n1; have en2 := sw_ne (z := 2) rfl n2; have en3 := sw_ne (z := 3) rfl n3; have en4 := sw_ne (z := 4) rfl n4; have en5 := sw_ne (z := 5) rfl n5; have en6 := sw_ne (z := 6) rfl n6; omega) (by decide) ?_
  refine a_iconst (pc := 144) hG dX12_now_144 (v := (-1 : Int32)) rfl ?_
  exact a_iret (pc := 145) hG hd dX12_now_145
theorem dX12_isBelow_0 : decode cX12_isBelow 0 = .ok (.iload_n 1, 1) := by decide +kernel
theorem dX12_isBelow_1 : decode cX12_isBelow 1 = .ok (.aload_n 0, 1) := by decide +kernel
theorem dX12_isBelow_2 : decode cX12_isBelow 2 = .ok (.getfield 33, 3) := by decide +kernel
theorem dX12_isBelow_5 : decode cX12_isBelow 5 = .ok (.iconst 5, 1) := by decide +kernel
theorem dX12_isBelow_6 : decode cX12_isBelow 6 = .ok (.iaload, 1) := by decide +kernel
theorem dX12_isBelow_7 : decode cX12_isBelow 7 = .ok (.imul, 1) := by decide +kernel
theorem dX12_isBelow_8 : decode cX12_isBelow 8 = .ok (.aload_n 0, 1) := by decide +kernel
theorem dX12_isBelow_9 : decode cX12_isBelow 9 = .ok (.getfield 33, 3) := by decide +kernel
theorem dX12_isBelow_12 : decode cX12_isBelow 12 = .ok (.iconst 4, 1) := by decide +kernel
theorem dX12_isBelow_13 : decode cX12_isBelow 13 = .ok (.iaload, 1) := by decide +kernel
theorem dX12_isBelow_14 : decode cX12_isBelow 14 = .ok (.iload_n 2, 1) := by decide +kernel
theorem dX12_isBelow_15 : decode cX12_isBelow 15 = .ok (.imul, 1) := by decide +kernel
theorem dX12_isBelow_16 : decode cX12_isBelow 16 = .ok (.if_icmp .ge 7, 3) := by decide +kernel
theorem dX12_isBelow_19 : decode cX12_isBelow 19 = .ok (.iconst 1, 1) := by decide +kernel
theorem dX12_isBelow_20 : decode cX12_isBelow 20 = .ok (.goto 4, 3) := by decide +kernel
theorem dX12_isBelow_23 : decode cX12_isBelow 23 = .ok (.iconst 0, 1) := by decide +kernel
theorem dX12_isBelow_24 : decode cX12_isBelow 24 = .ok (.ireturn, 1) := by decide +kernel
set_option maxHeartbeats 4000000 in
theorem c_M_isBelow {ad wad : Nat → Nat} (a0 : Int32) (a1 : Int32) (h : HS)  (q : Int32 × HS) (hd : f_M_isBelow a0 a1 h = some q) : Ctr SHm ad wad yX12_isBelow cX12_isBelow 3 (some .boolean) 1 [.ref (ad 0), .int a0, .int a1] h (some (.int q.1), q.2) := by
  refine enter (own := RX12) (lv := [(0, .ref (ad 0)), (1, .int a0), (2, .int a1)]) (by decide +kernel) rfl (Nat.le_of_ble_eq_true rfl) rfl (fun Γ hG => ?_)
  unfold f_M_isBelow at hd
  refine a_iload_n (pc := 0) hG 1 rfl dX12_isBelow_0 rfl ?_
  refine a_aload_n (pc := 1) hG 0 rfl dX12_isBelow_1 rfl ?_
  refine a_getR (pc := 2) hG sm_0 cl_X12 ok_X12 6 (by decide) rfl t_1615 dX12_isBelow_2 ?_
  refine a_iconst (pc := 5) hG dX12_isBelow_5 (v := (nI 5)) rfl ?_
  refine a_iald (pc := 6) hG sm_2 hd dX12_isBelow_6 (fun hd => ?_)
  refine a_imul (pc := 7) hG dX12_isBelow_7 ?_
  refine a_aload_n (pc := 8) hG 0 rfl dX12_isBelow_8 rfl ?_
  refine a_getR (pc := 9) hG sm_0 cl_X12 ok_X12 6 (by decide) rfl t_1615 dX12_isBelow_9 ?_
  refine a_iconst (pc := 12) hG dX12_isBelow_12 (v := (nI 4)) rfl ?_
  refine a_iald (pc := 13) hG sm_2 hd dX12_isBelow_13 (fun hd => ?_)
  refine a_iload_n (pc := 14) hG 2 rfl dX12_isBelow_14 rfl ?_
  refine a_imul (pc := 15) hG dX12_isBelow_15 ?_
  refine a_ic_ge (pc := 16) hG (tgt := 23) hd dX12_isBelow_16 (by decide) (fun hd => ?_) (fun hd => ?_)
  · refine a_iconst (pc := 23) hG dX12_isBelow_23 (v := (nI 0)) rfl ?_
    exact a_zret (pc := 24) hG hd dX12_isBelow_24
  refine a_iconst (pc := 19) hG dX12_isBelow_19 (v := (nI 1)) rfl ?_
  refine a_goto (pc := 20) hG (tgt := 24) dX12_isBelow_20 (by decide) ?_
  exact a_zret (pc := 24) hG hd dX12_isBelow_24
theorem dX12_isSafe_0 : decode cX12_isSafe 0 = .ok (.aload_n 0, 1) := by decide +kernel
theorem dX12_isSafe_1 : decode cX12_isSafe 1 = .ok (.aload_n 0, 1) := by decide +kernel
theorem dX12_isSafe_2 : decode cX12_isSafe 2 = .ok (.iload_n 1, 1) := by decide +kernel
theorem dX12_isSafe_3 : decode cX12_isSafe 3 = .ok (.iload_n 2, 1) := by decide +kernel
theorem dX12_isSafe_4 : decode cX12_isSafe 4 = .ok (.invokevirtual 243, 3) := by decide +kernel
theorem dX12_isSafe_7 : decode cX12_isSafe 7 = .ok (.aload_n 0, 1) := by decide +kernel
theorem dX12_isSafe_8 : decode cX12_isSafe 8 = .ok (.iload_n 1, 1) := by decide +kernel
theorem dX12_isSafe_9 : decode cX12_isSafe 9 = .ok (.iload_n 2, 1) := by decide +kernel
theorem dX12_isSafe_10 : decode cX12_isSafe 10 = .ok (.invokevirtual 246, 3) := by decide +kernel
theorem dX12_isSafe_13 : decode cX12_isSafe 13 = .ok (.invokevirtual 249, 3) := by decide +kernel
theorem dX12_isSafe_16 : decode cX12_isSafe 16 = .ok (.ireturn, 1) := by decide +kernel
set_option maxHeartbeats 4000000 in
theorem c_M_isSafe {ad wad : Nat → Nat} (F : Nat) (a0 : Int32) (a1 : Int32) (h : HS)  (q : Int32 × HS) (hd : f_M_isSafe F a0 a1 h = some q) : Ctr SHm ad wad yX12_isSafe cX12_isSafe 3 (some .boolean) 5 [.ref (ad 0), .int a0, .int a1] h (some (.int q.1), q.2) := by
  refine enter (own := RX12) (lv := [(0, .ref (ad 0)), (1, .int a0), (2, .int a1)]) (by decide +kernel) rfl (Nat.le_of_ble_eq_true rfl) rfl (fun Γ hG => ?_)
  unfold f_M_isSafe at hd
  refine a_aload_n (pc := 0) hG 0 rfl dX12_isSafe_0 rfl ?_
  refine a_aload_n (pc := 1) hG 0 rfl dX12_isSafe_1 rfl ?_
  refine a_iload_n (pc := 2) hG 1 rfl dX12_isSafe_2 rfl ?_
  refine a_iload_n (pc := 3) hG 2 rfl dX12_isSafe_3 rfl ?_
  refine a_cvI (pc := 4) hG (As := [.int a0, .int a1]) (st := [.ref (ad 0)]) sm_0 cl_X12 mk_X12_forOf t_1842 (by omega) (fun z hz => c_M_forOf F a0 a1 _  z hz) rfl (Nat.le_of_ble_eq_true rfl) hd dX12_isSafe_4 (fun r2 h1 hd => ?_)
  refine a_aload_n (pc := 7) hG 0 rfl dX12_isSafe_7 rfl ?_
  refine a_iload_n (pc := 8) hG 1 rfl dX12_isSafe_8 rfl ?_
  refine a_iload_n (pc := 9) hG 2 rfl dX12_isSafe_9 rfl ?_
  refine a_cvI (pc := 10) hG (As := [.int a0, .int a1]) (st := [.int r2, .ref (ad 0)]) sm_0 cl_X12 mk_X12_allOf t_1850 (by omega) (fun z hz => c_M_allOf F a0 a1 _  z hz) rfl (Nat.le_of_ble_eq_true rfl) hd dX12_isSafe_10 (fun r4 h3 hd => ?_)
  refine a_cvI (pc := 13) hG (As := [.int r2, .int r4]) (st := []) sm_0 cl_X12 mk_X12_isBelow t_1893 (by omega) (fun z hz => c_M_isBelow r2 r4 _  z hz) rfl (Nat.le_of_ble_eq_true rfl) hd dX12_isSafe_13 (fun r6 h5 hd => ?_)
  exact a_zret (pc := 16) hG hd dX12_isSafe_16
theorem dX12_whyTake_0 : decode cX12_whyTake 0 = .ok (.aload_n 0, 1) := by decide +kernel
theorem dX12_whyTake_1 : decode cX12_whyTake 1 = .ok (.getfield 33, 3) := by decide +kernel
theorem dX12_whyTake_4 : decode cX12_whyTake 4 = .ok (.sipush 131, 3) := by decide +kernel
theorem dX12_whyTake_7 : decode cX12_whyTake 7 = .ok (.iload_n 1, 1) := by decide +kernel
theorem dX12_whyTake_8 : decode cX12_whyTake 8 = .ok (.iadd, 1) := by decide +kernel
theorem dX12_whyTake_9 : decode cX12_whyTake 9 = .ok (.iaload, 1) := by decide +kernel
theorem dX12_whyTake_10 : decode cX12_whyTake 10 = .ok (.ifCond .le 7, 3) := by decide +kernel
theorem dX12_whyTake_13 : decode cX12_whyTake 13 = .ok (.iconst 1, 1) := by decide +kernel
theorem dX12_whyTake_14 : decode cX12_whyTake 14 = .ok (.goto 50, 3) := by decide +kernel
theorem dX12_whyTake_17 : decode cX12_whyTake 17 = .ok (.aload_n 0, 1) := by decide +kernel
theorem dX12_whyTake_18 : decode cX12_whyTake 18 = .ok (.getfield 33, 3) := by decide +kernel
theorem dX12_whyTake_21 : decode cX12_whyTake 21 = .ok (.bipush 96, 2) := by decide +kernel
theorem dX12_whyTake_23 : decode cX12_whyTake 23 = .ok (.iload_n 2, 1) := by decide +kernel
theorem dX12_whyTake_24 : decode cX12_whyTake 24 = .ok (.iadd, 1) := by decide +kernel
theorem dX12_whyTake_25 : decode cX12_whyTake 25 = .ok (.iaload, 1) := by decide +kernel
theorem dX12_whyTake_26 : decode cX12_whyTake 26 = .ok (.ifCond .eq 7, 3) := by decide +kernel
theorem dX12_whyTake_29 : decode cX12_whyTake 29 = .ok (.iconst 2, 1) := by decide +kernel
theorem dX12_whyTake_30 : decode cX12_whyTake 30 = .ok (.goto 34, 3) := by decide +kernel
theorem dX12_whyTake_33 : decode cX12_whyTake 33 = .ok (.aload_n 0, 1) := by decide +kernel
theorem dX12_whyTake_34 : decode cX12_whyTake 34 = .ok (.iload_n 2, 1) := by decide +kernel
theorem dX12_whyTake_35 : decode cX12_whyTake 35 = .ok (.iconst 0, 1) := by decide +kernel
theorem dX12_whyTake_36 : decode cX12_whyTake 36 = .ok (.invokevirtual 272, 3) := by decide +kernel
theorem dX12_whyTake_39 : decode cX12_whyTake 39 = .ok (.ifCond .ne 7, 3) := by decide +kernel
theorem dX12_whyTake_42 : decode cX12_whyTake 42 = .ok (.iconst 3, 1) := by decide +kernel
theorem dX12_whyTake_43 : decode cX12_whyTake 43 = .ok (.goto 21, 3) := by decide +kernel
theorem dX12_whyTake_46 : decode cX12_whyTake 46 = .ok (.aload_n 0, 1) := by decide +kernel
theorem dX12_whyTake_47 : decode cX12_whyTake 47 = .ok (.getfield 33, 3) := by decide +kernel
theorem dX12_whyTake_50 : decode cX12_whyTake 50 = .ok (.bipush 72, 2) := by decide +kernel
theorem dX12_whyTake_52 : decode cX12_whyTake 52 = .ok (.iaload, 1) := by decide +kernel
theorem dX12_whyTake_53 : decode cX12_whyTake 53 = .ok (.sipush 200, 3) := by decide +kernel
theorem dX12_whyTake_56 : decode cX12_whyTake 56 = .ok (.if_icmp .ne 7, 3) := by decide +kernel
theorem dX12_whyTake_59 : decode cX12_whyTake 59 = .ok (.iconst 4, 1) := by decide +kernel
theorem dX12_whyTake_60 : decode cX12_whyTake 60 = .ok (.goto 4, 3) := by decide +kernel
theorem dX12_whyTake_63 : decode cX12_whyTake 63 = .ok (.iconst 0, 1) := by decide +kernel
theorem dX12_whyTake_64 : decode cX12_whyTake 64 = .ok (.ireturn, 1) := by decide +kernel
set_option maxHeartbeats 4000000 in
theorem c_M_whyTake {ad wad : Nat → Nat} (F : Nat) (a0 : Int32) (a1 : Int32) (h : HS)  (q : Int32 × HS) (hd : f_M_whyTake F a0 a1 h = some q) : Ctr SHm ad wad yX12_whyTake cX12_whyTake 3 (some .int) 6 [.ref (ad 0), .int a0, .int a1] h (some (.int q.1), q.2) := by
  refine enter (own := RX12) (lv := [(0, .ref (ad 0)), (1, .int a0), (2, .int a1)]) (by decide +kernel) rfl (Nat.le_of_ble_eq_true rfl) rfl (fun Γ hG => ?_)
  unfold f_M_whyTake at hd
  refine a_aload_n (pc := 0) hG 0 rfl dX12_whyTake_0 rfl ?_
  refine a_getR (pc := 1) hG sm_0 cl_X12 ok_X12 6 (by decide) rfl t_1615 dX12_whyTake_1 ?_
  refine a_sipush (pc := 4) hG dX12_whyTake_4 (v := (nI 131)) rfl ?_
  refine a_iload_n (pc := 7) hG 1 rfl dX12_whyTake_7 rfl ?_
  refine a_iadd (pc := 8) hG dX12_whyTake_8 ?_
  refine a_iald (pc := 9) hG sm_2 hd dX12_whyTake_9 (fun hd => ?_)
  refine a_if_le (pc := 10) hG (tgt := 17) hd dX12_whyTake_10 (by decide) (fun hd => ?_) (fun hd => ?_)
  · refine a_aload_n (pc := 17) hG 0 rfl dX12_whyTake_17 rfl ?_
    refine a_getR (pc := 18) hG sm_0 cl_X12 ok_X12 6 (by decide) rfl t_1615 dX12_whyTake_18 ?_
    refine a_bipush (pc := 21) hG dX12_whyTake_21 (v := (nI 96)) rfl ?_
    refine a_iload_n (pc := 23) hG 2 rfl dX12_whyTake_23 rfl ?_
    refine a_iadd (pc := 24) hG dX12_whyTake_24 ?_
    refine a_iald (pc := 25) hG sm_2 hd dX12_whyTake_25 (fun hd => ?_)
    refine a_if_eq (pc := 26) hG (tgt := 33) hd dX12_whyTake_26 (by decide) (fun hd => ?_) (fun hd => ?_)
    · refine a_aload_n (pc := 33) hG 0 rfl dX12_whyTake_33 rfl ?_
      refine a_iload_n (pc := 34) hG 2 rfl dX12_whyTake_34 rfl ?_
      refine a_iconst (pc := 35) hG dX12_whyTake_35 (v := (nI 0)) rfl ?_
      refine a_cvI (pc := 36) hG (As := [.int a1, .int (nI 0)]) (st := []) sm_0 cl_X12 mk_X12_isSafe t_1889 (by omega) (fun z hz => c_M_isSafe F a1 (nI 0) _  z hz) rfl (Nat.le_of_ble_eq_true rfl) hd dX12_whyTake_36 (fun r2 h1 hd => ?_)
      refine a_if_ne (pc := 39) hG (tgt := 46) hd dX12_whyTake_39 (by decide) (fun hd => ?_) (fun hd => ?_)
      · refine a_aload_n (pc := 46) hG 0 rfl dX12_whyTake_46 rfl ?_
        refine a_getR (pc := 47) hG sm_0 cl_X12 ok_X12 6 (by decide) rfl t_1615 dX12_whyTake_47 ?_
        refine a_bipush (pc := 50) hG dX12_whyTake_50 (v := (nI 72)) rfl ?_
        refine a_iald (pc := 52) hG sm_2 hd dX12_whyTake_52 (fun hd => ?_)
        refine a_sipush (pc := 53) hG dX12_whyTake_53 (v := (nI 200)) rfl ?_
        refine a_ic_ne (pc := 56) hG (tgt := 63) hd dX12_whyTake_56 (by decide) (fun hd => ?_) (fun hd => ?_)
        · refine a_iconst (pc := 63) hG dX12_whyTake_63 (v := (nI 0)) rfl ?_
          exact a_iret (pc := 64) hG hd dX12_whyTake_64
        refine a_iconst (pc := 59) hG dX12_whyTake_59 (v := (nI 4)) rfl ?_
        refine a_goto (pc := 60) hG (tgt := 64) dX12_whyTake_60 (by decide) ?_
        exact a_iret (pc := 64) hG hd dX12_whyTake_64
      refine a_iconst (pc := 42) hG dX12_whyTake_42 (v := (nI 3)) rfl ?_
      refine a_goto (pc := 43) hG (tgt := 64) dX12_whyTake_43 (by decide) ?_
      exact a_iret (pc := 64) hG hd dX12_whyTake_64
    refine a_iconst (pc := 29) hG dX12_whyTake_29 (v := (nI 2)) rfl ?_
    refine a_goto (pc := 30) hG (tgt := 64) dX12_whyTake_30 (by decide) ?_
    exact a_iret (pc := 64) hG hd dX12_whyTake_64
  refine a_iconst (pc := 13) hG dX12_whyTake_13 (v := (nI 1)) rfl ?_
  refine a_goto (pc := 14) hG (tgt := 64) dX12_whyTake_14 (by decide) ?_
  exact a_iret (pc := 64) hG hd dX12_whyTake_64
theorem dX12_keep_0 : decode cX12_keep 0 = .ok (.aload_n 0, 1) := by decide +kernel
theorem dX12_keep_1 : decode cX12_keep 1 = .ok (.getfield 237, 3) := by decide +kernel
theorem dX12_keep_4 : decode cX12_keep 4 = .ok (.bipush 8, 2) := by decide +kernel
theorem dX12_keep_6 : decode cX12_keep 6 = .ok (.if_icmp .ne 39, 3) := by decide +kernel
theorem dX12_keep_9 : decode cX12_keep 9 = .ok (.iconst 0, 1) := by decide +kernel
theorem dX12_keep_10 : decode cX12_keep 10 = .ok (.istore_n 1, 1) := by decide +kernel
theorem dX12_keep_11 : decode cX12_keep 11 = .ok (.iload_n 1, 1) := by decide +kernel
theorem dX12_keep_12 : decode cX12_keep 12 = .ok (.sipush 553, 3) := by decide +kernel
theorem dX12_keep_15 : decode cX12_keep 15 = .ok (.if_icmp .ge 24, 3) := by decide +kernel
theorem dX12_keep_18 : decode cX12_keep 18 = .ok (.aload_n 0, 1) := by decide +kernel
theorem dX12_keep_19 : decode cX12_keep 19 = .ok (.getfield 50, 3) := by decide +kernel
theorem dX12_keep_22 : decode cX12_keep 22 = .ok (.iload_n 1, 1) := by decide +kernel
theorem dX12_keep_23 : decode cX12_keep 23 = .ok (.aload_n 0, 1) := by decide +kernel
theorem dX12_keep_24 : decode cX12_keep 24 = .ok (.getfield 50, 3) := by decide +kernel
theorem dX12_keep_27 : decode cX12_keep 27 = .ok (.iload_n 1, 1) := by decide +kernel
theorem dX12_keep_28 : decode cX12_keep 28 = .ok (.bipush 79, 2) := by decide +kernel
theorem dX12_keep_30 : decode cX12_keep 30 = .ok (.iadd, 1) := by decide +kernel
theorem dX12_keep_31 : decode cX12_keep 31 = .ok (.iaload, 1) := by decide +kernel
theorem dX12_keep_32 : decode cX12_keep 32 = .ok (.iastore, 1) := by decide +kernel
theorem dX12_keep_33 : decode cX12_keep 33 = .ok (.iinc 1 1, 3) := by decide +kernel
theorem dX12_keep_36 : decode cX12_keep 36 = .ok (.goto (-25), 3) := by decide +kernel
theorem dX12_keep_39 : decode cX12_keep 39 = .ok (.aload_n 0, 1) := by decide +kernel
theorem dX12_keep_40 : decode cX12_keep 40 = .ok (.bipush 7, 2) := by decide +kernel
theorem dX12_keep_42 : decode cX12_keep 42 = .ok (.putfield 237, 3) := by decide +kernel
theorem dX12_keep_45 : decode cX12_keep 45 = .ok (.iconst 0, 1) := by decide +kernel
theorem dX12_keep_46 : decode cX12_keep 46 = .ok (.istore_n 1, 1) := by decide +kernel
theorem dX12_keep_47 : decode cX12_keep 47 = .ok (.iload_n 1, 1) := by decide +kernel
theorem dX12_keep_48 : decode cX12_keep 48 = .ok (.bipush 79, 2) := by decide +kernel
theorem dX12_keep_50 : decode cX12_keep 50 = .ok (.if_icmp .ge 32, 3) := by decide +kernel
theorem dX12_keep_53 : decode cX12_keep 53 = .ok (.aload_n 0, 1) := by decide +kernel
theorem dX12_keep_54 : decode cX12_keep 54 = .ok (.getfield 50, 3) := by decide +kernel
theorem dX12_keep_57 : decode cX12_keep 57 = .ok (.bipush 79, 2) := by decide +kernel
theorem dX12_keep_59 : decode cX12_keep 59 = .ok (.aload_n 0, 1) := by decide +kernel
theorem dX12_keep_60 : decode cX12_keep 60 = .ok (.getfield 237, 3) := by decide +kernel
theorem dX12_keep_63 : decode cX12_keep 63 = .ok (.imul, 1) := by decide +kernel
theorem dX12_keep_64 : decode cX12_keep 64 = .ok (.iload_n 1, 1) := by decide +kernel
theorem dX12_keep_65 : decode cX12_keep 65 = .ok (.iadd, 1) := by decide +kernel
theorem dX12_keep_66 : decode cX12_keep 66 = .ok (.aload_n 0, 1) := by decide +kernel
theorem dX12_keep_67 : decode cX12_keep 67 = .ok (.getfield 33, 3) := by decide +kernel
theorem dX12_keep_70 : decode cX12_keep 70 = .ok (.bipush 72, 2) := by decide +kernel
theorem dX12_keep_72 : decode cX12_keep 72 = .ok (.iload_n 1, 1) := by decide +kernel
theorem dX12_keep_73 : decode cX12_keep 73 = .ok (.iadd, 1) := by decide +kernel
theorem dX12_keep_74 : decode cX12_keep 74 = .ok (.iaload, 1) := by decide +kernel
theorem dX12_keep_75 : decode cX12_keep 75 = .ok (.iastore, 1) := by decide +kernel
theorem dX12_keep_76 : decode cX12_keep 76 = .ok (.iinc 1 1, 3) := by decide +kernel
theorem dX12_keep_79 : decode cX12_keep 79 = .ok (.goto (-32), 3) := by decide +kernel
theorem dX12_keep_82 : decode cX12_keep 82 = .ok (.aload_n 0, 1) := by decide +kernel
theorem dX12_keep_83 : decode cX12_keep 83 = .ok (.dup, 1) := by decide +kernel
theorem dX12_keep_84 : decode cX12_keep 84 = .ok (.getfield 237, 3) := by decide +kernel
theorem dX12_keep_87 : decode cX12_keep 87 = .ok (.iconst 1, 1) := by decide +kernel
theorem dX12_keep_88 : decode cX12_keep 88 = .ok (.iadd, 1) := by decide +kernel
theorem dX12_keep_89 : decode cX12_keep 89 = .ok (.putfield 237, 3) := by decide +kernel
theorem dX12_keep_92 : decode cX12_keep 92 = .ok (.return_, 1) := by decide +kernel
set_option maxHeartbeats 4000000 in
theorem w_l_M_keep_0 {ad wad : Nat → Nat} {Γ : Ctx} (F : Nat) {n : Nat} (hn : 1 ≤ n) (hG : Cx SHm ad wad cX12_keep 2 RX12 none (n) Γ) {q : Unit × HS} {K0 : HS → Option (Unit × HS)} {g : Nat} {x1 : Int32} {h : HS} (hd : l_M_keep_0 F K0 g x1 h = some q) (hK0 : ∀ (z : HS), K0 z = some q → AW SHm ad 2 (none, q.2) Γ 82 [(0, .ref (ad 0))] [] z) : AW SHm ad 2 (none, q.2) Γ 47 [(0, .ref (ad 0)), (1, .int x1)] [] h := by
  induction g generalizing x1 h with
  | zero => unfold l_M_keep_0 at hd; cases hd
  | succ g ih =>
    unfold l_M_keep_0 at hd
    refine a_iload_n (pc := 47) hG 1 rfl dX12_keep_47 rfl ?_
    refine a_bipush (pc := 48) hG dX12_keep_48 (v := (nI 79)) rfl ?_
    refine a_ic_ge (pc := 50) hG (tgt := 82) hd dX12_keep_50 (by decide) (fun hd => ?_) (fun hd => ?_)
    · exact AW.sub [0] rfl (hK0  _ hd)
    refine a_aload_n (pc := 53) hG 0 rfl dX12_keep_53 rfl ?_
    refine a_getR (pc := 54) hG sm_0 cl_X12 ok_X12 21 (by decide) rfl t_1630 dX12_keep_54 ?_
    refine a_bipush (pc := 57) hG dX12_keep_57 (v := (nI 79)) rfl ?_
    refine a_aload_n (pc := 59) hG 0 rfl dX12_keep_59 rfl ?_
    refine a_getI (pc := 60) hG sm_0 cl_X12 ok_X12 23 (by decide) rfl t_1632 dX12_keep_60 ?_
    refine a_imul (pc := 63) hG dX12_keep_63 ?_
    refine a_iload_n (pc := 64) hG 1 rfl dX12_keep_64 rfl ?_
    refine a_iadd (pc := 65) hG dX12_keep_65 ?_
    refine a_aload_n (pc := 66) hG 0 rfl dX12_keep_66 rfl ?_
    refine a_getR (pc := 67) hG sm_0 cl_X12 ok_X12 6 (by decide) rfl t_1615 dX12_keep_67 ?_
    refine a_bipush (pc := 70) hG dX12_keep_70 (v := (nI 72)) rfl ?_
    refine a_iload_n (pc := 72) hG 1 rfl dX12_keep_72 rfl ?_
    refine a_iadd (pc := 73) hG dX12_keep_73 ?_
    refine a_iald (pc := 74) hG sm_2 hd dX12_keep_74 (fun hd => ?_)
    refine a_iast (pc := 75) hG sm_7 hd dX12_keep_75 (fun h4 hd => ?_)
    refine a_iincN (pc := 76) hG (c0 := (nI 1)) 1 rfl hd dX12_keep_76 rfl (by decide) (lf := fun x => [(1, .int x), (0, .ref (ad 0))]) (fun _ => rfl) (fun v5 hd => ?_)
    refine a_goto (pc := 79) hG (tgt := 47) dX12_keep_79 (by decide) ?_
    exact AW.sub [1, 0] rfl (ih hd)
set_option maxHeartbeats 4000000 in
theorem w_l_M_keep_1 {ad wad : Nat → Nat} {Γ : Ctx} (F : Nat) {n : Nat} (hn : 1 ≤ n) (hG : Cx SHm ad wad cX12_keep 2 RX12 none (n) Γ) {q : Unit × HS} {K0 : HS → Option (Unit × HS)} {g : Nat} {x1 : Int32} {h : HS} (hd : l_M_keep_1 F K0 g x1 h = some q) (hK0 : ∀ (z : HS), K0 z = some q → AW SHm ad 2 (none, q.2) Γ 39 [(0, .ref (ad 0))] [] z) : AW SHm ad 2 (none, q.2) Γ 11 [(0, .ref (ad 0)), (1, .int x1)] [] h := by
  induction g generalizing x1 h with
  | zero => unfold l_M_keep_1 at hd; cases hd
  | succ g ih =>
    unfold l_M_keep_1 at hd
    refine a_iload_n (pc := 11) hG 1 rfl dX12_keep_11 rfl ?_
    refine a_sipush (pc := 12) hG dX12_keep_12 (v := (nI 553)) rfl ?_
    refine a_ic_ge (pc := 15) hG (tgt := 39) hd dX12_keep_15 (by decide) (fun hd => ?_) (fun hd => ?_)
    · exact AW.sub [0] rfl (hK0  _ hd)
    refine a_aload_n (pc := 18) hG 0 rfl dX12_keep_18 rfl ?_
    refine a_getR (pc := 19) hG sm_0 cl_X12 ok_X12 21 (by decide) rfl t_1630 dX12_keep_19 ?_
    refine a_iload_n (pc := 22) hG 1 rfl dX12_keep_22 rfl ?_
    refine a_aload_n (pc := 23) hG 0 rfl dX12_keep_23 rfl ?_
    refine a_getR (pc := 24) hG sm_0 cl_X12 ok_X12 21 (by decide) rfl t_1630 dX12_keep_24 ?_
    refine a_iload_n (pc := 27) hG 1 rfl dX12_keep_27 rfl ?_
    refine a_bipush (pc := 28) hG dX12_keep_28 (v := (nI 79)) rfl ?_
    refine a_iadd (pc := 30) hG dX12_keep_30 ?_
    refine a_iald (pc := 31) hG sm_7 hd dX12_keep_31 (fun hd => ?_)
    refine a_iast (pc := 32) hG sm_7 hd dX12_keep_32 (fun h9 hd => ?_)
    refine a_iincN (pc := 33) hG (c0 := (nI 1)) 1 rfl hd dX12_keep_33 rfl (by decide) (lf := fun x => [(1, .int x), (0, .ref (ad 0))]) (fun _ => rfl) (fun v10 hd => ?_)
    refine a_goto (pc := 36) hG (tgt := 11) dX12_keep_36 (by decide) ?_
    exact AW.sub [1, 0] rfl (ih hd)
set_option maxHeartbeats 4000000 in
theorem c_M_keep {ad wad : Nat → Nat} (F : Nat)  (h : HS)  (q : Unit × HS) (hd : f_M_keep F  h = some q) : Ctr SHm ad wad yX12_keep cX12_keep 2 none 1 [.ref (ad 0)] h (none, q.2) := by
  refine enter (own := RX12) (lv := [(0, .ref (ad 0))]) (by decide +kernel) rfl (Nat.le_of_ble_eq_true rfl) rfl (fun Γ hG => ?_)
  unfold f_M_keep at hd
  refine a_aload_n (pc := 0) hG 0 rfl dX12_keep_0 rfl ?_
  refine a_getI (pc := 1) hG sm_0 cl_X12 ok_X12 23 (by decide) rfl t_1632 dX12_keep_1 ?_
  refine a_bipush (pc := 4) hG dX12_keep_4 (v := (nI 8)) rfl ?_
  refine a_join hd (Q := fun J : HS → Option (Unit × HS) => ∀  (h2 : HS), J  h2 = some q → AW SHm ad 2 (none, q.2) Γ 45 [(0, .ref (ad 0))] [] h2) (fun  h2 hd => ?_) (fun J1 hJ1 hd => ?_)
  · refine a_iconst (pc := 45) hG dX12_keep_45 (v := (nI 0)) rfl ?_
    refine a_istore_nN (pc := 46) hG hd dX12_keep_46 rfl (by decide) (lf := fun x => [(1, .int x), (0, .ref (ad 0))]) (fun _ => rfl) (fun v3 hd => ?_)
    refine AW.sub [1, 0] rfl ?_
    refine w_l_M_keep_0 F (by omega) hG hd (fun h6 hd => ?_)
    refine a_aload_n (pc := 82) hG 0 rfl dX12_keep_82 rfl ?_
    refine a_dup (pc := 83) hG dX12_keep_83 rfl ?_
    refine a_getI (pc := 84) hG sm_0 cl_X12 ok_X12 23 (by decide) rfl t_1632 dX12_keep_84 ?_
    refine a_iconst (pc := 87) hG dX12_keep_87 (v := (nI 1)) rfl ?_
    refine a_iadd (pc := 88) hG dX12_keep_88 ?_
    refine a_putI (pc := 89) hG sm_0 cl_X12 ok_X12 23 (by decide) rfl t_1632 rfl (ty := .int) rfl rfl rfl hd dX12_keep_89 (fun h7 hd => ?_)
    exact a_vret (pc := 92) hG hd dX12_keep_92
  refine a_ic_ne (pc := 6) hG (tgt := 45) hd dX12_keep_6 (by decide) (fun hd => ?_) (fun hd => ?_)
  · exact AW.sub [0] rfl (hJ1  _ hd)
  refine a_iconst (pc := 9) hG dX12_keep_9 (v := (nI 0)) rfl ?_
  refine a_istore_nN (pc := 10) hG hd dX12_keep_10 rfl (by decide) (lf := fun x => [(1, .int x), (0, .ref (ad 0))]) (fun _ => rfl) (fun v8 hd => ?_)
  refine AW.sub [1, 0] rfl ?_
  refine w_l_M_keep_1 F (by omega) hG hd (fun h11 hd => ?_)
  refine a_aload_n (pc := 39) hG 0 rfl dX12_keep_39 rfl ?_
  refine a_bipush (pc := 40) hG dX12_keep_40 (v := (nI 7)) rfl ?_
  refine a_putI (pc := 42) hG sm_0 cl_X12 ok_X12 23 (by decide) rfl t_1632 rfl (ty := .int) rfl rfl rfl hd dX12_keep_42 (fun h12 hd => ?_)
  exact AW.sub [0] rfl (hJ1  _ hd)
theorem dX12_taking_0 : decode cX12_taking 0 = .ok (.aload_n 0, 1) := by decide +kernel
theorem dX12_taking_1 : decode cX12_taking 1 = .ok (.getfield 33, 3) := by decide +kernel
theorem dX12_taking_4 : decode cX12_taking 4 = .ok (.sipush 131, 3) := by decide +kernel
theorem dX12_taking_7 : decode cX12_taking 7 = .ok (.iload_n 1, 1) := by decide +kernel
theorem dX12_taking_8 : decode cX12_taking 8 = .ok (.iadd, 1) := by decide +kernel
theorem dX12_taking_9 : decode cX12_taking 9 = .ok (.iload_n 2, 1) := by decide +kernel
theorem dX12_taking_10 : decode cX12_taking 10 = .ok (.iconst 1, 1) := by decide +kernel
theorem dX12_taking_11 : decode cX12_taking 11 = .ok (.iadd, 1) := by decide +kernel
theorem dX12_taking_12 : decode cX12_taking 12 = .ok (.iastore, 1) := by decide +kernel
theorem dX12_taking_13 : decode cX12_taking 13 = .ok (.aload_n 0, 1) := by decide +kernel
theorem dX12_taking_14 : decode cX12_taking 14 = .ok (.getfield 33, 3) := by decide +kernel
theorem dX12_taking_17 : decode cX12_taking 17 = .ok (.bipush 102, 2) := by decide +kernel
theorem dX12_taking_19 : decode cX12_taking 19 = .ok (.iload_n 2, 1) := by decide +kernel
theorem dX12_taking_20 : decode cX12_taking 20 = .ok (.iadd, 1) := by decide +kernel
theorem dX12_taking_21 : decode cX12_taking 21 = .ok (.iload_n 1, 1) := by decide +kernel
theorem dX12_taking_22 : decode cX12_taking 22 = .ok (.iconst 1, 1) := by decide +kernel
theorem dX12_taking_23 : decode cX12_taking 23 = .ok (.iadd, 1) := by decide +kernel
theorem dX12_taking_24 : decode cX12_taking 24 = .ok (.iastore, 1) := by decide +kernel
theorem dX12_taking_25 : decode cX12_taking 25 = .ok (.aload_n 0, 1) := by decide +kernel
theorem dX12_taking_26 : decode cX12_taking 26 = .ok (.getfield 33, 3) := by decide +kernel
theorem dX12_taking_29 : decode cX12_taking 29 = .ok (.bipush 96, 2) := by decide +kernel
theorem dX12_taking_31 : decode cX12_taking 31 = .ok (.iload_n 2, 1) := by decide +kernel
theorem dX12_taking_32 : decode cX12_taking 32 = .ok (.iadd, 1) := by decide +kernel
theorem dX12_taking_33 : decode cX12_taking 33 = .ok (.iconst 1, 1) := by decide +kernel
theorem dX12_taking_34 : decode cX12_taking 34 = .ok (.iastore, 1) := by decide +kernel
theorem dX12_taking_35 : decode cX12_taking 35 = .ok (.return_, 1) := by decide +kernel
set_option maxHeartbeats 4000000 in
theorem c_M_taking {ad wad : Nat → Nat} (a0 : Int32) (a1 : Int32) (h : HS)  (q : Unit × HS) (hd : f_M_taking a0 a1 h = some q) : Ctr SHm ad wad yX12_taking cX12_taking 3 none 1 [.ref (ad 0), .int a0, .int a1] h (none, q.2) := by
  refine enter (own := RX12) (lv := [(0, .ref (ad 0)), (1, .int a0), (2, .int a1)]) (by decide +kernel) rfl (Nat.le_of_ble_eq_true rfl) rfl (fun Γ hG => ?_)
  unfold f_M_taking at hd
  refine a_aload_n (pc := 0) hG 0 rfl dX12_taking_0 rfl ?_
  refine a_getR (pc := 1) hG sm_0 cl_X12 ok_X12 6 (by decide) rfl t_1615 dX12_taking_1 ?_
  refine a_sipush (pc := 4) hG dX12_taking_4 (v := (nI 131)) rfl ?_
  refine a_iload_n (pc := 7) hG 1 rfl dX12_taking_7 rfl ?_
  refine a_iadd (pc := 8) hG dX12_taking_8 ?_
  refine a_iload_n (pc := 9) hG 2 rfl dX12_taking_9 rfl ?_
  refine a_iconst (pc := 10) hG dX12_taking_10 (v := (nI 1)) rfl ?_
  refine a_iadd (pc := 11) hG dX12_taking_11 ?_
  refine a_iast (pc := 12) hG sm_2 hd dX12_taking_12 (fun h1 hd => ?_)
  refine a_aload_n (pc := 13) hG 0 rfl dX12_taking_13 rfl ?_
  refine a_getR (pc := 14) hG sm_0 cl_X12 ok_X12 6 (by decide) rfl t_1615 dX12_taking_14 ?_
  refine a_bipush (pc := 17) hG dX12_taking_17 (v := (nI 102)) rfl ?_
  refine a_iload_n (pc := 19) hG 2 rfl dX12_taking_19 rfl ?_
  refine a_iadd (pc := 20) hG dX12_taking_20 ?_
  refine a_iload_n (pc := 21) hG 1 rfl dX12_taking_21 rfl ?_
  refine a_iconst (pc := 22) hG dX12_taking_22 (v := (nI 1)) rfl ?_
  refine a_iadd (pc := 23) hG dX12_taking_23 ?_
  refine a_iast (pc := 24) hG sm_2 hd dX12_taking_24 (fun h2 hd => ?_)
  refine a_aload_n (pc := 25) hG 0 rfl dX12_taking_25 rfl ?_
  refine a_getR (pc := 26) hG sm_0 cl_X12 ok_X12 6 (by decide) rfl t_1615 dX12_taking_26 ?_
  refine a_bipush (pc := 29) hG dX12_taking_29 (v := (nI 96)) rfl ?_
  refine a_iload_n (pc := 31) hG 2 rfl dX12_taking_31 rfl ?_
  refine a_iadd (pc := 32) hG dX12_taking_32 ?_
  refine a_iconst (pc := 33) hG dX12_taking_33 (v := (nI 1)) rfl ?_
  refine a_iast (pc := 34) hG sm_2 hd dX12_taking_34 (fun h3 hd => ?_)
  exact a_vret (pc := 35) hG hd dX12_taking_35
theorem dX12_take_0 : decode cX12_take 0 = .ok (.aload_n 0, 1) := by decide +kernel
theorem dX12_take_1 : decode cX12_take 1 = .ok (.iconst 0, 1) := by decide +kernel
theorem dX12_take_2 : decode cX12_take 2 = .ok (.putfield 1, 3) := by decide +kernel
theorem dX12_take_5 : decode cX12_take 5 = .ok (.aload_n 0, 1) := by decide +kernel
theorem dX12_take_6 : decode cX12_take 6 = .ok (.iload_n 1, 1) := by decide +kernel
theorem dX12_take_7 : decode cX12_take 7 = .ok (.invokevirtual 269, 3) := by decide +kernel
theorem dX12_take_10 : decode cX12_take 10 = .ok (.ifCond .eq 11, 3) := by decide +kernel
theorem dX12_take_13 : decode cX12_take 13 = .ok (.aload_n 0, 1) := by decide +kernel
theorem dX12_take_14 : decode cX12_take 14 = .ok (.iload_n 2, 1) := by decide +kernel
theorem dX12_take_15 : decode cX12_take 15 = .ok (.invokevirtual 255, 3) := by decide +kernel
theorem dX12_take_18 : decode cX12_take 18 = .ok (.ifCond .ne 5, 3) := by decide +kernel
theorem dX12_take_21 : decode cX12_take 21 = .ok (.iconst (-1), 1) := by decide +kernel
theorem dX12_take_22 : decode cX12_take 22 = .ok (.ireturn, 1) := by decide +kernel
theorem dX12_take_23 : decode cX12_take 23 = .ok (.aload_n 0, 1) := by decide +kernel
theorem dX12_take_24 : decode cX12_take 24 = .ok (.iload_n 1, 1) := by decide +kernel
theorem dX12_take_25 : decode cX12_take 25 = .ok (.iload_n 2, 1) := by decide +kernel
theorem dX12_take_26 : decode cX12_take 26 = .ok (.invokevirtual 278, 3) := by decide +kernel
theorem dX12_take_29 : decode cX12_take 29 = .ok (.istore_n 3, 1) := by decide +kernel
theorem dX12_take_30 : decode cX12_take 30 = .ok (.iload_n 3, 1) := by decide +kernel
theorem dX12_take_31 : decode cX12_take 31 = .ok (.ifCond .le 5, 3) := by decide +kernel
theorem dX12_take_34 : decode cX12_take 34 = .ok (.iload_n 3, 1) := by decide +kernel
theorem dX12_take_35 : decode cX12_take 35 = .ok (.ireturn, 1) := by decide +kernel
theorem dX12_take_36 : decode cX12_take 36 = .ok (.aload_n 0, 1) := by decide +kernel
theorem dX12_take_37 : decode cX12_take 37 = .ok (.invokevirtual 281, 3) := by decide +kernel
theorem dX12_take_40 : decode cX12_take 40 = .ok (.aload_n 0, 1) := by decide +kernel
theorem dX12_take_41 : decode cX12_take 41 = .ok (.iload_n 1, 1) := by decide +kernel
theorem dX12_take_42 : decode cX12_take 42 = .ok (.iload_n 2, 1) := by decide +kernel
theorem dX12_take_43 : decode cX12_take 43 = .ok (.invokevirtual 284, 3) := by decide +kernel
theorem dX12_take_46 : decode cX12_take 46 = .ok (.iconst 0, 1) := by decide +kernel
theorem dX12_take_47 : decode cX12_take 47 = .ok (.ireturn, 1) := by decide +kernel
set_option maxHeartbeats 4000000 in
theorem c_M_take {ad wad : Nat → Nat} (F : Nat) (a0 : Int32) (a1 : Int32) (h : HS)  (q : Int32 × HS) (hd : f_M_take F a0 a1 h = some q) : Ctr SHm ad wad yX12_take cX12_take 4 (some .int) 7 [.ref (ad 0), .int a0, .int a1] h (some (.int q.1), q.2) := by
  refine enter (own := RX12) (lv := [(0, .ref (ad 0)), (1, .int a0), (2, .int a1)]) (by decide +kernel) rfl (Nat.le_of_ble_eq_true rfl) rfl (fun Γ hG => ?_)
  unfold f_M_take at hd
  refine a_aload_n (pc := 0) hG 0 rfl dX12_take_0 rfl ?_
  refine a_iconst (pc := 1) hG dX12_take_1 (v := (nI 0)) rfl ?_
  refine a_putI (pc := 2) hG sm_0 cl_X12 ok_X12 0 (by decide) rfl t_1609 rfl (ty := .int) rfl rfl rfl hd dX12_take_2 (fun h1 hd => ?_)
  refine a_aload_n (pc := 5) hG 0 rfl dX12_take_5 rfl ?_
  refine a_iload_n (pc := 6) hG 1 rfl dX12_take_6 rfl ?_
  refine a_cvI (pc := 7) hG (As := [.int a0]) (st := []) sm_0 cl_X12 mk_X12_isClerk t_1873 (by omega) (fun z hz => c_M_isClerk a0 _  z hz) rfl (Nat.le_of_ble_eq_true rfl) hd dX12_take_7 (fun r3 h2 hd => ?_)
  refine a_if_eq (pc := 10) hG (tgt := 21) hd dX12_take_10 (by decide) (fun hd => ?_) (fun hd => ?_)
  · refine a_iconst (pc := 21) hG dX12_take_21 (v := (-1 : Int32)) rfl ?_
    exact a_iret (pc := 22) hG hd dX12_take_22
  refine a_aload_n (pc := 13) hG 0 rfl dX12_take_13 rfl ?_
  refine a_iload_n (pc := 14) hG 2 rfl dX12_take_14 rfl ?_
  refine a_cvI (pc := 15) hG (As := [.int a1]) (st := []) sm_0 cl_X12 mk_X12_isCause t_1830 (by omega) (fun z hz => c_M_isCause a1 _  z hz) rfl (Nat.le_of_ble_eq_true rfl) hd dX12_take_15 (fun r5 h4 hd => ?_)
  refine a_if_ne (pc := 18) hG (tgt := 23) hd dX12_take_18 (by decide) (fun hd => ?_) (fun hd => ?_)
  · refine a_aload_n (pc := 23) hG 0 rfl dX12_take_23 rfl ?_
    refine a_iload_n (pc := 24) hG 1 rfl dX12_take_24 rfl ?_
    refine a_iload_n (pc := 25) hG 2 rfl dX12_take_25 rfl ?_
    refine a_cvI (pc := 26) hG (As := [.int a0, .int a1]) (st := []) sm_0 cl_X12 mk_X12_whyTake t_1885 (by omega) (fun z hz => c_M_whyTake F a0 a1 _  z hz) rfl (Nat.le_of_ble_eq_true rfl) hd dX12_take_26 (fun r7 h6 hd => ?_)
    refine a_istore_nN (pc := 29) hG hd dX12_take_29 rfl (by decide) (lf := fun x => [(3, .int x), (0, .ref (ad 0)), (1, .int a0), (2, .int a1)]) (fun _ => rfl) (fun v8 hd => ?_)
    refine a_iload_n (pc := 30) hG 0 rfl dX12_take_30 rfl ?_
    refine a_if_le (pc := 31) hG (tgt := 36) hd dX12_take_31 (by decide) (fun hd => ?_) (fun hd => ?_)
    · refine a_aload_n (pc := 36) hG 1 rfl dX12_take_36 rfl ?_
      refine a_cvN (pc := 37) hG (As := []) (st := []) sm_0 cl_X12 mk_X12_keep t_1897 (by omega) (fun z hz => c_M_keep F  _  z hz) rfl (Nat.le_of_ble_eq_true rfl) hd dX12_take_37 (fun _ h9 hd => ?_)
      refine a_aload_n (pc := 40) hG 1 rfl dX12_take_40 rfl ?_
      refine a_iload_n (pc := 41) hG 2 rfl dX12_take_41 rfl ?_
      refine a_iload_n (pc := 42) hG 3 rfl dX12_take_42 rfl ?_
      refine a_cvN (pc := 43) hG (As := [.int a0, .int a1]) (st := []) sm_0 cl_X12 mk_X12_taking t_1901 (by omega) (fun z hz => c_M_taking a0 a1 _  z hz) rfl (Nat.le_of_ble_eq_true rfl) hd dX12_take_43 (fun _ h10 hd => ?_)
      refine a_iconst (pc := 46) hG dX12_take_46 (v := (nI 0)) rfl ?_
      exact a_iret (pc := 47) hG hd dX12_take_47
    refine a_iload_n (pc := 34) hG 0 rfl dX12_take_34 rfl ?_
    exact a_iret (pc := 35) hG hd dX12_take_35
  refine a_iconst (pc := 21) hG dX12_take_21 (v := (-1 : Int32)) rfl ?_
  exact a_iret (pc := 22) hG hd dX12_take_22
theorem dX12_whyAct_0 : decode cX12_whyAct 0 = .ok (.aload_n 0, 1) := by decide +kernel
theorem dX12_whyAct_1 : decode cX12_whyAct 1 = .ok (.getfield 33, 3) := by decide +kernel
theorem dX12_whyAct_4 : decode cX12_whyAct 4 = .ok (.sipush 131, 3) := by decide +kernel
theorem dX12_whyAct_7 : decode cX12_whyAct 7 = .ok (.iload_n 1, 1) := by decide +kernel
theorem dX12_whyAct_8 : decode cX12_whyAct 8 = .ok (.iadd, 1) := by decide +kernel
theorem dX12_whyAct_9 : decode cX12_whyAct 9 = .ok (.iaload, 1) := by decide +kernel
theorem dX12_whyAct_10 : decode cX12_whyAct 10 = .ok (.iconst 1, 1) := by decide +kernel
theorem dX12_whyAct_11 : decode cX12_whyAct 11 = .ok (.isub, 1) := by decide +kernel
theorem dX12_whyAct_12 : decode cX12_whyAct 12 = .ok (.istore_n 3, 1) := by decide +kernel
theorem dX12_whyAct_13 : decode cX12_whyAct 13 = .ok (.iload_n 3, 1) := by decide +kernel
theorem dX12_whyAct_14 : decode cX12_whyAct 14 = .ok (.ifCond .ge 7, 3) := by decide +kernel
theorem dX12_whyAct_17 : decode cX12_whyAct 17 = .ok (.iconst 1, 1) := by decide +kernel
theorem dX12_whyAct_18 : decode cX12_whyAct 18 = .ok (.goto 81, 3) := by decide +kernel
theorem dX12_whyAct_21 : decode cX12_whyAct 21 = .ok (.aload_n 0, 1) := by decide +kernel
theorem dX12_whyAct_22 : decode cX12_whyAct 22 = .ok (.getfield 33, 3) := by decide +kernel
theorem dX12_whyAct_25 : decode cX12_whyAct 25 = .ok (.bipush 108, 2) := by decide +kernel
theorem dX12_whyAct_27 : decode cX12_whyAct 27 = .ok (.iload_n 3, 1) := by decide +kernel
theorem dX12_whyAct_28 : decode cX12_whyAct 28 = .ok (.iadd, 1) := by decide +kernel
theorem dX12_whyAct_29 : decode cX12_whyAct 29 = .ok (.iaload, 1) := by decide +kernel
theorem dX12_whyAct_30 : decode cX12_whyAct 30 = .ok (.iload_n 2, 1) := by decide +kernel
theorem dX12_whyAct_31 : decode cX12_whyAct 31 = .ok (.invokestatic 206, 3) := by decide +kernel
theorem dX12_whyAct_34 : decode cX12_whyAct 34 = .ok (.ifCond .eq 7, 3) := by decide +kernel
theorem dX12_whyAct_37 : decode cX12_whyAct 37 = .ok (.iconst 2, 1) := by decide +kernel
theorem dX12_whyAct_38 : decode cX12_whyAct 38 = .ok (.goto 61, 3) := by decide +kernel
theorem dX12_whyAct_41 : decode cX12_whyAct 41 = .ok (.aload_n 0, 1) := by decide +kernel
theorem dX12_whyAct_42 : decode cX12_whyAct 42 = .ok (.getfield 33, 3) := by decide +kernel
theorem dX12_whyAct_45 : decode cX12_whyAct 45 = .ok (.bipush 126, 2) := by decide +kernel
theorem dX12_whyAct_47 : decode cX12_whyAct 47 = .ok (.iload_n 1, 1) := by decide +kernel
theorem dX12_whyAct_48 : decode cX12_whyAct 48 = .ok (.iadd, 1) := by decide +kernel
theorem dX12_whyAct_49 : decode cX12_whyAct 49 = .ok (.iaload, 1) := by decide +kernel
theorem dX12_whyAct_50 : decode cX12_whyAct 50 = .ok (.ifCond .ne 7, 3) := by decide +kernel
theorem dX12_whyAct_53 : decode cX12_whyAct 53 = .ok (.iconst 3, 1) := by decide +kernel
theorem dX12_whyAct_54 : decode cX12_whyAct 54 = .ok (.goto 45, 3) := by decide +kernel
theorem dX12_whyAct_57 : decode cX12_whyAct 57 = .ok (.aload_n 0, 1) := by decide +kernel
theorem dX12_whyAct_58 : decode cX12_whyAct 58 = .ok (.getfield 33, 3) := by decide +kernel
theorem dX12_whyAct_61 : decode cX12_whyAct 61 = .ok (.sipush 141, 3) := by decide +kernel
theorem dX12_whyAct_64 : decode cX12_whyAct 64 = .ok (.iload_n 1, 1) := by decide +kernel
theorem dX12_whyAct_65 : decode cX12_whyAct 65 = .ok (.iadd, 1) := by decide +kernel
theorem dX12_whyAct_66 : decode cX12_whyAct 66 = .ok (.iaload, 1) := by decide +kernel
theorem dX12_whyAct_67 : decode cX12_whyAct 67 = .ok (.iconst 1, 1) := by decide +kernel
theorem dX12_whyAct_68 : decode cX12_whyAct 68 = .ok (.if_icmp .ne 7, 3) := by decide +kernel
theorem dX12_whyAct_71 : decode cX12_whyAct 71 = .ok (.iconst 4, 1) := by decide +kernel
theorem dX12_whyAct_72 : decode cX12_whyAct 72 = .ok (.goto 27, 3) := by decide +kernel
theorem dX12_whyAct_75 : decode cX12_whyAct 75 = .ok (.aload_n 0, 1) := by decide +kernel
theorem dX12_whyAct_76 : decode cX12_whyAct 76 = .ok (.getfield 33, 3) := by decide +kernel
theorem dX12_whyAct_79 : decode cX12_whyAct 79 = .ok (.bipush 61, 2) := by decide +kernel
theorem dX12_whyAct_81 : decode cX12_whyAct 81 = .ok (.iload_n 2, 1) := by decide +kernel
theorem dX12_whyAct_82 : decode cX12_whyAct 82 = .ok (.iadd, 1) := by decide +kernel
theorem dX12_whyAct_83 : decode cX12_whyAct 83 = .ok (.iaload, 1) := by decide +kernel
theorem dX12_whyAct_84 : decode cX12_whyAct 84 = .ok (.aload_n 0, 1) := by decide +kernel
theorem dX12_whyAct_85 : decode cX12_whyAct 85 = .ok (.getfield 33, 3) := by decide +kernel
theorem dX12_whyAct_88 : decode cX12_whyAct 88 = .ok (.bipush 73, 2) := by decide +kernel
theorem dX12_whyAct_90 : decode cX12_whyAct 90 = .ok (.iaload, 1) := by decide +kernel
theorem dX12_whyAct_91 : decode cX12_whyAct 91 = .ok (.if_icmp .le 7, 3) := by decide +kernel
theorem dX12_whyAct_94 : decode cX12_whyAct 94 = .ok (.iconst 5, 1) := by decide +kernel
theorem dX12_whyAct_95 : decode cX12_whyAct 95 = .ok (.goto 4, 3) := by decide +kernel
theorem dX12_whyAct_98 : decode cX12_whyAct 98 = .ok (.iconst 0, 1) := by decide +kernel
theorem dX12_whyAct_99 : decode cX12_whyAct 99 = .ok (.ireturn, 1) := by decide +kernel
set_option maxHeartbeats 4000000 in
theorem c_M_whyAct {ad wad : Nat → Nat} (a0 : Int32) (a1 : Int32) (h : HS)  (q : Int32 × HS) (hd : f_M_whyAct a0 a1 h = some q) : Ctr SHm ad wad yX12_whyAct cX12_whyAct 4 (some .int) 2 [.ref (ad 0), .int a0, .int a1] h (some (.int q.1), q.2) := by
  refine enter (own := RX12) (lv := [(0, .ref (ad 0)), (1, .int a0), (2, .int a1)]) (by decide +kernel) rfl (Nat.le_of_ble_eq_true rfl) rfl (fun Γ hG => ?_)
  unfold f_M_whyAct at hd
  refine a_aload_n (pc := 0) hG 0 rfl dX12_whyAct_0 rfl ?_
  refine a_getR (pc := 1) hG sm_0 cl_X12 ok_X12 6 (by decide) rfl t_1615 dX12_whyAct_1 ?_
  refine a_sipush (pc := 4) hG dX12_whyAct_4 (v := (nI 131)) rfl ?_
  refine a_iload_n (pc := 7) hG 1 rfl dX12_whyAct_7 rfl ?_
  refine a_iadd (pc := 8) hG dX12_whyAct_8 ?_
  refine a_iald (pc := 9) hG sm_2 hd dX12_whyAct_9 (fun hd => ?_)
  refine a_iconst (pc := 10) hG dX12_whyAct_10 (v := (nI 1)) rfl ?_
  refine a_isub (pc := 11) hG dX12_whyAct_11 ?_
  refine a_istore_nN (pc := 12) hG hd dX12_whyAct_12 rfl (by decide) (lf := fun x => [(3, .int x), (0, .ref (ad 0)), (1, .int a0), (2, .int a1)]) (fun _ => rfl) (fun v1 hd => ?_)
  refine a_iload_n (pc := 13) hG 0 rfl dX12_whyAct_13 rfl ?_
  refine a_if_ge (pc := 14) hG (tgt := 21) hd dX12_whyAct_14 (by decide) (fun hd => ?_) (fun hd => ?_)
  · refine a_aload_n (pc := 21) hG 1 rfl dX12_whyAct_21 rfl ?_
    refine a_getR (pc := 22) hG sm_0 cl_X12 ok_X12 6 (by decide) rfl t_1615 dX12_whyAct_22 ?_
    refine a_bipush (pc := 25) hG dX12_whyAct_25 (v := (nI 108)) rfl ?_
    refine a_iload_n (pc := 27) hG 0 rfl dX12_whyAct_27 rfl ?_
    refine a_iadd (pc := 28) hG dX12_whyAct_28 ?_
    refine a_iald (pc := 29) hG sm_2 hd dX12_whyAct_29 (fun hd => ?_)
    refine a_iload_n (pc := 30) hG 3 rfl dX12_whyAct_30 rfl ?_
    refine a_csI (pc := 31) hG (As := [.int (h.1 2 ((nI 108) + v1).toNatClampNeg), .int a1]) (st := []) mk_X12_bitOf t_1780 (by omega) (fun z hz => c_M_bitOf (h.1 2 ((nI 108) + v1).toNatClampNeg) a1 _  z hz) rfl (Nat.le_of_ble_eq_true rfl) hd dX12_whyAct_31 (fun r3 h2 hd => ?_)
    refine a_if_eq (pc := 34) hG (tgt := 41) hd dX12_whyAct_34 (by decide) (fun hd => ?_) (fun hd => ?_)
    · refine a_aload_n (pc := 41) hG 1 rfl dX12_whyAct_41 rfl ?_
      refine a_getR (pc := 42) hG sm_0 cl_X12 ok_X12 6 (by decide) rfl t_1615 dX12_whyAct_42 ?_
      refine a_bipush (pc := 45) hG dX12_whyAct_45 (v := (nI 126)) rfl ?_
      refine a_iload_n (pc := 47) hG 2 rfl dX12_whyAct_47 rfl ?_
      refine a_iadd (pc := 48) hG dX12_whyAct_48 ?_
      refine a_iald (pc := 49) hG sm_2 hd dX12_whyAct_49 (fun hd => ?_)
      refine a_if_ne (pc := 50) hG (tgt := 57) hd dX12_whyAct_50 (by decide) (fun hd => ?_) (fun hd => ?_)
      · refine a_aload_n (pc := 57) hG 1 rfl dX12_whyAct_57 rfl ?_
        refine a_getR (pc := 58) hG sm_0 cl_X12 ok_X12 6 (by decide) rfl t_1615 dX12_whyAct_58 ?_
        refine a_sipush (pc := 61) hG dX12_whyAct_61 (v := (nI 141)) rfl ?_
        refine a_iload_n (pc := 64) hG 2 rfl dX12_whyAct_64 rfl ?_
        refine a_iadd (pc := 65) hG dX12_whyAct_65 ?_
        refine a_iald (pc := 66) hG sm_2 hd dX12_whyAct_66 (fun hd => ?_)
        refine a_iconst (pc := 67) hG dX12_whyAct_67 (v := (nI 1)) rfl ?_
        refine a_ic_ne (pc := 68) hG (tgt := 75) hd dX12_whyAct_68 (by decide) (fun hd => ?_) (fun hd => ?_)
        · refine a_aload_n (pc := 75) hG 1 rfl dX12_whyAct_75 rfl ?_
          refine a_getR (pc := 76) hG sm_0 cl_X12 ok_X12 6 (by decide) rfl t_1615 dX12_whyAct_76 ?_
          refine a_bipush (pc := 79) hG dX12_whyAct_79 (v := (nI 61)) rfl ?_
          refine a_iload_n (pc := 81) hG 3 rfl dX12_whyAct_81 rfl ?_
          refine a_iadd (pc := 82) hG dX12_whyAct_82 ?_
          refine a_iald (pc := 83) hG sm_2 hd dX12_whyAct_83 (fun hd => ?_)
          refine a_aload_n (pc := 84) hG 1 rfl dX12_whyAct_84 rfl ?_
          refine a_getR (pc := 85) hG sm_0 cl_X12 ok_X12 6 (by decide) rfl t_1615 dX12_whyAct_85 ?_
          refine a_bipush (pc := 88) hG dX12_whyAct_88 (v := (nI 73)) rfl ?_
          refine a_iald (pc := 90) hG sm_2 hd dX12_whyAct_90 (fun hd => ?_)
          refine a_ic_le (pc := 91) hG (tgt := 98) hd dX12_whyAct_91 (by decide) (fun hd => ?_) (fun hd => ?_)
          · refine a_iconst (pc := 98) hG dX12_whyAct_98 (v := (nI 0)) rfl ?_
            exact a_iret (pc := 99) hG hd dX12_whyAct_99
          refine a_iconst (pc := 94) hG dX12_whyAct_94 (v := (nI 5)) rfl ?_
          refine a_goto (pc := 95) hG (tgt := 99) dX12_whyAct_95 (by decide) ?_
          exact a_iret (pc := 99) hG hd dX12_whyAct_99
        refine a_iconst (pc := 71) hG dX12_whyAct_71 (v := (nI 4)) rfl ?_
        refine a_goto (pc := 72) hG (tgt := 99) dX12_whyAct_72 (by decide) ?_
        exact a_iret (pc := 99) hG hd dX12_whyAct_99
      refine a_iconst (pc := 53) hG dX12_whyAct_53 (v := (nI 3)) rfl ?_
      refine a_goto (pc := 54) hG (tgt := 99) dX12_whyAct_54 (by decide) ?_
      exact a_iret (pc := 99) hG hd dX12_whyAct_99
    refine a_iconst (pc := 37) hG dX12_whyAct_37 (v := (nI 2)) rfl ?_
    refine a_goto (pc := 38) hG (tgt := 99) dX12_whyAct_38 (by decide) ?_
    exact a_iret (pc := 99) hG hd dX12_whyAct_99
  refine a_iconst (pc := 17) hG dX12_whyAct_17 (v := (nI 1)) rfl ?_
  refine a_goto (pc := 18) hG (tgt := 99) dX12_whyAct_18 (by decide) ?_
  exact a_iret (pc := 99) hG hd dX12_whyAct_99
theorem dX12_acting_0 : decode cX12_acting 0 = .ok (.aload_n 0, 1) := by decide +kernel
theorem dX12_acting_1 : decode cX12_acting 1 = .ok (.getfield 33, 3) := by decide +kernel
theorem dX12_acting_4 : decode cX12_acting 4 = .ok (.sipush 131, 3) := by decide +kernel
theorem dX12_acting_7 : decode cX12_acting 7 = .ok (.iload_n 1, 1) := by decide +kernel
theorem dX12_acting_8 : decode cX12_acting 8 = .ok (.iadd, 1) := by decide +kernel
theorem dX12_acting_9 : decode cX12_acting 9 = .ok (.iaload, 1) := by decide +kernel
theorem dX12_acting_10 : decode cX12_acting 10 = .ok (.iconst 1, 1) := by decide +kernel
theorem dX12_acting_11 : decode cX12_acting 11 = .ok (.isub, 1) := by decide +kernel
theorem dX12_acting_12 : decode cX12_acting 12 = .ok (.istore_n 3, 1) := by decide +kernel
theorem dX12_acting_13 : decode cX12_acting 13 = .ok (.aload_n 0, 1) := by decide +kernel
theorem dX12_acting_14 : decode cX12_acting 14 = .ok (.getfield 33, 3) := by decide +kernel
theorem dX12_acting_17 : decode cX12_acting 17 = .ok (.bipush 78, 2) := by decide +kernel
theorem dX12_acting_19 : decode cX12_acting 19 = .ok (.iload_n 3, 1) := by decide +kernel
theorem dX12_acting_20 : decode cX12_acting 20 = .ok (.iadd, 1) := by decide +kernel
theorem dX12_acting_21 : decode cX12_acting 21 = .ok (.dup2, 1) := by decide +kernel
theorem dX12_acting_22 : decode cX12_acting 22 = .ok (.iaload, 1) := by decide +kernel
theorem dX12_acting_23 : decode cX12_acting 23 = .ok (.aload_n 0, 1) := by decide +kernel
theorem dX12_acting_24 : decode cX12_acting 24 = .ok (.getfield 33, 3) := by decide +kernel
theorem dX12_acting_27 : decode cX12_acting 27 = .ok (.bipush 49, 2) := by decide +kernel
theorem dX12_acting_29 : decode cX12_acting 29 = .ok (.iload_n 2, 1) := by decide +kernel
theorem dX12_acting_30 : decode cX12_acting 30 = .ok (.iadd, 1) := by decide +kernel
theorem dX12_acting_31 : decode cX12_acting 31 = .ok (.iaload, 1) := by decide +kernel
theorem dX12_acting_32 : decode cX12_acting 32 = .ok (.iadd, 1) := by decide +kernel
theorem dX12_acting_33 : decode cX12_acting 33 = .ok (.iastore, 1) := by decide +kernel
theorem dX12_acting_34 : decode cX12_acting 34 = .ok (.aload_n 0, 1) := by decide +kernel
theorem dX12_acting_35 : decode cX12_acting 35 = .ok (.getfield 33, 3) := by decide +kernel
theorem dX12_acting_38 : decode cX12_acting 38 = .ok (.bipush 84, 2) := by decide +kernel
theorem dX12_acting_40 : decode cX12_acting 40 = .ok (.iload_n 3, 1) := by decide +kernel
theorem dX12_acting_41 : decode cX12_acting 41 = .ok (.iadd, 1) := by decide +kernel
theorem dX12_acting_42 : decode cX12_acting 42 = .ok (.dup2, 1) := by decide +kernel
theorem dX12_acting_43 : decode cX12_acting 43 = .ok (.iaload, 1) := by decide +kernel
theorem dX12_acting_44 : decode cX12_acting 44 = .ok (.aload_n 0, 1) := by decide +kernel
theorem dX12_acting_45 : decode cX12_acting 45 = .ok (.getfield 33, 3) := by decide +kernel
theorem dX12_acting_48 : decode cX12_acting 48 = .ok (.bipush 55, 2) := by decide +kernel
theorem dX12_acting_50 : decode cX12_acting 50 = .ok (.iload_n 2, 1) := by decide +kernel
theorem dX12_acting_51 : decode cX12_acting 51 = .ok (.iadd, 1) := by decide +kernel
theorem dX12_acting_52 : decode cX12_acting 52 = .ok (.iaload, 1) := by decide +kernel
theorem dX12_acting_53 : decode cX12_acting 53 = .ok (.iadd, 1) := by decide +kernel
theorem dX12_acting_54 : decode cX12_acting 54 = .ok (.iastore, 1) := by decide +kernel
theorem dX12_acting_55 : decode cX12_acting 55 = .ok (.aload_n 0, 1) := by decide +kernel
theorem dX12_acting_56 : decode cX12_acting 56 = .ok (.getfield 33, 3) := by decide +kernel
theorem dX12_acting_59 : decode cX12_acting 59 = .ok (.bipush 108, 2) := by decide +kernel
theorem dX12_acting_61 : decode cX12_acting 61 = .ok (.iload_n 3, 1) := by decide +kernel
theorem dX12_acting_62 : decode cX12_acting 62 = .ok (.iadd, 1) := by decide +kernel
theorem dX12_acting_63 : decode cX12_acting 63 = .ok (.dup2, 1) := by decide +kernel
theorem dX12_acting_64 : decode cX12_acting 64 = .ok (.iaload, 1) := by decide +kernel
theorem dX12_acting_65 : decode cX12_acting 65 = .ok (.iconst 1, 1) := by decide +kernel
theorem dX12_acting_66 : decode cX12_acting 66 = .ok (.iload_n 2, 1) := by decide +kernel
theorem dX12_acting_67 : decode cX12_acting 67 = .ok (.ishl, 1) := by decide +kernel
theorem dX12_acting_68 : decode cX12_acting 68 = .ok (.ior, 1) := by decide +kernel
theorem dX12_acting_69 : decode cX12_acting 69 = .ok (.iastore, 1) := by decide +kernel
theorem dX12_acting_70 : decode cX12_acting 70 = .ok (.aload_n 0, 1) := by decide +kernel
theorem dX12_acting_71 : decode cX12_acting 71 = .ok (.getfield 33, 3) := by decide +kernel
theorem dX12_acting_74 : decode cX12_acting 74 = .ok (.bipush 73, 2) := by decide +kernel
theorem dX12_acting_76 : decode cX12_acting 76 = .ok (.dup2, 1) := by decide +kernel
theorem dX12_acting_77 : decode cX12_acting 77 = .ok (.iaload, 1) := by decide +kernel
theorem dX12_acting_78 : decode cX12_acting 78 = .ok (.aload_n 0, 1) := by decide +kernel
theorem dX12_acting_79 : decode cX12_acting 79 = .ok (.getfield 33, 3) := by decide +kernel
theorem dX12_acting_82 : decode cX12_acting 82 = .ok (.bipush 61, 2) := by decide +kernel
theorem dX12_acting_84 : decode cX12_acting 84 = .ok (.iload_n 2, 1) := by decide +kernel
theorem dX12_acting_85 : decode cX12_acting 85 = .ok (.iadd, 1) := by decide +kernel
theorem dX12_acting_86 : decode cX12_acting 86 = .ok (.iaload, 1) := by decide +kernel
theorem dX12_acting_87 : decode cX12_acting 87 = .ok (.isub, 1) := by decide +kernel
theorem dX12_acting_88 : decode cX12_acting 88 = .ok (.iastore, 1) := by decide +kernel
theorem dX12_acting_89 : decode cX12_acting 89 = .ok (.aload_n 0, 1) := by decide +kernel
theorem dX12_acting_90 : decode cX12_acting 90 = .ok (.getfield 33, 3) := by decide +kernel
theorem dX12_acting_93 : decode cX12_acting 93 = .ok (.bipush 126, 2) := by decide +kernel
theorem dX12_acting_95 : decode cX12_acting 95 = .ok (.iload_n 1, 1) := by decide +kernel
theorem dX12_acting_96 : decode cX12_acting 96 = .ok (.iadd, 1) := by decide +kernel
theorem dX12_acting_97 : decode cX12_acting 97 = .ok (.dup2, 1) := by decide +kernel
theorem dX12_acting_98 : decode cX12_acting 98 = .ok (.iaload, 1) := by decide +kernel
theorem dX12_acting_99 : decode cX12_acting 99 = .ok (.iconst 1, 1) := by decide +kernel
theorem dX12_acting_100 : decode cX12_acting 100 = .ok (.isub, 1) := by decide +kernel
theorem dX12_acting_101 : decode cX12_acting 101 = .ok (.iastore, 1) := by decide +kernel
theorem dX12_acting_102 : decode cX12_acting 102 = .ok (.aload_n 0, 1) := by decide +kernel
theorem dX12_acting_103 : decode cX12_acting 103 = .ok (.getfield 33, 3) := by decide +kernel
theorem dX12_acting_106 : decode cX12_acting 106 = .ok (.sipush 141, 3) := by decide +kernel
theorem dX12_acting_109 : decode cX12_acting 109 = .ok (.iload_n 1, 1) := by decide +kernel
theorem dX12_acting_110 : decode cX12_acting 110 = .ok (.iadd, 1) := by decide +kernel
theorem dX12_acting_111 : decode cX12_acting 111 = .ok (.iconst 1, 1) := by decide +kernel
theorem dX12_acting_112 : decode cX12_acting 112 = .ok (.iastore, 1) := by decide +kernel
theorem dX12_acting_113 : decode cX12_acting 113 = .ok (.aload_n 0, 1) := by decide +kernel
theorem dX12_acting_114 : decode cX12_acting 114 = .ok (.getfield 33, 3) := by decide +kernel
theorem dX12_acting_117 : decode cX12_acting 117 = .ok (.sipush 136, 3) := by decide +kernel
theorem dX12_acting_120 : decode cX12_acting 120 = .ok (.iload_n 1, 1) := by decide +kernel
theorem dX12_acting_121 : decode cX12_acting 121 = .ok (.iadd, 1) := by decide +kernel
theorem dX12_acting_122 : decode cX12_acting 122 = .ok (.dup2, 1) := by decide +kernel
theorem dX12_acting_123 : decode cX12_acting 123 = .ok (.iaload, 1) := by decide +kernel
theorem dX12_acting_124 : decode cX12_acting 124 = .ok (.iconst 1, 1) := by decide +kernel
theorem dX12_acting_125 : decode cX12_acting 125 = .ok (.iadd, 1) := by decide +kernel
theorem dX12_acting_126 : decode cX12_acting 126 = .ok (.iastore, 1) := by decide +kernel
theorem dX12_acting_127 : decode cX12_acting 127 = .ok (.aload_n 0, 1) := by decide +kernel
theorem dX12_acting_128 : decode cX12_acting 128 = .ok (.getfield 33, 3) := by decide +kernel
theorem dX12_acting_131 : decode cX12_acting 131 = .ok (.bipush 77, 2) := by decide +kernel
theorem dX12_acting_133 : decode cX12_acting 133 = .ok (.dup2, 1) := by decide +kernel
theorem dX12_acting_134 : decode cX12_acting 134 = .ok (.iaload, 1) := by decide +kernel
theorem dX12_acting_135 : decode cX12_acting 135 = .ok (.iconst 1, 1) := by decide +kernel
theorem dX12_acting_136 : decode cX12_acting 136 = .ok (.iadd, 1) := by decide +kernel
theorem dX12_acting_137 : decode cX12_acting 137 = .ok (.iastore, 1) := by decide +kernel
theorem dX12_acting_138 : decode cX12_acting 138 = .ok (.return_, 1) := by decide +kernel
set_option maxHeartbeats 4000000 in
theorem c_M_acting {ad wad : Nat → Nat} (a0 : Int32) (a1 : Int32) (h : HS)  (q : Unit × HS) (hd : f_M_acting a0 a1 h = some q) : Ctr SHm ad wad yX12_acting cX12_acting 4 none 1 [.ref (ad 0), .int a0, .int a1] h (none, q.2) := by
  refine enter (own := RX12) (lv := [(0, .ref (ad 0)), (1, .int a0), (2, .int a1)]) (by decide +kernel) rfl (Nat.le_of_ble_eq_true rfl) rfl (fun Γ hG => ?_)
  unfold f_M_acting at hd
  refine a_aload_n (pc := 0) hG 0 rfl dX12_acting_0 rfl ?_
  refine a_getR (pc := 1) hG sm_0 cl_X12 ok_X12 6 (by decide) rfl t_1615 dX12_acting_1 ?_
  refine a_sipush (pc := 4) hG dX12_acting_4 (v := (nI 131)) rfl ?_
  refine a_iload_n (pc := 7) hG 1 rfl dX12_acting_7 rfl ?_
  refine a_iadd (pc := 8) hG dX12_acting_8 ?_
  refine a_iald (pc := 9) hG sm_2 hd dX12_acting_9 (fun hd => ?_)
  refine a_iconst (pc := 10) hG dX12_acting_10 (v := (nI 1)) rfl ?_
  refine a_isub (pc := 11) hG dX12_acting_11 ?_
  refine a_istore_nN (pc := 12) hG hd dX12_acting_12 rfl (by decide) (lf := fun x => [(3, .int x), (0, .ref (ad 0)), (1, .int a0), (2, .int a1)]) (fun _ => rfl) (fun v1 hd => ?_)
  refine a_aload_n (pc := 13) hG 1 rfl dX12_acting_13 rfl ?_
  refine a_getR (pc := 14) hG sm_0 cl_X12 ok_X12 6 (by decide) rfl t_1615 dX12_acting_14 ?_
  refine a_bipush (pc := 17) hG dX12_acting_17 (v := (nI 78)) rfl ?_
  refine a_iload_n (pc := 19) hG 0 rfl dX12_acting_19 rfl ?_
  refine a_iadd (pc := 20) hG dX12_acting_20 ?_
  refine a_dup2 (pc := 21) hG dX12_acting_21 rfl rfl ?_
  refine a_iald (pc := 22) hG sm_2 hd dX12_acting_22 (fun hd => ?_)
  refine a_aload_n (pc := 23) hG 1 rfl dX12_acting_23 rfl ?_
  refine a_getR (pc := 24) hG sm_0 cl_X12 ok_X12 6 (by decide) rfl t_1615 dX12_acting_24 ?_
  refine a_bipush (pc := 27) hG dX12_acting_27 (v := (nI 49)) rfl ?_
  refine a_iload_n (pc := 29) hG 3 rfl dX12_acting_29 rfl ?_
  refine a_iadd (pc := 30) hG dX12_acting_30 ?_
  refine a_iald (pc := 31) hG sm_2 hd dX12_acting_31 (fun hd => ?_)
  refine a_iadd (pc := 32) hG dX12_acting_32 ?_
  refine a_iast (pc := 33) hG sm_2 hd dX12_acting_33 (fun h2 hd => ?_)
  refine a_aload_n (pc := 34) hG 1 rfl dX12_acting_34 rfl ?_
  refine a_getR (pc := 35) hG sm_0 cl_X12 ok_X12 6 (by decide) rfl t_1615 dX12_acting_35 ?_
  refine a_bipush (pc := 38) hG dX12_acting_38 (v := (nI 84)) rfl ?_
  refine a_iload_n (pc := 40) hG 0 rfl dX12_acting_40 rfl ?_
  refine a_iadd (pc := 41) hG dX12_acting_41 ?_
  refine a_dup2 (pc := 42) hG dX12_acting_42 rfl rfl ?_
  refine a_iald (pc := 43) hG sm_2 hd dX12_acting_43 (fun hd => ?_)
  refine a_aload_n (pc := 44) hG 1 rfl dX12_acting_44 rfl ?_
  refine a_getR (pc := 45) hG sm_0 cl_X12 ok_X12 6 (by decide) rfl t_1615 dX12_acting_45 ?_
  refine a_bipush (pc := 48) hG dX12_acting_48 (v := (nI 55)) rfl ?_
  refine a_iload_n (pc := 50) hG 3 rfl dX12_acting_50 rfl ?_
  refine a_iadd (pc := 51) hG dX12_acting_51 ?_
  refine a_iald (pc := 52) hG sm_2 hd dX12_acting_52 (fun hd => ?_)
  refine a_iadd (pc := 53) hG dX12_acting_53 ?_
  refine a_iast (pc := 54) hG sm_2 hd dX12_acting_54 (fun h3 hd => ?_)
  refine a_aload_n (pc := 55) hG 1 rfl dX12_acting_55 rfl ?_
  refine a_getR (pc := 56) hG sm_0 cl_X12 ok_X12 6 (by decide) rfl t_1615 dX12_acting_56 ?_
  refine a_bipush (pc := 59) hG dX12_acting_59 (v := (nI 108)) rfl ?_
  refine a_iload_n (pc := 61) hG 0 rfl dX12_acting_61 rfl ?_
  refine a_iadd (pc := 62) hG dX12_acting_62 ?_
  refine a_dup2 (pc := 63) hG dX12_acting_63 rfl rfl ?_
  refine a_iald (pc := 64) hG sm_2 hd dX12_acting_64 (fun hd => ?_)
  refine a_iconst (pc := 65) hG dX12_acting_65 (v := (nI 1)) rfl ?_
  refine a_iload_n (pc := 66) hG 3 rfl dX12_acting_66 rfl ?_
  refine a_ishl (pc := 67) hG dX12_acting_67 ?_
  refine a_ior (pc := 68) hG dX12_acting_68 ?_
  refine a_iast (pc := 69) hG sm_2 hd dX12_acting_69 (fun h4 hd => ?_)
  refine a_aload_n (pc := 70) hG 1 rfl dX12_acting_70 rfl ?_
  refine a_getR (pc := 71) hG sm_0 cl_X12 ok_X12 6 (by decide) rfl t_1615 dX12_acting_71 ?_
  refine a_bipush (pc := 74) hG dX12_acting_74 (v := (nI 73)) rfl ?_
  refine a_dup2 (pc := 76) hG dX12_acting_76 rfl rfl ?_
  refine a_iald (pc := 77) hG sm_2 hd dX12_acting_77 (fun hd => ?_)
  refine a_aload_n (pc := 78) hG 1 rfl dX12_acting_78 rfl ?_
  refine a_getR (pc := 79) hG sm_0 cl_X12 ok_X12 6 (by decide) rfl t_1615 dX12_acting_79 ?_
  refine a_bipush (pc := 82) hG dX12_acting_82 (v := (nI 61)) rfl ?_
  refine a_iload_n (pc := 84) hG 3 rfl dX12_acting_84 rfl ?_
  refine a_iadd (pc := 85) hG dX12_acting_85 ?_
  refine a_iald (pc := 86) hG sm_2 hd dX12_acting_86 (fun hd => ?_)
  refine a_isub (pc := 87) hG dX12_acting_87 ?_
  refine a_iast (pc := 88) hG sm_2 hd dX12_acting_88 (fun h5 hd => ?_)
  refine a_aload_n (pc := 89) hG 1 rfl dX12_acting_89 rfl ?_
  refine a_getR (pc := 90) hG sm_0 cl_X12 ok_X12 6 (by decide) rfl t_1615 dX12_acting_90 ?_
  refine a_bipush (pc := 93) hG dX12_acting_93 (v := (nI 126)) rfl ?_
  refine a_iload_n (pc := 95) hG 2 rfl dX12_acting_95 rfl ?_
  refine a_iadd (pc := 96) hG dX12_acting_96 ?_
  refine a_dup2 (pc := 97) hG dX12_acting_97 rfl rfl ?_
  refine a_iald (pc := 98) hG sm_2 hd dX12_acting_98 (fun hd => ?_)
  refine a_iconst (pc := 99) hG dX12_acting_99 (v := (nI 1)) rfl ?_
  refine a_isub (pc := 100) hG dX12_acting_100 ?_
  refine a_iast (pc := 101) hG sm_2 hd dX12_acting_101 (fun h6 hd => ?_)
  refine a_aload_n (pc := 102) hG 1 rfl dX12_acting_102 rfl ?_
  refine a_getR (pc := 103) hG sm_0 cl_X12 ok_X12 6 (by decide) rfl t_1615 dX12_acting_103 ?_
  refine a_sipush (pc := 106) hG dX12_acting_106 (v := (nI 141)) rfl ?_
  refine a_iload_n (pc := 109) hG 2 rfl dX12_acting_109 rfl ?_
  refine a_iadd (pc := 110) hG dX12_acting_110 ?_
  refine a_iconst (pc := 111) hG dX12_acting_111 (v := (nI 1)) rfl ?_
  refine a_iast (pc := 112) hG sm_2 hd dX12_acting_112 (fun h7 hd => ?_)
  refine a_aload_n (pc := 113) hG 1 rfl dX12_acting_113 rfl ?_
  refine a_getR (pc := 114) hG sm_0 cl_X12 ok_X12 6 (by decide) rfl t_1615 dX12_acting_114 ?_
  refine a_sipush (pc := 117) hG dX12_acting_117 (v := (nI 136)) rfl ?_
  refine a_iload_n (pc := 120) hG 2 rfl dX12_acting_120 rfl ?_
  refine a_iadd (pc := 121) hG dX12_acting_121 ?_
  refine a_dup2 (pc := 122) hG dX12_acting_122 rfl rfl ?_
  refine a_iald (pc := 123) hG sm_2 hd dX12_acting_123 (fun hd => ?_)
  refine a_iconst (pc := 124) hG dX12_acting_124 (v := (nI 1)) rfl ?_
  refine a_iadd (pc := 125) hG dX12_acting_125 ?_
  refine a_iast (pc := 126) hG sm_2 hd dX12_acting_126 (fun h8 hd => ?_)
  refine a_aload_n (pc := 127) hG 1 rfl dX12_acting_127 rfl ?_
  refine a_getR (pc := 128) hG sm_0 cl_X12 ok_X12 6 (by decide) rfl t_1615 dX12_acting_128 ?_
  refine a_bipush (pc := 131) hG dX12_acting_131 (v := (nI 77)) rfl ?_
  refine a_dup2 (pc := 133) hG dX12_acting_133 rfl rfl ?_
  refine a_iald (pc := 134) hG sm_2 hd dX12_acting_134 (fun hd => ?_)
  refine a_iconst (pc := 135) hG dX12_acting_135 (v := (nI 1)) rfl ?_
  refine a_iadd (pc := 136) hG dX12_acting_136 ?_
  refine a_iast (pc := 137) hG sm_2 hd dX12_acting_137 (fun h9 hd => ?_)
  exact a_vret (pc := 138) hG hd dX12_acting_138
